/-! CALLS on the tape: feed, end, row -/
theorem iand_255 {x : Int} : 0 ≤ iand x 255 ∧ iand x 255 ≤ 255 := by
  unfold iand
  have e : (Int32.ofInt x &&& Int32.ofInt 255).toBitVec.toNat = (Int32.ofInt x).toBitVec.toNat &&& 255 := by
    rw [Int32.toBitVec_and, BitVec.toNat_and]
    rfl
  have h : (Int32.ofInt x &&& Int32.ofInt 255).toBitVec.toNat ≤ 255 := by rw [e]; exact Nat.and_le_right
  show 0 ≤ (Int32.ofInt x &&& Int32.ofInt 255).toBitVec.toInt ∧ (Int32.ofInt x &&& Int32.ofInt 255).toBitVec.toInt ≤ 255
  rw [bv_int (by omega)]
  omega
/-- what the tape's calls may change -/
def TPA (q : Nat) (j : Int) : Prop := q = 10 ∨ q = 83 ∨ (q = 0 ∧ j = 4) ∨ (q = 77 ∧ (j = 0 ∨ j = 9))
theorem REL.tp {T : List Shp} {c c2 : Cm} {n : Nat} (h : REL T c n) (t : TAP c2) (f : Fr TPA c c2) : REL T c2 (n + 1) := by
  obtain ⟨h1, h2, -, h4, h5, h6, h7⟩ := h
  have e : ∀ q, q ≠ 0 → q ≠ 10 → q ≠ 77 → q ≠ 83 → c2 q = c q := fun q a b d g => funext fun j => f q j fun k => by unfold TPA at k; omega
  have e0 : ∀ j, j ≠ 4 → c2 0 j = c 0 j := fun j a => f 0 j fun k => by unfold TPA at k; omega
  have e7 : ∀ j, j ≠ 0 → j ≠ 9 → c2 77 j = c 77 j := fun j a b => f 77 j fun k => by unfold TPA at k; omega
  have big : ∀ q, 109 ≤ q → c2 q = c q := fun q a => e q (by omega) (by omega) (by omega) (by omega)
  have ax := h4.2.1
  refine ⟨?_, h2.cells (e0 2 (by decide)) (fun q a b => e q (by omega) (by omega) (by omega) (by omega)) (e 80 (by decide) (by decide) (by decide) (by decide)) (e 82 (by decide) (by decide) (by decide) (by decide)) big, t, h4.cells (e0 14 (by decide)) (e0 15 (by decide)) (e0 16 (by decide)) (e7 14 (by decide) (by decide)) (e7 7 (by decide) (by decide)) (e7 56 (by decide) (by decide)) ?_ (e 89 (by decide) (by decide) (by decide) (by decide)) (e 90 (by decide) (by decide) (by decide) (by decide)) (e 91 (by decide) (by decide) (by decide) (by decide)) (e 71 (by decide) (by decide) (by decide) (by decide)) (fun j _ => by rw [e 79 (by decide) (by decide) (by decide) (by decide)]), (h5.cells (e0 17 (by decide)) (e7 1 (by decide) (by decide)) (e 76 (by decide) (by decide) (by decide) (by decide)) (e 78 (by decide) (by decide) (by decide) (by decide))).up1, h6.cells (e 73 (by decide) (by decide) (by decide) (by decide)) (e 74 (by decide) (by decide) (by decide) (by decide)) (e 75 (by decide) (by decide) (by decide) (by decide)) (e 108 (by decide) (by decide) (by decide) (by decide)) (e7 59 (by decide) (by decide)) (e7 60 (by decide) (by decide)), h7.up1⟩
  · rw [e 79 (by decide) (by decide) (by decide) (by decide)]
    exact h1.cells (fun q a b => e q (by omega) (by omega) (by omega) (by omega)) big
  · unfold AX at ax ⊢
    rw [e7 16 (by decide) (by decide), e7 44 (by decide) (by decide), e7 45 (by decide) (by decide)]
    exact ax
section CAL
variable {T : List Shp} {c : Cm} {n : Nat}
theorem j_end {m : Int} (h : REL T c n) : JN T c n 122 216 [vI m] := by
  obtain ⟨t1, t2, t3⟩ := h.2.2.1
  have tl := t2.1
  refine W_X11_end (Q := QI T _) ⟨fun a => QI.ret ⟨SC.rfl, W_X12_end (Q := QI T _) ⟨fun _ => jans h rfl, fun z => absurd a z⟩⟩, fun a => ⟨fun b => QI.ret ⟨SC.rfl, W_X12_end (Q := QI T _) ⟨fun z => absurd z a, fun _ => ⟨fun _ => jans h rfl, fun z => by omega⟩⟩⟩, fun b => QI.ret ⟨SC.rfl.wr (by decide), W_X12_end (Q := QI T _) ⟨fun z => absurd z a, fun _ => ⟨fun z => ?_, fun _ => QI.ret ⟨rfl, ?_, ?_⟩⟩⟩⟩⟩⟩
  · replace z : c 77 9 < m := z
    omega
  · repeat' (first | exact SC.rfl | refine SC.wr ?_ ?_ | decide)
  · refine h.tp ⟨rfl, ⟨by show 0 ≤ m ∧ m ≤ 400; omega, t2.2⟩, t3⟩ ?_
    exact ((Fr.rfl.wr (.inr (.inr (.inl ⟨rfl, rfl⟩)))).wr (.inr (.inr (.inr ⟨rfl, .inl rfl⟩)))).wr (.inr (.inr (.inr ⟨rfl, .inr rfl⟩)))
/-- four bytes more on a row -/
def tbs (B : Int → Int) (L v : Int) : Int → Int := fun j => if j = L + 3 then iand (ishr v 0) 255 else if j = L + 2 then iand (ishr v 8) 255 else if j = L + 1 then iand (ishr v 16) 255 else if j = L then iand (ishr v 24) 255 else B j
theorem tbs_bd {B : Int → Int} {L v : Int} (h : ∀ j, 0 ≤ j → j < 400 → 0 ≤ B j ∧ B j ≤ 255) : ∀ j, 0 ≤ j → j < 400 → 0 ≤ tbs B L v j ∧ tbs B L v j ≤ 255 := fun j a b => by
  unfold tbs
  split
  · exact iand_255
  · split
    · exact iand_255
    · split
      · exact iand_255
      · split
        · exact iand_255
        · exact h j a b
theorem tbs_cg {B B' : Int → Int} {L v : Int} (h : ∀ j, 0 ≤ j → j < 400 → B' j = B j) : ∀ j, 0 ≤ j → j < 400 → tbs B' L v j = tbs B L v j := fun j a b => by
  unfold tbs
  rw [h j a b]
theorem c_put {v : Int} (h : 0 ≤ c 0 4 ∧ c 0 4 ≤ 396) : QV T (fun c' => c' 0 4 = c 0 4 + 4 ∧ c' 10 = tbs (c 10) (c 0 4) v ∧ Fr (fun q j => q = 10 ∨ (q = 0 ∧ j = 4)) c c') (ccal 173 [vR 1, vI v] (SH T, c)) := by
  have k1 : ∀ (M : Cm) (w : Int), (up (up M 10 (M 0 4) w) 0 4 (M 0 4 + 1)) 0 4 = M 0 4 + 1 := fun M w => rfl
  refine W_X11_putBytes (Q := QV T _) (W_X11_putBytes_3 (Q := QV T _) ⟨fun z => absurd z (by decide), fun _ => ⟨fun _ => ⟨by omega, ?_⟩, fun z => by omega⟩⟩)
  generalize hc1 : up (up c 10 (c 0 4) (iand (ishr v 24) 255)) 0 4 (c 0 4 + 1) = c1
  have e1 : c1 0 4 = c 0 4 + 1 := by rw [← hc1]; rfl
  have f1 : Fr (fun q j => q = 10 ∨ (q = 0 ∧ j = 4)) c c1 := by rw [← hc1]; exact (Fr.rfl.wr (.inl rfl)).wr (.inr ⟨rfl, rfl⟩)
  have g1 : ∀ j, c1 10 j = if j = c 0 4 then iand (ishr v 24) 255 else c 10 j := fun j => by rw [← hc1, up_cell (by decide), up_at]
  refine W_X11_putBytes_3 (Q := QV T _) ⟨fun z => absurd z (by decide), fun _ => ⟨fun _ => ⟨by omega, ?_⟩, fun z => by omega⟩⟩
  rw [show (24 : Int) + -8 = 16 from rfl]
  generalize hc2 : up (up c1 10 (c1 0 4) (iand (ishr v 16) 255)) 0 4 (c1 0 4 + 1) = c2
  have e2 : c2 0 4 = c1 0 4 + 1 := by rw [← hc2]; rfl
  have f2 : Fr (fun q j => q = 10 ∨ (q = 0 ∧ j = 4)) c c2 := by rw [← hc2]; exact (f1.wr (.inl rfl)).wr (.inr ⟨rfl, rfl⟩)
  have g2 : ∀ j, c2 10 j = if j = c1 0 4 then iand (ishr v 16) 255 else c1 10 j := fun j => by rw [← hc2, up_cell (by decide), up_at]
  refine W_X11_putBytes_3 (Q := QV T _) ⟨fun z => absurd z (by decide), fun _ => ⟨fun _ => ⟨by omega, ?_⟩, fun z => by omega⟩⟩
  rw [show (16 : Int) + -8 = 8 from rfl]
  generalize hc3 : up (up c2 10 (c2 0 4) (iand (ishr v 8) 255)) 0 4 (c2 0 4 + 1) = c3
  have e3 : c3 0 4 = c2 0 4 + 1 := by rw [← hc3]; rfl
  have f3 : Fr (fun q j => q = 10 ∨ (q = 0 ∧ j = 4)) c c3 := by rw [← hc3]; exact (f2.wr (.inl rfl)).wr (.inr ⟨rfl, rfl⟩)
  have g3 : ∀ j, c3 10 j = if j = c2 0 4 then iand (ishr v 8) 255 else c2 10 j := fun j => by rw [← hc3, up_cell (by decide), up_at]
  refine W_X11_putBytes_3 (Q := QV T _) ⟨fun z => absurd z (by decide), fun _ => ⟨fun _ => ⟨by omega, ?_⟩, fun z => by omega⟩⟩
  rw [show (8 : Int) + -8 = 0 from rfl]
  refine W_X11_putBytes_3 (Q := QV T _) ⟨fun _ => QV.ret ⟨?_, ?_, ?_⟩, fun z => absurd (by decide) z⟩
  · show c3 0 4 + 1 = _
    omega
  · funext j
    rw [up_cell (by decide), up_at, g3, g2, g1, e3, e2, e1]
    unfold tbs
    rw [show c 0 4 + 1 + 1 + 1 = c 0 4 + 3 from by omega, show c 0 4 + 1 + 1 = c 0 4 + 2 from by omega]
  · exact (f3.wr (.inl rfl)).wr (.inr ⟨rfl, rfl⟩)
theorem r_four {v : Int} (h : 0 ≤ c 77 9 ∧ c 77 9 ≤ 396) : QV T (fun c' => c' 77 9 = c 77 9 + 4 ∧ c' 83 = tbs (c 83) (c 77 9) v ∧ Fr (fun q j => q = 83 ∨ (q = 77 ∧ j = 9)) c c') (ccal 214 [vR 78, vI v] (SH T, c)) := by
  refine W_X12_four (Q := QV T _) (W_X12_four_3 (Q := QV T _) ⟨fun z => absurd z (by decide), fun _ => ⟨by omega, ?_⟩⟩)
  generalize hc1 : up (up c 83 (c 77 9) (iand (ishr v 24) 255)) 77 9 (c 77 9 + 1) = c1
  have e1 : c1 77 9 = c 77 9 + 1 := by rw [← hc1]; rfl
  have f1 : Fr (fun q j => q = 83 ∨ (q = 77 ∧ j = 9)) c c1 := by rw [← hc1]; exact (Fr.rfl.wr (.inl rfl)).wr (.inr ⟨rfl, rfl⟩)
  have g1 : ∀ j, c1 83 j = if j = c 77 9 then iand (ishr v 24) 255 else c 83 j := fun j => by rw [← hc1, up_cell (by decide), up_at]
  refine W_X12_four_3 (Q := QV T _) ⟨fun z => absurd z (by decide), fun _ => ⟨by omega, ?_⟩⟩
  rw [show (24 : Int) + -8 = 16 from rfl]
  generalize hc2 : up (up c1 83 (c1 77 9) (iand (ishr v 16) 255)) 77 9 (c1 77 9 + 1) = c2
  have e2 : c2 77 9 = c1 77 9 + 1 := by rw [← hc2]; rfl
  have f2 : Fr (fun q j => q = 83 ∨ (q = 77 ∧ j = 9)) c c2 := by rw [← hc2]; exact (f1.wr (.inl rfl)).wr (.inr ⟨rfl, rfl⟩)
  have g2 : ∀ j, c2 83 j = if j = c1 77 9 then iand (ishr v 16) 255 else c1 83 j := fun j => by rw [← hc2, up_cell (by decide), up_at]
  refine W_X12_four_3 (Q := QV T _) ⟨fun z => absurd z (by decide), fun _ => ⟨by omega, ?_⟩⟩
  rw [show (16 : Int) + -8 = 8 from rfl]
  generalize hc3 : up (up c2 83 (c2 77 9) (iand (ishr v 8) 255)) 77 9 (c2 77 9 + 1) = c3
  have e3 : c3 77 9 = c2 77 9 + 1 := by rw [← hc3]; rfl
  have f3 : Fr (fun q j => q = 83 ∨ (q = 77 ∧ j = 9)) c c3 := by rw [← hc3]; exact (f2.wr (.inl rfl)).wr (.inr ⟨rfl, rfl⟩)
  have g3 : ∀ j, c3 83 j = if j = c2 77 9 then iand (ishr v 8) 255 else c2 83 j := fun j => by rw [← hc3, up_cell (by decide), up_at]
  refine W_X12_four_3 (Q := QV T _) ⟨fun z => absurd z (by decide), fun _ => ⟨by omega, ?_⟩⟩
  rw [show (8 : Int) + -8 = 0 from rfl]
  refine W_X12_four_3 (Q := QV T _) ⟨fun _ => QV.ret ⟨?_, ?_, ?_⟩, fun z => absurd (by decide) z⟩
  · show c3 77 9 + 1 = _
    omega
  · funext j
    rw [up_cell (by decide), up_at, g3, g2, g1, e3, e2, e1]
    unfold tbs
    rw [show c 77 9 + 1 + 1 + 1 = c 77 9 + 3 from by omega, show c 77 9 + 1 + 1 = c 77 9 + 2 from by omega]
  · exact (f3.wr (.inl rfl)).wr (.inr ⟨rfl, rfl⟩)
def tb5 (B : Int → Int) (L v1 v2 v3 v4 v5 : Int) : Int → Int := tbs (tbs (tbs (tbs (tbs B L v1) (L + 4) v2) (L + 8) v3) (L + 12) v4) (L + 16) v5
theorem j_feed {v1 v2 v3 v4 v5 : Int} (h : REL T c n) : JN T c n 121 215 [vI v1, vI v2, vI v3, vI v4, vI v5] := by
  obtain ⟨t1, t2, t3⟩ := h.2.2.1
  have tl := t2.1
  refine W_X11_feed (Q := QI T _) ⟨by omega, fun a => QI.ret ⟨SC.rfl, W_X12_feed (Q := QI T _) ⟨by omega, fun _ => jans h rfl, fun z => by omega⟩⟩, fun a => ?_⟩
  refine (c_put (by omega)).mono fun c1 k1 => (c_put (by omega)).mono fun c2 k2 => (c_put (by omega)).mono fun c3 k3 => (c_put (by omega)).mono fun c4 k4 => (c_put (by omega)).mono fun c5 k5 => ?_
  have fr : Fr (fun q j => q = 10 ∨ (q = 0 ∧ j = 4)) c c5 := (((k1.2.2.trans k2.2.2).trans k3.2.2).trans k4.2.2).trans k5.2.2
  have L5 : c5 0 4 = c 0 4 + 20 := by omega
  have B5 : c5 10 = tb5 (c 10) (c 77 9) v1 v2 v3 v4 v5 := by
    unfold tb5
    rw [k5.2.1, k4.2.1, k3.2.1, k2.2.1, k1.2.1, k4.1, k3.1, k2.1, k1.1, t1]
    rw [show c 77 9 + 4 + 4 + 4 + 4 = c 77 9 + 16 from by omega, show c 77 9 + 4 + 4 + 4 = c 77 9 + 12 from by omega, show c 77 9 + 4 + 4 = c 77 9 + 8 from by omega]
  have sc5 : SC c c5 := ⟨fr.cell fun j => by omega, fr.cell fun j => by omega⟩
  have e77 : c5 77 = c 77 := fr.cell fun j => by omega
  have e83 : c5 83 = c 83 := fr.cell fun j => by omega
  have z9 : (up c5 77 0 0) 77 9 = c 77 9 := (up_ne (by decide)).trans (congrFun e77 9)
  have z83 : (up c5 77 0 0) 83 = c 83 := (up_cell (by decide)).trans e83
  refine QI.ret ⟨sc5, W_X12_feed (Q := QI T _) ⟨by rw [e77]; omega, fun z => by rw [e77] at z; omega, fun _ => ?_⟩⟩
  refine (r_four (by rw [z9]; omega)).mono fun d1 g1 => ?_
  rw [z9, z83] at g1
  refine (r_four (by omega)).mono fun d2 g2 => (r_four (by omega)).mono fun d3 g3 => (r_four (by omega)).mono fun d4 g4 => (r_four (by omega)).mono fun d5 g5 => QI.ret ⟨by omega, ?_, ?_⟩
  · have f : Fr (fun q j => q = 83 ∨ (q = 77 ∧ j = 9)) (up c5 77 0 0) d5 := (((g1.2.2.trans g2.2.2).trans g3.2.2).trans g4.2.2).trans g5.2.2
    exact (sc5.wr (by decide)).trans ⟨f.cell fun j => by omega, f.cell fun j => by omega⟩
  · have f : Fr (fun q j => q = 83 ∨ (q = 77 ∧ j = 9)) (up c5 77 0 0) d5 := (((g1.2.2.trans g2.2.2).trans g3.2.2).trans g4.2.2).trans g5.2.2
    have D5 : d5 83 = tb5 (c 83) (c 77 9) v1 v2 v3 v4 v5 := by
      unfold tb5
      rw [g5.2.1, g4.2.1, g3.2.1, g2.2.1, g1.2.1, g4.1, g3.1, g2.1, g1.1]
      rw [show c 77 9 + 4 + 4 + 4 + 4 = c 77 9 + 16 from by omega, show c 77 9 + 4 + 4 + 4 = c 77 9 + 12 from by omega, show c 77 9 + 4 + 4 = c 77 9 + 8 from by omega]
    have d0 : d5 0 4 = c5 0 4 := (f 0 4 (by omega)).trans (congrFun (up_cell (by decide)) 4)
    have d10 : d5 10 = c5 10 := (f.cell fun j => by omega).trans (up_cell (by decide))
    refine h.tp ⟨by omega, ⟨by omega, ?_⟩, ?_⟩ ?_
    · rw [d10, B5]
      exact tbs_bd (tbs_bd (tbs_bd (tbs_bd (tbs_bd t2.2))))
    · rw [d10, B5, D5]
      exact tbs_cg (tbs_cg (tbs_cg (tbs_cg (tbs_cg t3))))
    · exact ((fr.mono fun q j k => by unfold TPA; omega).wr (by unfold TPA; omega)).trans (f.mono fun q j k => by unfold TPA; omega)
end CAL

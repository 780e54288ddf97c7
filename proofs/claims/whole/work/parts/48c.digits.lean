/-! THE CLASS READS: numbers -/
/-- a number, read as a part -/
theorem c_digitStep {T : List Shp} {X : GX} {o : Int} {B : Int → Int} {L b p n q : Int} {c : Cm} (hX : GRr o B L X) (h : CRH c B L o b p n q) (ek : kd B L p = 1) (e2 : ¬ 1000 < nc B L p) (e3 : n < 50) {Q : Res → Prop} {nd : Nat} (hnd : 2 + 1 ≤ nd) (hQ : ∀ c', Fr RDA c c' → CPO c B L (NWx o) p n q (.inr (nx B L p, n + 1, fun _ => some (nc B L p))) 1 c' → Q (some (some (vI 1), (SH T, c')))) : QV T (fun c3 => (((-2147483648 ≤ (c3 48 8) + 1 ∧ (c3 48 8) + 1 < 2147483648) ∧ (2 + 1 ≤ nd)) ∧ (QV T (fun c4 => Q (some (some (vI 1), (SH T, c4)))) (ccal 62 [vR 49] (SH T, (up c3 48 8 ((c3 48 8) + 1))))))) (ccal 110 [vR 12, vI 0, vI (nc B L p)] (SH T, c)) := by
  obtain ⟨h1, h2, h3, h4, h5, h6, h7⟩ := h
  have pL := h1.pL
  have ncb := nc_bd h1.2.2.1 pL.1
  have l450 : 0 ≤ c 11 3 ∧ c 11 3 ≤ 450 := by omega
  have plt : p < L := kd_lt (by rw [ek]; decide)
  refine (c_add (d := 0) (k := nc B L p) l450.1 (by omega) ncb).mono fun c3 hc => ?_
  have fr := add_fr hc l450
  have ec := hc.1 (by omega)
  have e488 : c3 48 8 = n := (congrFun fr.2.2.1 8).trans h3
  have hE : EC (up c3 48 8 (c3 48 8 + 1)) B L p := by
    refine h1.cong ?_ ?_ ?_ ?_ ?_ ?_
    · rw [up_ne (by decide), fr.2.2.1]
    · rw [up_ne (by decide), fr.2.2.1]
    · rw [up_ne (by decide), fr.2.2.1]
    · rw [up_ne (by decide), fr.2.2.1]
    · rw [up_ne (by decide), fr.2.2.1]
    · rw [up_cell (by decide)]; exact fr.2.2.2
  refine ⟨⟨by omega, hnd⟩, hE.next.mono fun c4 h9 => hQ c4 ((fr.1.wr (by unfold RDA; omega)).trans (h9.1.mono fun q j a => a.rda)) ?_⟩
  have k := NXA.keep h9.1
  have nb := nx_bd (B := B) pL.2.1
  have nb2 := nb.2.2 plt
  have e3' : c4 11 3 = q + 1 := by rw [k.2.2.1, up_cell (by decide), ec, up_same, h5]
  have e13 : c4 13 = up c 13 q (0 + 16 * nc B L p) 13 := by rw [k.2.2.2, up_cell (by decide), ec, up_cell (by decide), h5]
  refine ⟨rfl, h9.2, nb2, ?_, by omega, by omega, ?_, fun j a => ?_, fun w => ?_⟩
  · rw [k.2.1, up_same, e488]
  · rw [e3', e13, show n + 1 - n = 1 from by omega]
    exact CP.num ncb.1 (by omega) (by rw [up_same]; omega)
  · rw [e13, up_ne (by omega)]
  · refine (w.add (v := 0 + 16 * nc B L p) fun w a => by omega).cong ?_ ?_ ?_
    · rw [k.2.2.1, up_cell (by decide), ec]
    · rw [k.2.2.1, up_cell (by decide), ec]
    · rw [k.2.2.2, up_cell (by decide), ec]

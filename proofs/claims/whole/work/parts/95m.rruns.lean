/-! ORDERS: the reference's run, copy and all -/
theorem r_runs {T : List Shp} {Q : Res → Prop} {c : Cm} {F : List Clz} {FO : List Orc} (h : RWd c F) (hx : AX c) (hr : RTD c 1 FO) (hw : ∀ z ∈ FO, wfo z) (hbad : ∀ c', (oru F FO 0 (c 79) 0).1 < 0 → (∀ j, 0 ≤ j → c' 79 j = c 79 j) → c' 77 55 = (oru F FO 0 (c 79) 0).2.2.2 → c' 77 56 = (oru F FO 0 (c 79) 0).2.1 → AX c' → Off (81 :: OLR) (56 :: OGR) c c' → QI T (fun r c2 => Q (some (some (vI r), (SH T, c2)))) (ccal 190 [vR 78, vI (oru F FO 0 (c 79) 0).1] (SH T, c'))) (hok : ∀ c', ¬ (oru F FO 0 (c 79) 0).1 < 0 → c' 79 = (oru F FO 0 (c 79) 0).2.2.1 → c' 77 55 = (oru F FO 0 (c 79) 0).2.2.2 → RWd c' F → AX c' → Off (81 :: OLR) (56 :: OGR) c c' → QI T (fun r c2 => Q (some (some (vI r), (SH T, c2)))) (ccal 190 [vR 78, vI (c' 77 55)] (SH T, c'))) : Q (cev 334 12 66 [vR 78, vI 0, vU, vU, vU] [] (SH T, c)) := by
  obtain ⟨r1, r2, r3, r4⟩ := hr
  refine r_keep66 fun c1 o e81 e55 => ?_
  have e79 : c1 79 = c 79 := o.cell rfl
  have e17 : c1 77 17 = c 77 17 := o.fld rfl
  have w1 := h.off o rfl
  have x1 := hx.off o rfl
  have o1 : Off (81 :: OLR) (56 :: OGR) c c1 := o.mono rfl rfl
  have zs : ∀ (j : Nat) (z : Orc), FO[j]? = some z → ZRx c1 1 (0 + (j : Int)) (c 77 19) z ∧ wfo z := by
    intro j z e
    refine ⟨?_, hw z (List.mem_of_getElem? e)⟩
    have := r4 j z e
    rw [show (0 : Int) + (j : Int) = (j : Int) from by omega]
    unfold ZRx
    rw [o.cell (q := rcel 1) rfl, o.cell (q := 85) rfl, o.cell (q := 86) rfl]
    exact this
  refine r_oru (c0 := c1) (F := F) (q := c 77 19) (by omega) (by omega) FO c1 0 0 zs (by omega) (by omega) (by omega) (by omega) w1 x1 e55 Off.rfl (fun _ _ => rfl) (fun c' b e x' o' k' => ?_) (fun c' b f79 e w' x' o' k' => ?_)
  · rw [e79] at b e ⊢
    refine r_back140 fun c2 o2 k1 k2 k3 => ?_
    have e81' : c' 81 = c1 81 := o'.cell rfl
    exact hbad c2 b (fun j a1 => by
      by_cases a2 : j < 5780
      · rw [k1 j a1 a2, e81']; exact e81 j a1 a2
      · rw [k2 j (by omega), k' j (by omega), e79]) (by rw [o2.fld rfl]; exact e) k3 (x'.off o2 rfl) ((o1.trans (o'.mono rfl rfl)).trans (o2.mono rfl rfl))
  · rw [e79] at b f79 e
    have f17 : c' 77 17 = c1 77 17 := o'.fld rfl
    refine W_X12_orders_98 ⟨fun z => absurd z (by rw [f17]; omega), fun _ => ?_⟩
    exact hok c' b f79 e w' x' (o1.trans (o'.mono rfl rfl))

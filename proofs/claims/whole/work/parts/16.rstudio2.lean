theorem r_driftOf {T : List Shp} {c : Cm} {F : List Clz} {x n : Int} (h : RWd c F) (hx : 0 ≤ x ∧ x < 12) (hn : 0 ≤ n ∧ n ≤ 10) : QI T (fun r c' => r = dri F (c 79) x n ∧ Off [92, 94, 95, 96] [30, 34, 35, 36] c c') (ccal 281 [vR 78, vI x, vI n] (SH T, c)) := by
  have hR := h.1
  have h1 := hR.1
  refine W_X12_driftOf (Q := QI T _) ⟨by omega, ?_⟩
  rw [← Int.add_zero (c 79 4 + 1)]
  refine lpI (E := fun i (s : Int × Cm) => cev 281 8 16 [vR 78, vI x, vI n, vI s.1, vI (c 79 4 + 1 + i), vU, vU, vU] [] (SH T, s.2)) (fun i s => (0 ≤ i ∧ i ≤ n) ∧ Off [92, 94, 95, 96] [30, 34, 35, 36] c s.2 ∧ s.1 = dri F (c 79) x i) n ?_ ?_ 0 (ishl 1 (c 79 (12 + 12 * c 79 4 + x)), c) ⟨by omega, Off.rfl, rfl⟩
  · intro i s hi hI ih
    have es := hI.2.1.row rfl
    have ws := h.off hI.2.1 rfl
    have bd := dri_bd (F := F) (x := x) (n := i) hR hx hI.1.1
    refine W_X12_driftOf_16 ?_
    rw [es, hI.2.2]
    refine ⟨by omega, fun h => absurd h (by omega), fun _ => ?_⟩
    refine (r_layLooks ws (y := c 79 4 + 1 + i) (by omega)).mono fun c1 h2 => ?_
    rw [es] at h2
    have o1 : Off [92, 94, 95, 96] [30, 34, 35, 36] c c1 := hI.2.1.trans (h2.2.2.mono rfl rfl)
    have lb := lk_bd (F := F) (x := x) (y := c 79 4 + 1 + i) hR
    refine lpI (E := fun p (u : Int × Cm) => cev 281 8 39 [vR 78, vI x, vI n, vI (dri F (c 79) x i), vI (c 79 4 + 1 + i), vI u.1, vI p, vU] [] (SH T, u.2)) (fun p u => (0 ≤ p ∧ p ≤ c 79 0) ∧ Off [92, 94] [30, 34, 35, 36] c1 u.2 ∧ (0 ≤ u.1 ∧ u.1 < 1024) ∧ ∀ j, 0 ≤ j → bt u.1 j = anyI (fun p => !brp F (c 79) p (c 79 4 + 1 + i) && anyI (fun t => bt (dri F (c 79) x i) t && decide (brs (c 79) p x t (lk F (c 79) x (c 79 4 + 1 + i)) = j)) 10) p) (c 79 0) ?_ ?_ 0 (0, c1) ⟨by omega, Off.rfl, (show (0 : Int) ≤ 0 ∧ (0 : Int) < 1024 by decide), fun j _ => bt_0⟩
    · intro p u hp hU ihp
      have ou : Off [92, 94, 95, 96] [30, 34, 35, 36] c u.2 := o1.trans (hU.2.1.mono rfl rfl)
      have eu := ou.row rfl
      have wu := h.off ou rfl
      refine W_X12_driftOf_39 ?_
      rw [eu]
      refine ⟨fun _ => ?_, fun h => absurd hp h⟩
      refine (r_isBarred wu (p := p) (y := c 79 4 + 1 + i) (by rw [eu]; omega) (by omega)).mono fun r2 c2 h3 => ?_
      rw [eu] at h3
      have o2 := hU.2.1.trans h3.2
      have o2' : Off [92, 94, 95, 96] [30, 34, 35, 36] c c2 := o1.trans (o2.mono rfl rfl)
      have e2 := o2'.row rfl
      rw [h3.1]
      refine ⟨fun h4 => ?_, fun h4 => ⟨by omega, ihp (u.1, c2) ⟨by omega, o2, hU.2.2.1, fun j hj => ?_⟩⟩⟩
      · refine lpI (E := fun t (v : Int) => cev 281 8 64 [vR 78, vI x, vI n, vI (dri F (c 79) x i), vI (c 79 4 + 1 + i), vI v, vI p, vI t] [] (SH T, c2)) (fun t v => (0 ≤ t ∧ t ≤ 10) ∧ (0 ≤ v ∧ v < 1024) ∧ ∀ j, 0 ≤ j → bt v j = (bt u.1 j || anyI (fun t => bt (dri F (c 79) x i) t && decide (brs (c 79) p x t (lk F (c 79) x (c 79 4 + 1 + i)) = j)) t)) 10 ?_ ?_ 0 u.1 ⟨by omega, hU.2.2.1, fun j hj => (Bool.or_false _).symm⟩
        · intro t v ht hV iht
          have b9 := brs_bd (R := c 79) (p := p) (x := x) (t := t) (a := lk F (c 79) x (c 79 4 + 1 + i))
          have sr := shl_rng (k := brs (c 79) p x t (lk F (c 79) x (c 79 4 + 1 + i))) (n := 10) (by omega) (by omega) (by omega)
          have sr2 : ishl 1 (brs (c 79) p x t (lk F (c 79) x (c 79 4 + 1 + i))) < 2147483648 := Int.lt_trans sr.2 (by decide)
          refine W_X12_driftOf_64 ⟨fun _ => ?_, fun h => absurd ht h⟩
          rw [bt_iff bd.1 (by omega) hV.1.1 (by omega)]
          refine ⟨fun h5 => QI.of_eq (r_painted (h.off o2' rfl) (by rw [e2]; omega) hx (by omega) (by omega) (by rw [e2]; exact h2.1.off o2 rfl)) ?_, fun h5 => ⟨by omega, iht (ior v 0) ?_⟩⟩
          · rw [e2]
            refine ⟨by omega, iht _ ⟨by omega, ior_rng (n := 10) (by omega) hV.2.1.1 hV.2.1.2 sr.1 sr.2, fun j hj => ?_⟩⟩
            rw [anyI_succ (by omega), ior_bt hV.2.1.1 (by omega) sr.1 sr2 hj, hV.2.2 j hj, shl_bt (by omega) (by omega) hj, h5, Bool.true_and, Bool.or_assoc]
            congr 2
            by_cases e : j = brs (c 79) p x t (lk F (c 79) x (c 79 4 + 1 + i))
            · rw [decide_eq_true e, decide_eq_true e.symm]
            · rw [decide_eq_false e, decide_eq_false (fun q => e q.symm)]
          · rw [ior_0 hV.2.1.1 (by omega)]
            refine ⟨by omega, hV.2.1, fun j hj => ?_⟩
            rw [anyI_succ (by omega), hV.2.2 j hj, Bool.eq_false_iff.mpr h5, Bool.false_and, Bool.or_false]
        · intro t v ht hV
          have : t = 10 := by omega
          subst this
          refine W_X12_driftOf_64 ⟨fun h => absurd h (by omega), fun _ => ⟨by omega, ihp (v, c2) ⟨by omega, o2, hV.2.1, fun j hj => ?_⟩⟩⟩
          rw [anyI_succ (by omega), ← hU.2.2.2 j hj, b01_e0 h4]
          exact hV.2.2 j hj
      · rw [anyI_succ (by omega), hU.2.2.2 j hj, b01_ne h4]
        show _ = (_ || (false && _))
        rw [Bool.false_and, Bool.or_false]
    · intro p u hp hU
      have ou : Off [92, 94, 95, 96] [30, 34, 35, 36] c u.2 := o1.trans (hU.2.1.mono rfl rfl)
      have eu := ou.row rfl
      refine W_X12_driftOf_39 ?_
      rw [eu]
      refine ⟨fun h => absurd h (by omega), fun _ => ⟨by omega, ?_⟩⟩
      rw [show c 79 4 + 1 + i + 1 = c 79 4 + 1 + (i + 1) from by omega]
      refine ih (u.1, u.2) ⟨by omega, ou, ?_⟩
      unfold dri
      rw [foldI_succ hI.1.1]
      have : p = c 79 0 := by omega
      subst this
      exact sto_eq (n := 10) (by omega) hU.2.2.1.1 hU.2.2.1.2 fun k hk _ => hU.2.2.2 k hk
  · intro i s hi hI
    have es := hI.2.1.row rfl
    refine W_X12_driftOf_16 ?_
    rw [es]
    refine ⟨by omega, fun _ => QI.ret ⟨?_, hI.2.1⟩, fun h => absurd h (by omega)⟩
    have : i = n := by omega
    subst this
    exact hI.2.2
theorem r_undoing {T : List Shp} {c : Cm} {F : List Clz} {i : Int} (h : RWd c F) : QI T (fun r c' => r = udo F (c 79) i ∧ Off [92, 94, 95, 96] [0, 30, 34, 35, 36] c c') (ccal 283 [vR 78, vI i] (SH T, c)) := by
  have hR := h.1
  have h1 := hR.1
  refine W_X12_undoing (Q := QI T _) ⟨by omega, ?_⟩
  have o0 : Off [92, 94, 95, 96] [0, 30, 34, 35, 36] c (up c 77 0 0) := Off.rfl.wr rfl
  refine (r_layLooks (h.off o0 rfl) (y := c 79 4 + 1) (by omega)).mono fun c1 h2 => ⟨by omega, ?_⟩
  rw [o0.row rfl] at h2
  have o1 : Off [92, 94, 95, 96] [0, 30, 34, 35, 36] c c1 := o0.trans (h2.2.2.mono rfl rfl)
  refine (r_layLooks (h.off o1 rfl) (y := c 79 4 + 1 + 1) (by omega)).mono fun c2 h3 => ?_
  rw [o1.row rfl] at h3
  have o2 : Off [92, 94, 95, 96] [0, 30, 34, 35, 36] c c2 := o1.trans (h3.2.2.mono rfl rfl)
  rw [o2.row rfl]
  refine (r_loadPaper (a := 0) (l := c 79 4) (by omega) (by omega)).mono fun c3 h4 => ?_
  rw [o2.row rfl] at h4
  have o3 : Off [92, 94, 95, 96] [0, 30, 34, 35, 36] c c3 := o2.trans (h4.2.2.mono rfl rfl)
  have l1 : LK c3 F (c 79) (c 79 4 + 1) := (h2.1.keep h3.2.1 (by omega)).off h4.2.2 rfl
  have l2 : LK c3 F (c 79) (c 79 4 + 1 + 1) := h3.1.off h4.2.2 rfl
  refine lpI (E := fun j (s : Int × Cm) => cev 283 8 38 [vR 78, vI i, vI (c 79 4 + 1), vI s.1, vI j, vU, vU] [] (SH T, s.2)) (fun j s => (0 ≤ j ∧ j ≤ 25) ∧ (Off [96] [] c3 s.2 ∧ PP s.2 0 (fun x => c 79 (12 + 12 * c 79 4 + x))) ∧ s.1 = cnt (unp F (c 79)) j ∧ ∀ k, 0 ≤ k → k < j → (unp F (c 79) k && decide (cnt (unp F (c 79)) k = i)) = false) 25 ?_ ?_ 0 (0, c3) ⟨by omega, ⟨Off.rfl, h4.1⟩, rfl, fun k _ _ => by omega⟩
  · intro j s hj hI ih
    have os : Off [92, 94, 95, 96] [0, 30, 34, 35, 36] c s.2 := o3.trans (hI.2.1.1.mono rfl rfl)
    have es := os.row rfl
    have ws := h.off os rfl
    have cb := cnt_bd (p := unp F (c 79)) (n := j) (by omega)
    have skip : ∀ (c' : Cm), unp F (c 79) j = false → Off [96] [] c3 c' → PP c' 0 (fun x => c 79 (12 + 12 * c 79 4 + x)) → QI T (fun r c' => r = udo F (c 79) i ∧ Off [92, 94, 95, 96] [0, 30, 34, 35, 36] c c') (cev 283 8 38 [vR 78, vI i, vI (c 79 4 + 1), vI s.1, vI (j + 1), vU, vU] [] (SH T, c')) := by
      intro c' hu o' p'
      refine ih (s.1, c') ⟨by omega, ⟨o', p'⟩, ?_, fun k a b => ?_⟩
      · rw [cnt_succ (by omega), hu, if_neg (by decide)]; exact hI.2.2.1
      · by_cases e : k = j
        · rw [e, hu, Bool.false_and]
        · exact hI.2.2.2 k a (by omega)
    refine W_X12_undoing_38 ?_
    rw [es]
    refine ⟨fun _ => ⟨by omega, fun h5 => ⟨by omega, fun h6 => ?_, fun h6 => ⟨by omega, skip s.2 ?_ hI.2.1.1 hI.2.1.2⟩⟩, fun h5 => ⟨by omega, skip s.2 ?_ hI.2.1.1 hI.2.1.2⟩⟩, fun h => absurd hj h⟩
    · refine (r_paintPaper ws (a := 0) (b := 1) (p := j / 5) (y := c 79 4 + 1) (by rw [es]; exact h5) (by omega) (by omega) (by omega) (by omega) hI.2.1.2 (fun x a b => hR.tone (by omega) ⟨a, b⟩) (by rw [es]; exact l1.off hI.2.1.1 rfl)).mono fun c4 h7 => ⟨by omega, ?_⟩
      rw [es] at h7
      have o4 : Off [96] [] c3 c4 := hI.2.1.1.trans h7.2.2
      have e4 : c4 79 = c 79 := (h7.2.2.row rfl).trans es
      refine (r_paintPaper (ws.off h7.2.2 rfl) (a := 1) (b := 2) (p := j % 5) (y := c 79 4 + 1 + 1) (by rw [e4]; exact h6) (by omega) (by omega) (by omega) (by omega) h7.1 (fun x a b => pnt_bd) (by rw [e4]; exact l2.off o4 rfl)).mono fun c5 h8 => ?_
      rw [e4] at h8
      have o5 : Off [96] [] c3 c5 := o4.trans h8.2.2
      have p5 : PP c5 0 (fun x => c 79 (12 + 12 * c 79 4 + x)) := (hI.2.1.2.keep h7.2.1 (by omega)).keep h8.2.1 (by omega)
      have hu : unp F (c 79) j = same (pnt (c 79) (j % 5) (fun x => lk F (c 79) x (c 79 4 + 1 + 1)) (pnt (c 79) (j / 5) (fun x => lk F (c 79) x (c 79 4 + 1)) (fun x => c 79 (12 + 12 * c 79 4 + x)))) (fun x => c 79 (12 + 12 * c 79 4 + x)) := by
        unfold unp und
        rw [decide_eq_true h5.2, decide_eq_true h6.2, show c 79 4 + 2 = c 79 4 + 1 + 1 from by omega]
        rfl
      have sm' : ∀ P P' : Int → Int, same P P' = same P' P := by
        intro P P'
        unfold same
        congr 1
        funext x
        by_cases e : P x = P' x
        · rw [decide_eq_true e, decide_eq_true e.symm]
        · rw [decide_eq_false e, decide_eq_false (fun q => e q.symm)]
      refine QI.of_eq (r_isSame (by omega) (by omega) p5 h8.1) ?_
      rw [sm', ← hu]
      refine ⟨fun h9 => ⟨by omega, skip c5 (b01_e0 h9) o5 p5⟩, fun h9 => ⟨fun h10 => QI.ret ⟨?_, o3.trans (o5.mono rfl rfl)⟩, fun h10 => ⟨by omega, ih (s.1 + 1, c5) ⟨by omega, ⟨o5, p5⟩, ?_, fun k a b => ?_⟩⟩⟩⟩
      · have : ith (unp F (c 79)) i 25 = j := by
          refine frst_at (fun k a b => hI.2.2.2 k a b) (by omega) hj ?_
          show (unp F (c 79) j && decide (cnt (unp F (c 79)) j = i)) = true
          rw [b01_ne h9, ← hI.2.2.1, decide_eq_true h10]
          rfl
        unfold udo
        rw [this, if_neg (by omega)]
      · rw [cnt_succ (by omega), if_pos (b01_ne h9), ← hI.2.2.1]
      · by_cases e : k = j
        · rw [e, ← hI.2.2.1, decide_eq_false h10, Bool.and_false]
        · exact hI.2.2.2 k a (by omega)
    · unfold unp
      rw [decide_eq_false (show ¬ j % 5 < c 79 0 by omega), Bool.false_and, Bool.and_false]
    · unfold unp
      rw [decide_eq_false (show ¬ j / 5 < c 79 0 by omega), Bool.false_and]
  · intro j s hj hI
    have : j = 25 := by omega
    subst this
    have os : Off [92, 94, 95, 96] [0, 30, 34, 35, 36] c s.2 := o3.trans (hI.2.1.1.mono rfl rfl)
    have ei : ith (unp F (c 79)) i 25 = -1 := frst_none (fun k a b => hI.2.2.2 k a b) (by omega)
    refine W_X12_undoing_38 ⟨fun h => absurd h (by omega), fun _ => ⟨fun h5 => QI.ret ⟨?_, os⟩, fun h5 => QI.ret ⟨?_, os⟩⟩⟩
    · unfold udo
      rw [ei, if_pos rfl, if_pos h5, ← hI.2.2.1]
    · unfold udo
      rw [ei, if_pos rfl, if_neg h5]
theorem r_layAll {T : List Shp} {c : Cm} {F : List Clz} (h : RWd c F) : QV T (fun c' => (∀ l, 1 ≤ l → l ≤ c 79 4 → LK c' F (c 79) l) ∧ Off [92, 94, 95] [30, 34, 35, 36] c c') (ccal 308 [vR 78] (SH T, c)) := by
  have h1 := h.1.1
  refine W_X12_layAll (Q := QV T _) ?_
  refine lpI (E := fun l (s : Cm) => cev 308 8 2 [vR 78, vI (l + 1)] [] (SH T, s)) (fun l s => (0 ≤ l ∧ l ≤ c 79 4) ∧ Off [92, 94, 95] [30, 34, 35, 36] c s ∧ ∀ k, 1 ≤ k → k ≤ l → LK s F (c 79) k) (c 79 4) ?_ ?_ 0 c ⟨by omega, Off.rfl, fun k _ _ => by omega⟩
  · intro l s hl hI ih
    have es := hI.2.1.row rfl
    refine W_X12_layAll_2 ?_
    rw [es]
    refine ⟨fun h => absurd h (by omega), fun _ => ?_⟩
    refine (r_layLooks (h.off hI.2.1 rfl) (y := l + 1) (by omega)).mono fun c1 h2 => ⟨by omega, ih c1 ⟨by omega, hI.2.1.trans h2.2.2, fun k a b => ?_⟩⟩
    rw [es] at h2
    by_cases e : k = l + 1
    · rw [e]; exact h2.1
    · exact (hI.2.2 k a (by omega)).keep h2.2.1 e
  · intro l s hl hI
    have es := hI.2.1.row rfl
    refine W_X12_layAll_2 ?_
    rw [es]
    refine ⟨fun _ => QV.ret ⟨fun k a b => hI.2.2 k a (by omega), hI.2.1⟩, fun h => absurd h (by omega)⟩
theorem r_wasOf {T : List Shp} {c : Cm} {F : List Clz} {x : Int} (h : RWd c F) (hx : 0 ≤ x ∧ x < 12) (hl : ∀ l, 1 ≤ l → l ≤ c 79 4 → LK c F (c 79) l) : ccal 307 [vR 78, vI x] (SH T, c) = some (some (vI (was F (c 79) x)), (SH T, c)) := by
  have hR := h.1
  have h1 := hR.1
  refine W_X12_wasOf (Q := fun Z => Z = some (some (vI (was F (c 79) x)), (SH T, c))) ?_
  refine lpI (Q := fun Z => Z = some (some (vI (was F (c 79) x)), (SH T, c))) (E := fun t (s : Int) => cev 307 3 4 [vR 78, vI x, vI s, vI t, vU, vU] [] (SH T, c)) (fun t s => (0 ≤ t ∧ t ≤ 10) ∧ (0 ≤ s ∧ s < 1024) ∧ s = sto' (fun t => decide (fwd F (c 79) x 0 t (c 79 4) = c 79 (12 + 12 * c 79 4 + x))) t) 10 ?_ ?_ 0 0 ⟨by omega, by omega, rfl⟩
  · intro t s ht hI ih
    refine W_X12_wasOf_4 (Q := fun Z => Z = some (some (vI (was F (c 79) x)), (SH T, c))) ⟨fun _ => ?_, fun h => absurd ht h⟩
    refine lpI (Q := fun Z => Z = some (some (vI (was F (c 79) x)), (SH T, c))) (E := fun l (v : Int) => cev 307 3 16 [vR 78, vI x, vI s, vI t, vI v, vI (l + 1)] [] (SH T, c)) (fun l v => (0 ≤ l ∧ l ≤ c 79 4) ∧ v = fwd F (c 79) x 0 t l) (c 79 4) ?_ ?_ 0 t ⟨by omega, rfl⟩
    · intro l v hl' hV ihl
      have fb := fwd_bd (F := F) (R := c 79) (x := x) (l := 0) (t := t) (n := l) (by omega) hV.1.1
      rw [← hV.2] at fb
      refine W_X12_wasOf_16 (Q := fun Z => Z = some (some (vI (was F (c 79) x)), (SH T, c))) ⟨fun h => absurd h (by omega), fun _ => ⟨by omega, ?_⟩⟩
      refine QI.of_eq (r_painted h (hR.2.2.1 (l + 1) (by omega) (by omega)) hx (by omega) fb (hl (l + 1) (by omega) (by omega))) ⟨by omega, ihl _ ⟨by omega, ?_⟩⟩
      unfold fwd
      rw [foldI_succ hV.1.1, hV.2, Int.zero_add]
      rfl
    · intro l v hl' hV
      have : l = c 79 4 := by omega
      subst this
      have sr := shl_rng (k := t) (n := 10) (by omega) (by omega) (by omega)
      refine W_X12_wasOf_16 (Q := fun Z => Z = some (some (vI (was F (c 79) x)), (SH T, c))) ⟨fun _ => ⟨by omega, fun h2 => ⟨by omega, ih _ ⟨by omega, ior_rng (n := 10) (by omega) hI.2.1.1 hI.2.1.2 sr.1 sr.2, ?_⟩⟩, fun h2 => ⟨by omega, ih (ior s 0) ?_⟩⟩, fun h => absurd h (by omega)⟩
      · unfold sto'
        rw [foldI_succ (by omega), if_pos (decide_eq_true (hV.2.symm.trans h2)), hI.2.2]
        rfl
      · rw [ior_0 hI.2.1.1 (by omega)]
        refine ⟨by omega, hI.2.1, ?_⟩
        unfold sto'
        rw [foldI_succ (by omega), if_neg]
        · exact hI.2.2
        · intro q
          exact h2 (hV.2.trans (of_decide_eq_true q))
  · intro t s ht hI
    have : t = 10 := by omega
    subst this
    refine W_X12_wasOf_4 (Q := fun Z => Z = some (some (vI (was F (c 79) x)), (SH T, c))) ⟨fun h => absurd h (by omega), fun _ => ?_⟩
    rw [hI.2.2]
    rfl

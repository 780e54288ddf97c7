theorem dfr_bd {F : List Clz} {R : Int → Int} {by' n : Int} (h0 : 0 ≤ R 0 ∧ R 0 ≤ 5) {m : Nat} {k : Int} {row : Int → Int} {B : Bst} (hk : k + m = n) (hk0 : 0 ≤ k) (hB : 0 ≤ B.1) : 0 ≤ (dfr F R by' n m k row B).1 ∧ (dfr F R by' n m k row B).1 ≤ B.1 + pw 5 m := by
  rw [dfr_dfs h0.1 m k row B hk hk0]
  split
  · exact dfs_bd h0 m k row _ _ B hB
  · have : 0 ≤ pw 5 m := by
      clear hk
      induction m with
      | zero => decide
      | succ m im => show 0 ≤ pw 5 m * 5; omega
    omega
theorem r_dfs {T : List Shp} {Q : Res → Prop} {F : List Clz} {by' n : Int} {c0 : Cm} (h0 : RWd c0 F) (hn : 1 ≤ n ∧ n ≤ 5) : ∀ (m : Nat) (k : Int) (row : Int → Int) (B : Bst) (c : Cm), k + m + 1 = n → 0 ≤ k → Off [92, 94, 95, 96, 97, 98, 99, 100] [30, 34, 35, 36, 44, 45, 46] c0 c → RPn c F (c0 79) n → (∀ i, 0 ≤ i → i < k → c 97 i = row i ∧ 0 ≤ row i ∧ row i < c0 79 0) → (∀ j, 0 ≤ j → j ≤ k → PP c j (Pk F (c0 79) row j)) → RB c n B → 0 ≤ B.1 → B.1 + pw 5 (m + 1) ≤ 10000 → c 97 k = -1 → (∀ c', Off [92, 94, 95, 96, 97, 98, 99, 100] [30, 34, 35, 36, 44, 45, 46] c0 c' → RPn c' F (c0 79) n → (∀ i, 0 ≤ i → i < k → c' 97 i = row i) → (∀ j, 0 ≤ j → j ≤ k → PP c' j (Pk F (c0 79) row j)) → RB c' n (dfr F (c0 79) by' n (m + 1) k row B) → Q (cev 278 9 134 [vR 78, vI by', vI n, vI (c0 79 4), vI (k - 1), vU] [] (SH T, c'))) → Q (cev 278 9 134 [vR 78, vI by', vI n, vI (c0 79 4), vI k, vU] [] (SH T, c)) := by
  have hR := h0.1
  have h1 := hR.1
  intro m
  induction m using Nat.strongRecOn with
  | _ m ih =>
  intro k row B c hk hk0 ho hL hr hP hB hb0 hb1 h97 cont
  have pe : pw 5 (m + 1) = pw 5 m * 5 := rfl
  have p5 := pw5 (m := m) (by omega)
  refine lpI (E := fun p (u : Bst × Cm) => cev 278 9 134 [vR 78, vI by', vI n, vI (c0 79 4), vI k, vU] [] (SH T, u.2)) (fun p u => (0 ≤ p ∧ p ≤ c0 79 0) ∧ u.1 = foldI (fun p B => if may F (c0 79) row p k = true then dfr F (c0 79) by' n m (k + 1) (udD row k p) B else B) B p ∧ u.2 97 k = p - 1 ∧ Off [92, 94, 95, 96, 97, 98, 99, 100] [30, 34, 35, 36, 44, 45, 46] c0 u.2 ∧ RPn u.2 F (c0 79) n ∧ (∀ i, 0 ≤ i → i < k → u.2 97 i = row i) ∧ (∀ j, 0 ≤ j → j ≤ k → PP u.2 j (Pk F (c0 79) row j)) ∧ RB u.2 n u.1 ∧ (0 ≤ u.1.1 ∧ u.1.1 ≤ B.1 + pw 5 m * p)) (c0 79 0) ?_ ?_ 0 (B, c) ⟨by omega, rfl, h97, ho, hL, fun i a b => (hr i a b).1, hP, hB, ⟨hb0, by show B.1 ≤ B.1 + pw 5 m * 0; omega⟩⟩
  · intro p u hp hI ihp
    obtain ⟨i0, i1, i2, i3, i4, i5, i6, i7, i8⟩ := hI
    have eu := i3.row rfl
    have wu := h0.off i3 rfl
    have pm : pw 5 m * (p + 1) = pw 5 m * p + pw 5 m := by rw [Int.mul_add, Int.mul_one]
    have pm2 : pw 5 m * (p + 1) ≤ pw 5 m * 5 := Int.mul_le_mul_of_nonneg_left (by omega) p5.1
    have fsp : foldI (fun p B => if may F (c0 79) row p k = true then dfr F (c0 79) by' n m (k + 1) (udD row k p) B else B) B (p + 1) = if may F (c0 79) row p k = true then dfr F (c0 79) by' n m (k + 1) (udD row k p) u.1 else u.1 := by
      rw [foldI_succ i0.1, ← i1]
    have oc : Off [92, 94, 95, 96, 97, 98, 99, 100] [30, 34, 35, 36, 44, 45, 46] c0 (up u.2 97 k p) := i3.wr rfl
    have oc' : Off [97] [] u.2 (up u.2 97 k p) := Off.rfl.wr rfl
    have c5 : ∀ i, 0 ≤ i → i < k → up u.2 97 k p 97 i = row i := fun i a b => by rw [up_ne (by omega)]; exact i5 i a b
    have skip : ∀ u' : Cm, may F (c0 79) row p k = false → Off [92, 94, 95, 96, 97, 98, 99, 100] [30, 34, 35, 36, 44, 45, 46] c0 u' → Off [97] [] u.2 u' → u' 97 k = p → (∀ i, 0 ≤ i → i < k → u' 97 i = row i) → Q (cev 278 9 134 [vR 78, vI by', vI n, vI (c0 79 4), vI k, vU] [] (SH T, u')) := by
      intro u' hm o1 o2 e97 e5
      refine ihp (u.1, u') ⟨by omega, ?_, by show u' 97 k = p + 1 - 1; omega, o1, i4.off o2 rfl, e5, fun j a b => (i6 j a b).off o2 rfl, i7.off o2 rfl, ⟨i8.1, by show u.1.1 ≤ _; omega⟩⟩
      rw [fsp, hm, if_neg (by decide)]
    refine W_X12_goThrough_134 ⟨fun h => absurd h (by omega), fun _ => ?_⟩
    rw [i2, show p - 1 + 1 = p from by omega, up_same, eu]
    refine ⟨by omega, fun h => absurd h (by omega), fun _ => ⟨by omega, fun h2 => ?_, fun h2 => skip _ ?_ oc oc' up_same c5⟩⟩
    · rw [(i4.2 k p hk0 (by omega) i0.1 hp).2] at h2
      have hb := b01_e0 h2
      refine QI.of_eq (r_restsInRow (p := p) (h0.off oc rfl) (by omega) c5) ?_
      rw [oc.row rfl]
      have my : may F (c0 79) row p k = !rrw (c0 79) row p k := by unfold may; rw [hb]; rfl
      refine ⟨fun h3 => ⟨by omega, ?_⟩, fun h3 => skip _ ?_ oc oc' up_same c5⟩
      · have mt : may F (c0 79) row p k = true := by rw [my, b01_e0 h3]; rfl
        rw [mt, if_pos rfl] at fsp
        rw [show c0 79 4 + k + 1 = c0 79 4 + (k + 1) from by omega]
        have wc := h0.off oc rfl
        refine (r_paintPaper wc (a := k) (b := k + 1) (p := p) (y := c0 79 4 + (k + 1)) (by rw [oc.row rfl]; omega) (by omega) (by omega) (by omega) (by omega) ((i6 k hk0 (Int.le_refl _)).off oc' rfl) (Pk_bd hR hk0) (by rw [oc.row rfl]; exact (i4.1 (k + 1) (by omega) (by omega)).off oc' rfl)).mono fun c3 h4 => ⟨by omega, ?_⟩
        rw [oc.row rfl] at h4
        have o3 : Off [92, 94, 95, 96, 97, 98, 99, 100] [30, 34, 35, 36, 44, 45, 46] c0 c3 := oc.trans (h4.2.2.mono rfl rfl)
        have o3' : Off [96, 97] [] u.2 c3 := (oc'.mono rfl rfl).trans (h4.2.2.mono rfl rfl)
        have L3 := i4.off o3' rfl
        have B3 := i7.off o3' rfl
        have e97 : c3 97 = up u.2 97 k p 97 := h4.2.2.cell rfl
        have r3 : ∀ i, 0 ≤ i → i < k + 1 → c3 97 i = udD row k p i ∧ 0 ≤ udD row k p i ∧ udD row k p i < c0 79 0 := by
          intro i a b
          rw [e97, up_at]
          unfold udD
          by_cases e : i = k
          · rw [if_pos e, if_pos e]; exact ⟨rfl, i0.1, hp⟩
          · rw [if_neg e, if_neg e]
            exact ⟨i5 i a (by omega), (hr i a (by omega)).2⟩
        have cg : ∀ j, j ≤ k → Pk F (c0 79) (udD row k p) j = Pk F (c0 79) row j := fun j hj => Pk_cg fun i _ b => ud_lt (by omega)
        have P3 : ∀ j, 0 ≤ j → j ≤ k + 1 → PP c3 j (Pk F (c0 79) (udD row k p) j) := by
          intro j a b
          by_cases e : j = k + 1
          · rw [e, Pk_succ hk0, ud_at, cg k (Int.le_refl _)]
            exact h4.1
          · rw [cg j (by omega)]
            exact ((i6 j a (by omega)).off oc' rfl).keep h4.2.1 e
        have db := dfr_bd (F := F) (R := c0 79) (by' := by') (n := n) (by omega) (m := m) (k := k + 1) (row := udD row k p) (B := u.1) (by omega) (by omega) i8.1
        have fin : ∀ c4, Off [92, 94, 95, 96, 97, 98, 99, 100] [30, 34, 35, 36, 44, 45, 46] c0 c4 → RPn c4 F (c0 79) n → (∀ i, 0 ≤ i → i < k + 1 → c4 97 i = udD row k p i) → (∀ j, 0 ≤ j → j ≤ k + 1 → PP c4 j (Pk F (c0 79) (udD row k p) j)) → RB c4 n (dfr F (c0 79) by' n m (k + 1) (udD row k p) u.1) → Q (cev 278 9 134 [vR 78, vI by', vI n, vI (c0 79 4), vI k, vU] [] (SH T, c4)) := by
          intro c4 o4 l4 r4 p4 b4
          refine ihp (_, c4) ⟨by omega, fsp.symm, ?_, o4, l4, fun i a b => ?_, fun j a b => ?_, b4, ⟨db.1, by show (dfr F (c0 79) by' n m (k + 1) (udD row k p) u.1).1 ≤ _; omega⟩⟩
          · show c4 97 k = p + 1 - 1
            rw [r4 k hk0 (by omega), ud_at]
            omega
          · show c4 97 i = _
            rw [r4 i a (by omega), ud_lt b]
          · have := p4 j a (by omega)
            rw [cg j b] at this
            exact this
        rcases m with _ | m
        · refine ⟨fun _ => ?_, fun h => absurd (show k = n - 1 by omega) h⟩
          have kn : k + 1 = n := by omega
          have w3 := h0.off o3 rfl
          have e3 := o3.row rfl
          have := r_pweigh (T := T) (by' := by') (row := udD row k p) (B := u.1) w3 (by rw [e3]; exact L3) (by omega) (fun j a b => by rw [e3]; exact P3 j a (by omega)) (fun i a b => by rw [e3]; exact r3 i a (by omega)) B3 ⟨i8.1, by have : pw 5 0 = 1 := rfl; omega⟩
          rw [e3] at this
          refine this.mono fun c4 h5 => ?_
          have o4 : Off [92, 94, 95, 96, 97, 98, 99, 100] [30, 34, 35, 36, 44, 45, 46] c0 c4 := o3.trans (h5.2.mono rfl rfl)
          refine fin c4 o4 (L3.off h5.2 rfl) (fun i a b => ?_) (fun j a b => (P3 j a b).off h5.2 rfl) ?_
          · rw [h5.2.cell rfl]; exact (r3 i a b).1
          · rw [kn]; exact h5.1
        · refine ⟨fun h => absurd h (by omega), fun _ => ⟨by omega, ?_⟩⟩
          have o5 : Off [92, 94, 95, 96, 97, 98, 99, 100] [30, 34, 35, 36, 44, 45, 46] c0 (up c3 97 (k + 1) (-1)) := o3.wr rfl
          have o5' : Off [97] [] c3 (up c3 97 (k + 1) (-1)) := Off.rfl.wr rfl
          refine ih m (by omega) (k + 1) (udD row k p) u.1 _ (by omega) (by omega) o5 (L3.off o5' rfl) (fun i a b => ?_) (fun j a b => (P3 j a b).off o5' rfl) (B3.off o5' rfl) i8.1 (by omega) up_same fun c4 o4 l4 r4 p4 b4 => ?_
          · rw [up_ne (by omega)]; exact r3 i a b
          · rw [show k + 1 - 1 = k from by omega]
            exact fin c4 o4 l4 r4 p4 b4
      · rw [my, b01_ne h3]; rfl
    · unfold may
      rw [(i4.2 k p hk0 (by omega) i0.1 hp).2] at h2
      rw [b01_ne h2]; rfl
  · intro p u hp hI
    obtain ⟨i0, i1, i2, i3, i4, i5, i6, i7, i8⟩ := hI
    have : p = c0 79 0 := by omega
    subst this
    have eu := i3.row rfl
    have oc : Off [92, 94, 95, 96, 97, 98, 99, 100] [30, 34, 35, 36, 44, 45, 46] c0 (up u.2 97 k (c0 79 0)) := i3.wr rfl
    have oc' : Off [97] [] u.2 (up u.2 97 k (c0 79 0)) := Off.rfl.wr rfl
    refine W_X12_goThrough_134 ⟨fun h => absurd h (by omega), fun _ => ?_⟩
    rw [i2, show c0 79 0 - 1 + 1 = c0 79 0 from by omega, up_same, eu]
    refine ⟨by omega, fun _ => ⟨by omega, ?_⟩, fun h => absurd rfl h⟩
    refine cont _ oc (i4.off oc' rfl) (fun i a b => by rw [up_ne (by omega)]; exact i5 i a b) (fun j a b => (i6 j a b).off oc' rfl) ?_
    have := i7.off oc' rfl
    rw [i1] at this
    exact this
theorem r_goThrough {T : List Shp} {c : Cm} {F : List Clz} {by' n : Int} (h : RWd c F) (hn : 0 ≤ n ∧ n ≤ 5) (hb44 : 0 ≤ c 77 44 ∧ c 77 44 ≤ 200) (hb45 : 0 ≤ c 77 45 ∧ c 77 45 ≤ 10000) : QV T (fun c' => RB c' n (pln F (c 79) by' n) ∧ Off [92, 94, 95, 96, 97, 98, 99, 100] [30, 34, 35, 36, 44, 45, 46] c c') (ccal 278 [vR 78, vI by', vI n] (SH T, c)) := by
  have hR := h.1
  have h1 := hR.1
  refine W_X12_goThrough (Q := QV T _) ?_
  have o0 : Off [92, 94, 95, 96, 97, 98, 99, 100] [30, 34, 35, 36, 44, 45, 46] c (up c 77 46 0) := Off.rfl.wr rfl
  refine lpI (E := fun k (u : Cm) => cev 278 9 13 [vR 78, vI by', vI n, vI (c 79 4), vI k, vU] [] (SH T, u)) (fun k u => (0 ≤ k ∧ k ≤ n + 1) ∧ Off [92, 94, 95, 96, 97, 98, 99, 100] [30, 34, 35, 36, 44, 45, 46] c u ∧ u 77 46 = 0 ∧ u 77 44 = c 77 44 ∧ u 77 45 = c 77 45 ∧ (∀ j, 0 ≤ j → j < k → LK u F (c 79) (c 79 4 + j)) ∧ ∀ j p, 0 ≤ j → j < k → j < n → 0 ≤ p → p < c 79 0 → u 99 (5 * j + p) = ask F (c 79) p (c 79 4 + (j + 1)) ∧ u 100 (5 * j + p) = b01 (brp F (c 79) p (c 79 4 + (j + 1)) = true)) (n + 1) ?_ ?_ 0 _ ⟨by omega, o0, up_same, up_ne (by decide), up_ne (by decide), fun j a b => by omega, fun j p a b => by omega⟩
  · intro k u hk hI ih
    obtain ⟨i0, i1, i46, i44, i45, i2, i3⟩ := hI
    have eu := i1.row rfl
    refine W_X12_goThrough_13 ⟨fun h => absurd h (by omega), fun _ => ⟨by omega, ?_⟩⟩
    refine (r_layLooks (h.off i1 rfl) (y := c 79 4 + k) (by omega)).mono fun c3 h2 => ?_
    rw [eu] at h2
    have o3 : Off [92, 94, 95, 96, 97, 98, 99, 100] [30, 34, 35, 36, 44, 45, 46] c c3 := i1.trans (h2.2.2.mono rfl rfl)
    have k99 : c3 99 = u 99 := h2.2.2.cell rfl
    have k100 : c3 100 = u 100 := h2.2.2.cell rfl
    have lk3 : ∀ j, 0 ≤ j → j < k + 1 → LK c3 F (c 79) (c 79 4 + j) := fun j a b => by
      by_cases e : j = k
      · rw [e]; exact h2.1
      · exact (i2 j a (by omega)).keep h2.2.1 (by omega)
    refine lpI (E := fun p (v : Cm) => cev 278 9 30 [vR 78, vI by', vI n, vI (c 79 4), vI k, vI p] [] (SH T, v)) (fun p v => (0 ≤ p ∧ p ≤ c 79 0) ∧ Off [92, 94, 99, 100] [30, 34, 35, 36] c3 v ∧ (∀ j, j < 5 * k → v 99 j = u 99 j ∧ v 100 j = u 100 j) ∧ (k < n → ∀ q, 0 ≤ q → q < p → v 99 (5 * k + q) = ask F (c 79) q (c 79 4 + (k + 1)) ∧ v 100 (5 * k + q) = b01 (brp F (c 79) q (c 79 4 + (k + 1)) = true))) (c 79 0) ?_ ?_ 0 c3 ⟨by omega, Off.rfl, fun j _ => by rw [k99, k100]; exact ⟨rfl, rfl⟩, fun _ q a b => by omega⟩
    · intro p v hp hV ihp
      obtain ⟨v0, v1, v2, v3⟩ := hV
      have ov : Off [92, 94, 95, 96, 97, 98, 99, 100] [30, 34, 35, 36, 44, 45, 46] c v := o3.trans (v1.mono rfl rfl)
      have ev := ov.row rfl
      have nxt : ∀ w : Cm, ¬ k < n → Off [92, 94, 99, 100] [30, 34, 35, 36] c3 w → (∀ j, j < 5 * k → w 99 j = u 99 j ∧ w 100 j = u 100 j) → QV T (fun c' => RB c' n (pln F (c 79) by' n) ∧ Off [92, 94, 95, 96, 97, 98, 99, 100] [30, 34, 35, 36, 44, 45, 46] c c') (cev 278 9 13 [vR 78, vI by', vI n, vI (c 79 4), vI (k + 1), vU] [] (SH T, w)) := by
        intro w hkn w1 w2
        have ow : Off [92, 94, 95, 96, 97, 98, 99, 100] [30, 34, 35, 36, 44, 45, 46] c w := o3.trans (w1.mono rfl rfl)
        refine ih w ⟨by omega, ow, by rw [w1.fld rfl, h2.2.2.fld rfl]; exact i46, by rw [w1.fld rfl, h2.2.2.fld rfl]; exact i44, by rw [w1.fld rfl, h2.2.2.fld rfl]; exact i45, fun j a b => (lk3 j a b).off w1 rfl, fun j q a b b2 a3 b3 => ?_⟩
        rw [(w2 (5 * j + q) (by omega)).1, (w2 (5 * j + q) (by omega)).2]
        exact i3 j q a (by omega) b2 a3 b3
      refine W_X12_goThrough_30 ?_
      rw [ev]
      refine ⟨fun _ => ⟨fun hkn => ⟨by omega, ?_⟩, fun hkn => ⟨by omega, nxt v hkn v1 v2⟩⟩, fun h => absurd hp h⟩
      rw [show c 79 4 + k + 1 = c 79 4 + (k + 1) from by omega]
      refine (r_asksOf (h.off ov rfl) (p := p) (y := c 79 4 + (k + 1)) (by rw [ev]; omega) (by omega)).mono fun r1 c5 h5 => ⟨by omega, ?_⟩
      rw [ev] at h5
      have o5 : Off [92, 94, 99, 100] [30, 34, 35, 36] c3 (up c5 99 (5 * k + p) r1) := (v1.trans (h5.2.mono rfl rfl)).wr rfl
      have o5' : Off [92, 94, 95, 96, 97, 98, 99, 100] [30, 34, 35, 36, 44, 45, 46] c (up c5 99 (5 * k + p) r1) := o3.trans (o5.mono rfl rfl)
      refine (r_isBarred (h.off o5' rfl) (p := p) (y := c 79 4 + (k + 1)) (by rw [o5'.row rfl]; omega) (by omega)).mono fun r3 c7 h7 => ?_
      rw [o5'.row rfl] at h7
      have b7 : r3 = 0 ∨ r3 = 1 := by rw [h7.1]; exact b01_or
      have e99 : c7 99 = up c5 99 (5 * k + p) r1 99 := h7.2.cell rfl
      have f99 : c5 99 = v 99 := h5.2.cell rfl
      have e100 : c7 100 = v 100 := ((h7.2.cell rfl).trans (up_cell (by decide))).trans (h5.2.cell rfl)
      refine ⟨by omega, ihp _ ⟨by omega, (o5.trans (h7.2.mono rfl rfl)).wr rfl, fun j hj => ⟨?_, ?_⟩, fun _ q a b => ⟨?_, ?_⟩⟩⟩
      · rw [up_cell (by decide), e99, up_at, if_neg (by omega), f99]; exact (v2 j hj).1
      · rw [up_at, if_neg (by omega), e100]; exact (v2 j hj).2
      · rw [up_cell (by decide), e99, up_at]
        by_cases e : q = p
        · rw [if_pos (by omega), e]; exact h5.1
        · rw [if_neg (by omega), f99]; exact (v3 hkn q a (by omega)).1
      · rw [up_at]
        by_cases e : q = p
        · rw [if_pos (by omega), e]; exact h7.1
        · rw [if_neg (by omega), e100]; exact (v3 hkn q a (by omega)).2
    · intro p v hp hV
      obtain ⟨v0, v1, v2, v3⟩ := hV
      have : p = c 79 0 := by omega
      subst this
      have ov : Off [92, 94, 95, 96, 97, 98, 99, 100] [30, 34, 35, 36, 44, 45, 46] c v := o3.trans (v1.mono rfl rfl)
      refine W_X12_goThrough_30 ?_
      rw [ov.row rfl]
      refine ⟨fun h => absurd h (by omega), fun _ => ⟨by omega, ?_⟩⟩
      refine ih v ⟨by omega, ov, by rw [v1.fld rfl, h2.2.2.fld rfl]; exact i46, by rw [v1.fld rfl, h2.2.2.fld rfl]; exact i44, by rw [v1.fld rfl, h2.2.2.fld rfl]; exact i45, fun j a b => (lk3 j a b).off v1 rfl, fun j q a b b2 a3 b3 => ?_⟩
      by_cases e : j = k
      · rw [e]; exact v3 (by omega) q a3 b3
      · rw [(v2 (5 * j + q) (by omega)).1, (v2 (5 * j + q) (by omega)).2]
        exact i3 j q a (by omega) b2 a3 b3
  · intro k u hk hI
    obtain ⟨i0, i1, i46, i44, i45, i2, i3⟩ := hI
    have eu := i1.row rfl
    refine W_X12_goThrough_13 ⟨fun _ => ?_, fun h => absurd h (by omega)⟩
    refine (r_loadPaper (a := 0) (l := c 79 4) (by omega) (by omega)).mono fun c1 h2 => ?_
    rw [eu] at h2
    have o1 : Off [92, 94, 95, 96, 97, 98, 99, 100] [30, 34, 35, 36, 44, 45, 46] c c1 := i1.trans (h2.2.2.mono rfl rfl)
    have w1 := h.off o1 rfl
    have e1 := o1.row rfl
    have L1 : RPn c1 F (c 79) n := RPn.off (c := u) ⟨fun j a b => i2 j a (by omega), fun j p a b a2 b2 => i3 j p a (by omega) b a2 b2⟩ h2.2.2 rfl
    have B1 : RB c1 n (0, 0, 0, fun _ => 0) := by
      refine ⟨⟨by rw [h2.2.2.fld rfl]; exact i46, fun q => absurd rfl q⟩, ?_, ?_⟩
      · rw [h2.2.2.fld rfl, i44]; exact hb44
      · rw [h2.2.2.fld rfl, i45]; exact hb45
    have epl : ∀ m : Nat, (m : Int) = n → dfr F (c 79) by' n m 0 (fun _ => 0) (0, 0, 0, fun _ => 0) = pln F (c 79) by' n := by
      intro m hm
      rw [dfr_dfs (by omega) m 0 _ _ (by omega) (by omega), if_pos (show okk F (c 79) by' (fun _ => 0) 0 = true from rfl)]
      unfold pln
      rw [show n.toNat = m from by omega]
      rfl
    refine ⟨fun h3 => ?_, fun h3 => ?_⟩
    · subst h3
      have := r_pweigh (T := T) (by' := by') (n := 0) (row := fun _ => 0) (B := (0, 0, 0, fun _ => 0)) w1 (by rw [e1]; exact L1) (by omega) (fun j a b => by rw [show j = 0 from by omega, e1]; exact h2.1) (fun i a b => by omega) B1 ⟨(show (0 : Int) ≤ 0 by decide), (show (0 : Int) ≤ 100000 by decide)⟩
      rw [e1] at this
      refine this.mono fun c4 h5 => QV.ret ⟨?_, o1.trans (h5.2.mono rfl rfl)⟩
      rw [← epl 0 rfl]
      exact h5.1
    · have og : Off [92, 94, 95, 96, 97, 98, 99, 100] [30, 34, 35, 36, 44, 45, 46] c (up c1 97 0 (-1)) := o1.wr rfl
      have og' : Off [97] [] c1 (up c1 97 0 (-1)) := Off.rfl.wr rfl
      obtain ⟨m, hm⟩ : ∃ m : Nat, (m : Int) + 1 = n := ⟨(n - 1).toNat, by omega⟩
      have wg := h.off og rfl
      have eg := og.row rfl
      have := pw5 (m := m + 1) (by omega)
      refine r_dfs (T := T) (c0 := c) h (by omega) m 0 (fun _ => 0) (0, 0, 0, fun _ => 0) _ (by omega) (by omega) og (L1.off og' rfl) (fun i a b => by omega) (fun j a b => ?_) (B1.off og' rfl) (Int.le_refl _) (by show (0 : Int) + pw 5 (m + 1) ≤ 10000; omega) up_same fun c4 o4 l4 r4 p4 b4 => ?_
      · rw [show j = 0 from by omega]
        exact h2.1.off og' rfl
      · refine W_X12_goThrough_134 ⟨fun _ => QV.ret ⟨?_, ?_⟩, fun h => absurd (show (0 : Int) - 1 < 0 by decide) h⟩
        · rw [← epl (m + 1) (by omega)]
          exact b4
        · exact o4
theorem c_plan {T : List Shp} {c : Cm} {R : Int → Int} {F : List Clz} {b n w : Int} (h : CWd T c R F) : QI T (fun r c' => r = (if (0 ≤ b ∧ b ≤ 2) ∧ (0 ≤ n ∧ n ≤ 5) ∧ 0 ≤ w ∧ w < 3 + n then (if w = 2 then (pln F R b n).1 else if (pln F R b n).1 = 0 then -1 else if w = 0 then (pln F R b n).2.1 else if w = 1 then (pln F R b n).2.2.1 else (pln F R b n).2.2.2 (w - 3)) else -1) ∧ Off [14, 15, 16, 17, 21, 22, 23, 24, 25, 26, 27, 28] [] c c') (ccal 139 [vR 1, vI b, vI n, vI w] (SH T, c)) := by
  refine W_X11_plan (Q := QI T _) ⟨fun h1 => QI.ret ⟨by rw [if_neg (by omega)], Off.rfl⟩, fun h1 => ⟨fun h2 => QI.ret ⟨by rw [if_neg (by omega)], Off.rfl⟩, fun h2 => ⟨fun h3 => ⟨fun h4 => QI.ret ⟨by rw [if_neg (by omega)], Off.rfl⟩, fun h4 => ⟨by omega, fun h5 => ?_, fun h5 => QI.ret ⟨by rw [if_neg (by omega)], Off.rfl⟩⟩⟩, fun h3 => QI.ret ⟨by rw [if_neg (by omega)], Off.rfl⟩⟩⟩⟩
  rw [if_pos (by omega)]
  refine (c_seek h (by' := b) (n := n) (by omega)).mono fun c1 h6 => ?_
  obtain ⟨⟨b14, bb⟩, o1⟩ := h6
  rw [b14]
  refine ⟨fun h7 => QI.ret ⟨by rw [if_pos h7], o1⟩, fun h7 => ⟨fun h8 => QI.ret ⟨by rw [if_neg h7, if_pos h8], o1⟩, fun h8 => ?_⟩⟩
  have b3 := bb h8
  refine ⟨fun h9 => QI.ret ⟨by rw [if_neg h7, if_neg h8, if_pos h9]; exact b3.1, o1⟩, fun h9 => ⟨fun h10 => QI.ret ⟨by rw [if_neg h7, if_neg h8, if_neg h9, if_pos h10]; exact b3.2.1, o1⟩, fun h10 => ⟨by omega, QI.ret ⟨by rw [if_neg h7, if_neg h8, if_neg h9, if_neg h10]; exact b3.2.2 (w - 3) (by omega) (by omega), o1⟩⟩⟩⟩
theorem r_plan {T : List Shp} {c : Cm} {F : List Clz} {b n w : Int} (h : RWd c F) (hb44 : 0 ≤ c 77 44 ∧ c 77 44 ≤ 200) (hb45 : 0 ≤ c 77 45 ∧ c 77 45 ≤ 10000) : QI T (fun r c' => r = (if (0 ≤ b ∧ b ≤ 2) ∧ (0 ≤ n ∧ n ≤ 5) ∧ 0 ≤ w ∧ w < 3 + n then (if w = 2 then (pln F (c 79) b n).1 else if (pln F (c 79) b n).1 = 0 then -1 else if w = 0 then (pln F (c 79) b n).2.1 else if w = 1 then (pln F (c 79) b n).2.2.1 else (pln F (c 79) b n).2.2.2 (w - 3)) else -1) ∧ ((0 ≤ c' 77 44 ∧ c' 77 44 ≤ 200) ∧ (0 ≤ c' 77 45 ∧ c' 77 45 ≤ 10000)) ∧ Off [92, 94, 95, 96, 97, 98, 99, 100] [0, 30, 34, 35, 36, 44, 45, 46] c c') (ccal 280 [vR 78, vI b, vI n, vI w] (SH T, c)) := by
  have o0 : Off [92, 94, 95, 96, 97, 98, 99, 100] [0, 30, 34, 35, 36, 44, 45, 46] c (up c 77 0 0) := Off.rfl.wr rfl
  have s0 : (0 ≤ up c 77 0 0 77 44 ∧ up c 77 0 0 77 44 ≤ 200) ∧ (0 ≤ up c 77 0 0 77 45 ∧ up c 77 0 0 77 45 ≤ 10000) := by
    rw [up_ne (by decide), up_ne (by decide)]
    exact ⟨hb44, hb45⟩
  refine W_X12_plan (Q := QI T _) ⟨fun h1 => ⟨fun h2 => ⟨by omega, fun h3 => ?_, fun h3 => QI.ret ⟨by rw [if_neg (by omega)], s0, o0⟩⟩, fun h2 => QI.ret ⟨by rw [if_neg (by omega)], s0, o0⟩⟩, fun h1 => QI.ret ⟨by rw [if_neg (by omega)], s0, o0⟩⟩
  rw [if_pos (by omega)]
  refine (r_goThrough (h.off o0 rfl) (by' := b) (n := n) h2 s0.1 s0.2).mono fun c1 h6 => ?_
  rw [o0.row rfl] at h6
  obtain ⟨⟨⟨b14, bb⟩, s1⟩, o1'⟩ := h6
  have o1 : Off [92, 94, 95, 96, 97, 98, 99, 100] [0, 30, 34, 35, 36, 44, 45, 46] c c1 := o0.trans (o1'.mono rfl rfl)
  rw [b14]
  refine ⟨fun h7 => QI.ret ⟨by rw [if_pos h7], s1, o1⟩, fun h7 => ⟨fun h8 => QI.ret ⟨by rw [if_neg h7, if_pos h8], s1, o1⟩, fun h8 => ?_⟩⟩
  have b3 := bb h8
  refine ⟨fun h9 => QI.ret ⟨by rw [if_neg h7, if_neg h8, if_pos h9]; exact b3.1, s1, o1⟩, fun h9 => ⟨fun h10 => QI.ret ⟨by rw [if_neg h7, if_neg h8, if_neg h9, if_pos h10]; exact b3.2.1, s1, o1⟩, fun h10 => ⟨by omega, QI.ret ⟨by rw [if_neg h7, if_neg h8, if_neg h9, if_neg h10]; exact b3.2.2 (w - 3) (by omega) (by omega), s1, o1⟩⟩⟩⟩

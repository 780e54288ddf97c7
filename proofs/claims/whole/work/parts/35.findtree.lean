/-! TREES: what the reference finds -/
def RMt (R : Int → Int) (n : Nat) (l : List Nat) (m w : Int) (fd : Int → Int) : Prop := (l = [] ∧ m = 100000000 ∧ w = 0) ∨ (l ≠ [] ∧ IsMC (l.map fun v => csN R v n) (m, w) ∧ ∃ u, l.find? (HitN R n m) = some u ∧ ∀ j : Nat, j < n → fd (j : Int) = ((dgN u (j + 1) : Nat) : Int))
theorem one_mc {x : Int} : IsMC [x] (x, 1) := .inr ⟨List.mem_singleton.mpr rfl, fun y hy => by rw [List.mem_singleton.mp hy]; exact Int.le_refl _, by
  show (1 : Int) = (([x].count x : Nat) : Int)
  rw [List.count_singleton_self]
  rfl⟩
theorem RMt_app {R : Int → Int} {n u : Nat} {l : List Nat} {m w : Int} (hn : n ≤ 6) (h : IsMC (l.map fun v => csN R v n) (m, w)) : IsMC ((l ++ [u]).map fun v => csN R v n) (adP (m, w) (csN R u n) 1) := by
  have cb := cs_bd (R := R) (u := u) n
  rw [List.map_append]
  exact mc_app h one_mc (by simp) fun x hx => by
    have : x = csN R u n := List.mem_singleton.mp hx
    omega
theorem RMt_gt {R : Int → Int} {n u : Nat} {l : List Nat} {m w : Int} {fd : Int → Int} (hn : n ≤ 6) (h : RMt R n l m w fd) (hc : m < csN R u n) : RMt R n (l ++ [u]) m w fd := by
  have cb := cs_bd (R := R) (u := u) n
  rcases h with ⟨_, h2, _⟩ | ⟨h1, h2, x, h3, h4⟩
  · omega
  · right
    have a := RMt_app (u := u) hn h2
    rw [show adP (m, w) (csN R u n) 1 = (m, w) from by unfold adP; rw [if_neg (show ¬ csN R u n < m by omega), if_neg (show ¬ csN R u n = m by omega)]] at a
    refine ⟨by simp, a, x, ?_, h4⟩
    rw [find_app, h3]
    rfl
theorem RMt_eq {R : Int → Int} {n u : Nat} {l : List Nat} {m w : Int} {fd : Int → Int} (hn : n ≤ 6) (h : RMt R n l m w fd) (hc : csN R u n = m) : RMt R n (l ++ [u]) m (w + 1) fd := by
  have cb := cs_bd (R := R) (u := u) n
  rcases h with ⟨_, h2, _⟩ | ⟨h1, h2, x, h3, h4⟩
  · omega
  · right
    have a := RMt_app (u := u) hn h2
    rw [show adP (m, w) (csN R u n) 1 = (m, w + 1) from by unfold adP; rw [if_neg (show ¬ csN R u n < m by omega), if_pos (show csN R u n = m from hc)]] at a
    refine ⟨by simp, a, x, ?_, h4⟩
    rw [find_app, h3]
    rfl
theorem RMt_lt {R : Int → Int} {n u : Nat} {l : List Nat} {m w : Int} {fd fd' : Int → Int} (hn : n ≤ 6) (h : RMt R n l m w fd) (hc : csN R u n < m) (hf : ∀ j : Nat, j < n → fd' (j : Int) = ((dgN u (j + 1) : Nat) : Int)) : RMt R n (l ++ [u]) (csN R u n) 1 fd' := by
  have cb := cs_bd (R := R) (u := u) n
  have hit : ([u] : List Nat).find? (HitN R n (csN R u n)) = some u := by
    show (match HitN R n (csN R u n) u with | true => some u | false => ([] : List Nat).find? _) = _
    rw [show HitN R n (csN R u n) u = true from decide_eq_true rfl]
  rcases h with ⟨h1, h2, _⟩ | ⟨h1, h2, x, h3, h4⟩
  · subst h1
    exact .inr ⟨by simp, one_mc, u, hit, hf⟩
  · right
    have a := RMt_app (u := u) hn h2
    rw [show adP (m, w) (csN R u n) 1 = (csN R u n, 1) from by unfold adP; rw [if_pos (show csN R u n < m from hc)]] at a
    refine ⟨by simp, a, u, ?_, hf⟩
    have none : l.find? (HitN R n (csN R u n)) = none := by
      refine List.find?_eq_none.mpr fun y hy hz => ?_
      have hz2 := of_decide_eq_true hz
      rcases h2 with ⟨e, _⟩ | ⟨_, b, _⟩
      · exact h1 (List.map_eq_nil_iff.mp e)
      · have := b _ (List.mem_map.mpr ⟨y, hy, rfl⟩)
        omega
    rw [find_app, none]
    exact hit
theorem RMt_cnt {R : Int → Int} {n : Nat} {l : List Nat} {m w : Int} {fd : Int → Int} (h : RMt R n l m w fd) : 0 ≤ w ∧ w ≤ (l.length : Int) := by
  rcases h with ⟨_, _, e⟩ | ⟨_, h2, _⟩
  · omega
  · have := mc_cnt h2
    rw [List.length_map] at this
    exact this
theorem pw_le {n i : Nat} (hn : n ≤ 6) (hi : i ≤ n) : 1 ≤ (n + 1) ^ i ∧ (n + 1) ^ i ≤ 117649 := by
  refine ⟨Nat.pow_pos (by omega), ?_⟩
  have a : (n + 1) ^ i ≤ 7 ^ i := Nat.pow_le_pow_left (by omega) i
  have b : 7 ^ i ≤ 7 ^ 6 := Nat.pow_le_pow_right (by decide) (by omega)
  omega
theorem r_findTree {T : List Shp} {c : Cm} {F : List Clz} {n : Nat} (h : RWd c F) (hn : c 79 5 = (n : Int)) : QV T (fun c' => RMt (c 79) n (dfS n n 1 0) (c' 77 49) (c' 77 50) (c' 103) ∧ Off [102, 103] [49, 50] c c') (ccal 295 [vR 78] (SH T, c)) := by
  have h1 := h.1.1
  have n6 : n ≤ 6 := by omega
  refine W_X12_findTree (Q := QV T _) ?_
  rw [hn]
  refine lpI (E := fun i (a : Int) => cev 295 2 11 [vR 78, vI (n : Int), vI a, vI i, vU, vU, vU] [] (SH T, c)) (fun i a => (0 ≤ i ∧ i ≤ n) ∧ a = (((n + 1) ^ i.toNat : Nat) : Int)) n ?_ ?_ 0 1 ⟨by omega, rfl⟩
  · intro i a hi hI ih
    obtain ⟨hi0, ha⟩ := hI
    obtain ⟨k, rfl⟩ := Int.eq_ofNat_of_zero_le hi0.1
    rw [Int.toNat_natCast] at ha
    have p := pw_le n6 (show k + 1 ≤ n by omega)
    have p0 := pw_le n6 (show k ≤ n by omega)
    have ea : a * ((n : Int) + 1) = (((n + 1) ^ (k + 1) : Nat) : Int) := by rw [ha, Nat.pow_succ, Int.natCast_mul, Int.natCast_add, Int.natCast_one]
    refine W_X12_findTree_11 ⟨fun _ => ?_, fun z => absurd hi z⟩
    rw [ea]
    refine ⟨by omega, ih _ ⟨by omega, by rw [show ((k : Int) + 1).toNat = k + 1 from by omega]⟩⟩
  · intro i a hi hI
    obtain ⟨hi0, ha⟩ := hI
    have e : i = n := by omega
    subst e
    rw [Int.toNat_natCast] at ha
    subst ha
    have pA := pw_le n6 (Nat.le_refl n)
    refine W_X12_findTree_11 ⟨fun z => absurd z (by omega), fun _ => ?_⟩
    have o0 : Off [102, 103] [49, 50] c (up (up c 77 49 100000000) 77 50 0) := (Off.rfl.wr rfl).wr rfl
    have w49 : up (up c 77 49 100000000) 77 50 0 77 49 = 100000000 := by rw [up_ne (by decide), up_same]
    refine lpI (E := fun z (c' : Cm) => cev 295 2 42 [vR 78, vI (n : Int), vI (((n + 1) ^ n : Nat) : Int), vI z, vU, vU, vU] [] (SH T, c')) (fun z c' => (0 ≤ z ∧ z ≤ (((n + 1) ^ n : Nat) : Int)) ∧ Off [102, 103] [49, 50] c c' ∧ RMt (c 79) n (((List.range z.toNat).map (vcN n n 1 0)).filter (T8 n)) (c' 77 49) (c' 77 50) (c' 103)) (((n + 1) ^ n : Nat) : Int) ?_ ?_ 0 _ ⟨by omega, o0, .inl ⟨rfl, w49, up_same⟩⟩
    · intro z c1 hz hI ih
      obtain ⟨hz0, o1, hM⟩ := hI
      obtain ⟨z, rfl⟩ := Int.eq_ofNat_of_zero_le hz0.1
      rw [Int.toNat_natCast] at hM
      generalize hu : vcN n n 1 0 z = u at hM
      have dg := (vc_dg n6 n 1 0 z (by decide) (by omega)).2
      rw [hu] at dg
      have dl : ∀ j, 1 ≤ j → j ≤ n → dgN u j ≤ n := fun j a b => by
        have := Nat.mod_lt (z / (n + 1) ^ (1 + n - 1 - j)) (show 0 < n + 1 by omega)
        rw [dg j a (by omega)]
        omega
      have nxy : ((List.range ((z : Int) + 1).toNat).map (vcN n n 1 0)).filter (T8 n) = ((List.range z).map (vcN n n 1 0)).filter (T8 n) ++ (if T8 n u = true then [u] else []) := by
        rw [show ((z : Int) + 1).toNat = z + 1 from by omega, List.range_succ, List.map_append, List.filter_append]
        congr 1
        show ([vcN n n 1 0 z] : List Nat).filter (T8 n) = _
        rw [hu]
        by_cases q : T8 n u = true
        · rw [if_pos q, List.filter_cons_of_pos q]; rfl
        · rw [if_neg q, List.filter_cons_of_neg q]; rfl
      have hcn := RMt_cnt hM
      have hlen : ((((List.range z).map (vcN n n 1 0)).filter (T8 n)).length : Int) ≤ z := by
        have := List.length_filter_le (T8 n) ((List.range z).map (vcN n n 1 0))
        rw [List.length_map, List.length_range] at this
        omega
      have cbn := cs_bd (R := c 79) (u := u) n
      refine W_X12_findTree_42 ⟨fun _ => ⟨by omega, ?_⟩, fun q => absurd hz q⟩
      refine lpD (E := fun i (s : Int × Int × Cm) => cev 295 2 58 [vR 78, vI (n : Int), vI (((n + 1) ^ n : Nat) : Int), vI (z : Int), vI s.1, vI s.2.1, vI i] [] (SH T, s.2.2)) (fun i s => (-1 ≤ i ∧ i < n) ∧ Off [102] [] c1 s.2.2 ∧ s.1 = ((z / (n + 1) ^ (n - (i + 1).toNat) : Nat) : Int) ∧ s.2.1 = csN (c 79) u n - csN (c 79) u (i + 1).toNat ∧ ∀ j : Nat, i < (j : Int) → j < n → s.2.2 102 (j : Int) = ((dgN u (j + 1) : Nat) : Int)) 0 ?_ ?_ ((n : Int) - 1) ((z : Int), 0, c1) ⟨by omega, Off.rfl, ?_, ?_, fun j a b => by omega⟩
      · intro i s hi2 hS ih2
        obtain ⟨hi0, o2, e1, e2, hj⟩ := hS
        obtain ⟨k, rfl⟩ := Int.eq_ofNat_of_zero_le hi2
        have o02 := o1.trans (o2.mono rfl rfl)
        rw [show ((k : Int) + 1).toNat = k + 1 from by omega] at e1 e2
        have ed : s.1 % ((n : Int) + 1) = ((dgN u (k + 1) : Nat) : Int) := by
          rw [dg (k + 1) (by omega) (by omega), e1, show 1 + n - 1 - (k + 1) = n - (k + 1) from by omega, Int.natCast_emod, Int.natCast_add, Int.natCast_one]
        have eq : s.1 / ((n : Int) + 1) = ((z / (n + 1) ^ (n - k) : Nat) : Int) := by
          rw [e1, show n - k = (n - (k + 1)) + 1 from by omega, Nat.pow_succ, ← Nat.div_div_eq_div_mul, Int.natCast_ediv (z / _), Int.natCast_add, Int.natCast_one]
        have dk := dl (k + 1) (by omega) (by omega)
        have s1 : 0 ≤ s.1 ∧ s.1 ≤ (z : Int) := by
          rw [e1]
          exact ⟨Int.natCast_nonneg _, Int.ofNat_le.mpr (Nat.div_le_self z ((n + 1) ^ (n - (k + 1))))⟩
        have cbk := cs_bd (R := c 79) (u := u) (k + 1)
        have mono : csN (c 79) u (k + 1) ≤ csN (c 79) u n := by
          obtain ⟨d, hd⟩ := Nat.le.dest (show k + 1 ≤ n by omega)
          rw [← hd]
          clear hd
          induction d with
          | zero => exact Int.le_refl _
          | succ d ihd =>
            have := lik_bd (R := c 79) (a := ((dgN u (k + 1 + d + 1) : Nat) : Int)) (b := ((k + 1 + d + 1 : Nat) : Int))
            show _ ≤ csN (c 79) u (k + 1 + d) + lik (c 79) ((dgN u (k + 1 + d + 1) : Nat) : Int) ((k + 1 + d + 1 : Nat) : Int)
            omega
        refine W_X12_findTree_58 ⟨fun q => absurd q (by omega), fun _ => ?_⟩
        rw [ed, eq, up_same]
        refine ⟨by omega, ?_⟩
        refine QI.of_eq (r_apart (by split <;> omega) (by split <;> omega)) ?_
        have on : Off [102] [] c1 (up s.2.2 102 (k : Int) ((dgN u (k + 1) : Nat) : Int)) := o2.wr rfl
        have er : up s.2.2 102 (k : Int) ((dgN u (k + 1) : Nat) : Int) 79 = c 79 := (o1.trans (on.mono rfl rfl)).row rfl
        have el : apr (up s.2.2 102 (k : Int) ((dgN u (k + 1) : Nat) : Int) 79) (if ((dgN u (k + 1) : Nat) : Int) - 1 = -1 then 12 else 276 + 12 * (((dgN u (k + 1) : Nat) : Int) - 1)) (if (k : Int) = -1 then 12 else 276 + 12 * (k : Int)) = lik (c 79) ((dgN u (k + 1) : Nat) : Int) ((k + 1 : Nat) : Int) := by
          rw [er]
          unfold lik nod
          congr 1
          · by_cases q : ((dgN u (k + 1) : Nat) : Int) = 0
            · rw [if_pos (by omega), if_pos q]
            · rw [if_neg (by omega), if_neg q]
          · rw [if_neg (by omega), if_neg (by omega)]
            omega
        rw [el]
        have lb := lik_bd (R := c 79) (a := ((dgN u (k + 1) : Nat) : Int)) (b := ((k + 1 : Nat) : Int))
        refine ⟨by omega, ?_⟩
        rw [show (k : Int) + -1 = (k : Int) - 1 from by omega]
        refine ih2 (((z / (n + 1) ^ (n - k) : Nat) : Int), s.2.1 + lik (c 79) ((dgN u (k + 1) : Nat) : Int) ((k + 1 : Nat) : Int), up s.2.2 102 (k : Int) ((dgN u (k + 1) : Nat) : Int)) ⟨by omega, on, ?_, ?_, fun j a b => ?_⟩
        · rw [show ((k : Int) - 1 + 1).toNat = k from by omega]
        · rw [show ((k : Int) - 1 + 1).toNat = k from by omega]
          show s.2.1 + _ = _
          rw [e2]
          show csN (c 79) u n - (csN (c 79) u k + lik (c 79) ((dgN u (k + 1) : Nat) : Int) ((k + 1 : Nat) : Int)) + _ = _
          omega
        · show up s.2.2 102 (k : Int) ((dgN u (k + 1) : Nat) : Int) 102 (j : Int) = _
          by_cases q : j = k
          · rw [q, up_same]
          · rw [up_ne (by omega)]; exact hj j (by omega) b
      · intro i s hi2 hS
        obtain ⟨hi0, o2, e1, e2, hj⟩ := hS
        have ei : i = -1 := by omega
        subst ei
        have o02 := o1.trans (o2.mono rfl rfl)
        have es : s.2.1 = csN (c 79) u n := by rw [e2]; show _ - 0 = _; omega
        have f49 : s.2.2 77 49 = c1 77 49 := o2.fld rfl
        have f50 : s.2.2 77 50 = c1 77 50 := o2.fld rfl
        have f103 : s.2.2 103 = c1 103 := o2.cell rfl
        rw [← f49, ← f50, ← f103] at hM
        rw [← f50] at hcn
        refine W_X12_findTree_58 ⟨fun _ => ?_, fun q => absurd (show (-1 : Int) < 0 by decide) q⟩
        rw [es]
        refine ⟨fun q => ⟨by omega, ih s.2.2 ⟨by omega, o02, ?_⟩⟩, fun q => QI.of_eq (r_isTree n6 (fun j a => hj j (by omega) a) dl) ⟨fun q2 => ⟨by omega, ih s.2.2 ⟨by omega, o02, ?_⟩⟩, fun q2 => ⟨fun q3 => ?_, fun q3 => ?_⟩⟩⟩
        · rw [nxy]
          by_cases t : T8 n u = true
          · rw [if_pos t]; exact RMt_gt n6 hM q
          · rw [if_neg t, List.append_nil]; exact hM
        · rw [nxy, if_neg (b01_eq0.mp q2), List.append_nil]; exact hM
        · have t : T8 n u = true := Classical.byContradiction fun t => q2 (b01_f t)
          rw [if_pos t] at nxy
          refine lpI (E := fun j (c3 : Cm) => cev 295 2 159 [vR 78, vI (n : Int), vI (((n + 1) ^ n : Nat) : Int), vI (z : Int), vU, vI (csN (c 79) u n), vI j] [] (SH T, c3)) (fun j c3 => (0 ≤ j ∧ j ≤ n) ∧ Off [102, 103] [49, 50] c c3 ∧ c3 102 = s.2.2 102 ∧ c3 77 49 = s.2.2 77 49 ∧ c3 77 50 = 0 ∧ ∀ i : Nat, (i : Int) < j → c3 103 (i : Int) = ((dgN u (i + 1) : Nat) : Int)) n ?_ ?_ 0 _ ⟨by omega, o02.wr rfl, up_cell (by decide), up_ne (by decide), up_same, fun i a => by omega⟩
          · intro j c3 hj2 hJ ih3
            obtain ⟨hj0, o3, e102, e49, e50, hf⟩ := hJ
            obtain ⟨j, rfl⟩ := Int.eq_ofNat_of_zero_le hj0.1
            refine W_X12_findTree_159 ⟨fun _ => ⟨fun _ => ⟨by omega, ih3 _ ⟨by omega, o3.wr rfl, ?_, ?_, ?_, fun i a => ?_⟩⟩, fun y => absurd (by rw [e49]; exact q3) y⟩, fun y => absurd hj2 y⟩
            · rw [up_cell (by decide)]; exact e102
            · rw [up_cell (by decide)]; exact e49
            · rw [up_cell (by decide)]; exact e50
            · by_cases y : i = j
              · rw [y, up_same, e102]; exact hj j (by omega) (by omega)
              · rw [up_ne (by omega)]; exact hf i (by omega)
          · intro j c3 hj2 hJ
            obtain ⟨hj0, o3, e102, e49, e50, hf⟩ := hJ
            refine W_X12_findTree_159 ⟨fun y => absurd y (by omega), fun _ => ?_⟩
            refine W_X12_findTree_194 ⟨by omega, ih _ ⟨by omega, (o3.wr rfl).wr rfl, ?_⟩⟩
            rw [nxy, up_ne (show (49 : Int) ≠ 50 by decide), up_same, up_same, up_cell (q := 103) (by decide), up_cell (q := 103) (by decide), e50]
            exact RMt_lt n6 hM q3 fun i a => hf i (by omega)
        · have t : T8 n u = true := Classical.byContradiction fun t => q2 (b01_f t)
          rw [if_pos t] at nxy
          have fin : cev 295 2 194 [vR 78, vI (n : Int), vI (((n + 1) ^ n : Nat) : Int), vI (z : Int), vU, vI (csN (c 79) u n), vU] [] (SH T, up s.2.2 77 50 (s.2.2 77 50)) = cev 295 2 194 [vR 78, vI (n : Int), vI (((n + 1) ^ n : Nat) : Int), vI (z : Int), vU, vI (csN (c 79) u n), vU] [] (SH T, up s.2.2 77 50 (s.2.2 77 50)) := rfl
          have o3 : Off [102, 103] [49, 50] c (up s.2.2 77 50 (s.2.2 77 50)) := o02.wr rfl
          have go : QV T (fun c' => RMt (c 79) n (dfS n n 1 0) (c' 77 49) (c' 77 50) (c' 103) ∧ Off [102, 103] [49, 50] c c') (cev 295 2 194 [vR 78, vI (n : Int), vI (((n + 1) ^ n : Nat) : Int), vI (z : Int), vU, vI (csN (c 79) u n), vU] [] (SH T, up s.2.2 77 50 (s.2.2 77 50))) := by
            refine W_X12_findTree_194 ?_
            rw [up_same]
            refine ⟨by omega, ih _ ⟨by omega, (o3.wr rfl).wr rfl, ?_⟩⟩
            rw [nxy, up_ne (show (49 : Int) ≠ 50 by decide), up_same, up_same, up_cell (q := 103) (by decide), up_cell (q := 103) (by decide), up_cell (q := 103) (by decide)]
            have ec : csN (c 79) u n = s.2.2 77 49 := by omega
            have r := RMt_eq n6 hM ec
            rw [ec]
            exact r
          refine W_X12_findTree_159 ⟨fun _ => ⟨fun y => absurd y (by rw [up_ne (by decide)]; exact q3), fun _ => go⟩, fun _ => go⟩
      · show (z : Int) = ((z / (n + 1) ^ (n - ((n : Int) - 1 + 1).toNat) : Nat) : Int)
        rw [show n - ((n : Int) - 1 + 1).toNat = 0 from by omega, Nat.pow_zero, Nat.div_one]
      · show (0 : Int) = csN (c 79) u n - csN (c 79) u ((n : Int) - 1 + 1).toNat
        rw [show ((n : Int) - 1 + 1).toNat = n from by omega]
        omega
    · intro z c1 hz hI
      obtain ⟨hz0, o1, hM⟩ := hI
      have e : z = (((n + 1) ^ n : Nat) : Int) := by omega
      subst e
      rw [Int.toNat_natCast, ← alS_vc, al_trees n6] at hM
      exact W_X12_findTree_42 ⟨fun y => absurd y (by omega), fun _ => QV.ret ⟨hM, o1⟩⟩

/-! ways: how many bits -/
theorem bc_all : ∀ s : Fin 1024, (((-2147483648 ≤ ((s.val : Nat) : Int) - (iand (iushr ((s.val : Nat) : Int) 1) 1431655765) ∧ ((s.val : Nat) : Int) - (iand (iushr ((s.val : Nat) : Int) 1) 1431655765) < 2147483648) ∧ (-2147483648 ≤ (iand (((s.val : Nat) : Int) - (iand (iushr ((s.val : Nat) : Int) 1) 1431655765)) 858993459) + (iand (iushr (((s.val : Nat) : Int) - (iand (iushr ((s.val : Nat) : Int) 1) 1431655765)) 2) 858993459) ∧ (iand (((s.val : Nat) : Int) - (iand (iushr ((s.val : Nat) : Int) 1) 1431655765)) 858993459) + (iand (iushr (((s.val : Nat) : Int) - (iand (iushr ((s.val : Nat) : Int) 1) 1431655765)) 2) 858993459) < 2147483648) ∧ (-2147483648 ≤ ((iand (((s.val : Nat) : Int) - (iand (iushr ((s.val : Nat) : Int) 1) 1431655765)) 858993459) + (iand (iushr (((s.val : Nat) : Int) - (iand (iushr ((s.val : Nat) : Int) 1) 1431655765)) 2) 858993459)) + (iushr ((iand (((s.val : Nat) : Int) - (iand (iushr ((s.val : Nat) : Int) 1) 1431655765)) 858993459) + (iand (iushr (((s.val : Nat) : Int) - (iand (iushr ((s.val : Nat) : Int) 1) 1431655765)) 2) 858993459)) 4) ∧ ((iand (((s.val : Nat) : Int) - (iand (iushr ((s.val : Nat) : Int) 1) 1431655765)) 858993459) + (iand (iushr (((s.val : Nat) : Int) - (iand (iushr ((s.val : Nat) : Int) 1) 1431655765)) 2) 858993459)) + (iushr ((iand (((s.val : Nat) : Int) - (iand (iushr ((s.val : Nat) : Int) 1) 1431655765)) 858993459) + (iand (iushr (((s.val : Nat) : Int) - (iand (iushr ((s.val : Nat) : Int) 1) 1431655765)) 2) 858993459)) 4) < 2147483648) ∧ (-2147483648 ≤ (iand (((iand (((s.val : Nat) : Int) - (iand (iushr ((s.val : Nat) : Int) 1) 1431655765)) 858993459) + (iand (iushr (((s.val : Nat) : Int) - (iand (iushr ((s.val : Nat) : Int) 1) 1431655765)) 2) 858993459)) + (iushr ((iand (((s.val : Nat) : Int) - (iand (iushr ((s.val : Nat) : Int) 1) 1431655765)) 858993459) + (iand (iushr (((s.val : Nat) : Int) - (iand (iushr ((s.val : Nat) : Int) 1) 1431655765)) 2) 858993459)) 4)) 252645135) + (iushr (iand (((iand (((s.val : Nat) : Int) - (iand (iushr ((s.val : Nat) : Int) 1) 1431655765)) 858993459) + (iand (iushr (((s.val : Nat) : Int) - (iand (iushr ((s.val : Nat) : Int) 1) 1431655765)) 2) 858993459)) + (iushr ((iand (((s.val : Nat) : Int) - (iand (iushr ((s.val : Nat) : Int) 1) 1431655765)) 858993459) + (iand (iushr (((s.val : Nat) : Int) - (iand (iushr ((s.val : Nat) : Int) 1) 1431655765)) 2) 858993459)) 4)) 252645135) 8) ∧ (iand (((iand (((s.val : Nat) : Int) - (iand (iushr ((s.val : Nat) : Int) 1) 1431655765)) 858993459) + (iand (iushr (((s.val : Nat) : Int) - (iand (iushr ((s.val : Nat) : Int) 1) 1431655765)) 2) 858993459)) + (iushr ((iand (((s.val : Nat) : Int) - (iand (iushr ((s.val : Nat) : Int) 1) 1431655765)) 858993459) + (iand (iushr (((s.val : Nat) : Int) - (iand (iushr ((s.val : Nat) : Int) 1) 1431655765)) 2) 858993459)) 4)) 252645135) + (iushr (iand (((iand (((s.val : Nat) : Int) - (iand (iushr ((s.val : Nat) : Int) 1) 1431655765)) 858993459) + (iand (iushr (((s.val : Nat) : Int) - (iand (iushr ((s.val : Nat) : Int) 1) 1431655765)) 2) 858993459)) + (iushr ((iand (((s.val : Nat) : Int) - (iand (iushr ((s.val : Nat) : Int) 1) 1431655765)) 858993459) + (iand (iushr (((s.val : Nat) : Int) - (iand (iushr ((s.val : Nat) : Int) 1) 1431655765)) 2) 858993459)) 4)) 252645135) 8) < 2147483648) ∧ (-2147483648 ≤ ((iand (((iand (((s.val : Nat) : Int) - (iand (iushr ((s.val : Nat) : Int) 1) 1431655765)) 858993459) + (iand (iushr (((s.val : Nat) : Int) - (iand (iushr ((s.val : Nat) : Int) 1) 1431655765)) 2) 858993459)) + (iushr ((iand (((s.val : Nat) : Int) - (iand (iushr ((s.val : Nat) : Int) 1) 1431655765)) 858993459) + (iand (iushr (((s.val : Nat) : Int) - (iand (iushr ((s.val : Nat) : Int) 1) 1431655765)) 2) 858993459)) 4)) 252645135) + (iushr (iand (((iand (((s.val : Nat) : Int) - (iand (iushr ((s.val : Nat) : Int) 1) 1431655765)) 858993459) + (iand (iushr (((s.val : Nat) : Int) - (iand (iushr ((s.val : Nat) : Int) 1) 1431655765)) 2) 858993459)) + (iushr ((iand (((s.val : Nat) : Int) - (iand (iushr ((s.val : Nat) : Int) 1) 1431655765)) 858993459) + (iand (iushr (((s.val : Nat) : Int) - (iand (iushr ((s.val : Nat) : Int) 1) 1431655765)) 2) 858993459)) 4)) 252645135) 8)) + (iushr ((iand (((iand (((s.val : Nat) : Int) - (iand (iushr ((s.val : Nat) : Int) 1) 1431655765)) 858993459) + (iand (iushr (((s.val : Nat) : Int) - (iand (iushr ((s.val : Nat) : Int) 1) 1431655765)) 2) 858993459)) + (iushr ((iand (((s.val : Nat) : Int) - (iand (iushr ((s.val : Nat) : Int) 1) 1431655765)) 858993459) + (iand (iushr (((s.val : Nat) : Int) - (iand (iushr ((s.val : Nat) : Int) 1) 1431655765)) 2) 858993459)) 4)) 252645135) + (iushr (iand (((iand (((s.val : Nat) : Int) - (iand (iushr ((s.val : Nat) : Int) 1) 1431655765)) 858993459) + (iand (iushr (((s.val : Nat) : Int) - (iand (iushr ((s.val : Nat) : Int) 1) 1431655765)) 2) 858993459)) + (iushr ((iand (((s.val : Nat) : Int) - (iand (iushr ((s.val : Nat) : Int) 1) 1431655765)) 858993459) + (iand (iushr (((s.val : Nat) : Int) - (iand (iushr ((s.val : Nat) : Int) 1) 1431655765)) 2) 858993459)) 4)) 252645135) 8)) 16) ∧ ((iand (((iand (((s.val : Nat) : Int) - (iand (iushr ((s.val : Nat) : Int) 1) 1431655765)) 858993459) + (iand (iushr (((s.val : Nat) : Int) - (iand (iushr ((s.val : Nat) : Int) 1) 1431655765)) 2) 858993459)) + (iushr ((iand (((s.val : Nat) : Int) - (iand (iushr ((s.val : Nat) : Int) 1) 1431655765)) 858993459) + (iand (iushr (((s.val : Nat) : Int) - (iand (iushr ((s.val : Nat) : Int) 1) 1431655765)) 2) 858993459)) 4)) 252645135) + (iushr (iand (((iand (((s.val : Nat) : Int) - (iand (iushr ((s.val : Nat) : Int) 1) 1431655765)) 858993459) + (iand (iushr (((s.val : Nat) : Int) - (iand (iushr ((s.val : Nat) : Int) 1) 1431655765)) 2) 858993459)) + (iushr ((iand (((s.val : Nat) : Int) - (iand (iushr ((s.val : Nat) : Int) 1) 1431655765)) 858993459) + (iand (iushr (((s.val : Nat) : Int) - (iand (iushr ((s.val : Nat) : Int) 1) 1431655765)) 2) 858993459)) 4)) 252645135) 8)) + (iushr ((iand (((iand (((s.val : Nat) : Int) - (iand (iushr ((s.val : Nat) : Int) 1) 1431655765)) 858993459) + (iand (iushr (((s.val : Nat) : Int) - (iand (iushr ((s.val : Nat) : Int) 1) 1431655765)) 2) 858993459)) + (iushr ((iand (((s.val : Nat) : Int) - (iand (iushr ((s.val : Nat) : Int) 1) 1431655765)) 858993459) + (iand (iushr (((s.val : Nat) : Int) - (iand (iushr ((s.val : Nat) : Int) 1) 1431655765)) 2) 858993459)) 4)) 252645135) + (iushr (iand (((iand (((s.val : Nat) : Int) - (iand (iushr ((s.val : Nat) : Int) 1) 1431655765)) 858993459) + (iand (iushr (((s.val : Nat) : Int) - (iand (iushr ((s.val : Nat) : Int) 1) 1431655765)) 2) 858993459)) + (iushr ((iand (((s.val : Nat) : Int) - (iand (iushr ((s.val : Nat) : Int) 1) 1431655765)) 858993459) + (iand (iushr (((s.val : Nat) : Int) - (iand (iushr ((s.val : Nat) : Int) 1) 1431655765)) 2) 858993459)) 4)) 252645135) 8)) 16) < 2147483648))) ∧ (iand (((iand (((iand (((s.val : Nat) : Int) - (iand (iushr ((s.val : Nat) : Int) 1) 1431655765)) 858993459) + (iand (iushr (((s.val : Nat) : Int) - (iand (iushr ((s.val : Nat) : Int) 1) 1431655765)) 2) 858993459)) + (iushr ((iand (((s.val : Nat) : Int) - (iand (iushr ((s.val : Nat) : Int) 1) 1431655765)) 858993459) + (iand (iushr (((s.val : Nat) : Int) - (iand (iushr ((s.val : Nat) : Int) 1) 1431655765)) 2) 858993459)) 4)) 252645135) + (iushr (iand (((iand (((s.val : Nat) : Int) - (iand (iushr ((s.val : Nat) : Int) 1) 1431655765)) 858993459) + (iand (iushr (((s.val : Nat) : Int) - (iand (iushr ((s.val : Nat) : Int) 1) 1431655765)) 2) 858993459)) + (iushr ((iand (((s.val : Nat) : Int) - (iand (iushr ((s.val : Nat) : Int) 1) 1431655765)) 858993459) + (iand (iushr (((s.val : Nat) : Int) - (iand (iushr ((s.val : Nat) : Int) 1) 1431655765)) 2) 858993459)) 4)) 252645135) 8)) + (iushr ((iand (((iand (((s.val : Nat) : Int) - (iand (iushr ((s.val : Nat) : Int) 1) 1431655765)) 858993459) + (iand (iushr (((s.val : Nat) : Int) - (iand (iushr ((s.val : Nat) : Int) 1) 1431655765)) 2) 858993459)) + (iushr ((iand (((s.val : Nat) : Int) - (iand (iushr ((s.val : Nat) : Int) 1) 1431655765)) 858993459) + (iand (iushr (((s.val : Nat) : Int) - (iand (iushr ((s.val : Nat) : Int) 1) 1431655765)) 2) 858993459)) 4)) 252645135) + (iushr (iand (((iand (((s.val : Nat) : Int) - (iand (iushr ((s.val : Nat) : Int) 1) 1431655765)) 858993459) + (iand (iushr (((s.val : Nat) : Int) - (iand (iushr ((s.val : Nat) : Int) 1) 1431655765)) 2) 858993459)) + (iushr ((iand (((s.val : Nat) : Int) - (iand (iushr ((s.val : Nat) : Int) 1) 1431655765)) 858993459) + (iand (iushr (((s.val : Nat) : Int) - (iand (iushr ((s.val : Nat) : Int) 1) 1431655765)) 2) 858993459)) 4)) 252645135) 8)) 16)) 63) = cnt (bt ((s.val : Nat) : Int)) 10 := by decide +kernel
theorem c_bits {T : List Shp} {c : Cm} {s : Int} (hs : 0 ≤ s ∧ s < 1024) : ccal 341 [vI s] (SH T, c) = some (some (vI (cnt (bt s) 10)), (SH T, c)) := by
  obtain ⟨a, rfl⟩ := Int.eq_ofNat_of_zero_le hs.1
  have h := bc_all ⟨a, by omega⟩
  refine W_J6_bitCount_0f7a4 (Q := fun Z => Z = some (some (vI (cnt (bt (a : Int)) 10)), (SH T, c))) ⟨h.1, ?_⟩
  rw [← h.2]
def wys (F : List Clz) (R : Int → Int) (n : Int) : Int := foldI (fun x v => v * cnt (bt (was F R x)) 10) 1 n
theorem was_b10 {F : List Clz} {R : Int → Int} {x : Int} : 0 ≤ was F R x ∧ was F R x < 1024 := by
  have := (sto_spec (p := fun t => decide (fwd F R x 0 t (R 4) = R (12 + 12 * R 4 + x))) (n := 10) (by omega)).1
  exact this
theorem p10_bd {n : Nat} (h : n ≤ 12) : (10 : Int) ^ n ≤ 1000000000000 := by
  have : n = 0 ∨ n = 1 ∨ n = 2 ∨ n = 3 ∨ n = 4 ∨ n = 5 ∨ n = 6 ∨ n = 7 ∨ n = 8 ∨ n = 9 ∨ n = 10 ∨ n = 11 ∨ n = 12 := by omega
  rcases this with h | h | h | h | h | h | h | h | h | h | h | h | h <;> subst h <;> decide
theorem wys_bd {F : List Clz} {R : Int → Int} : ∀ n : Nat, 0 ≤ wys F R n ∧ wys F R n ≤ 10 ^ n := by
  intro n
  induction n with
  | zero => exact ⟨show (0 : Int) ≤ 1 by decide, show (1 : Int) ≤ 10 ^ 0 by decide⟩
  | succ n ih =>
    have c := cnt_bd (p := bt (was F R n)) (n := 10) (by omega)
    have e : wys F R ((n + 1 : Nat) : Int) = wys F R n * cnt (bt (was F R n)) 10 := by
      rw [show ((n + 1 : Nat) : Int) = (n : Int) + 1 from by omega]
      exact foldI_succ (by omega)
    rw [e, Int.pow_succ]
    exact ⟨Int.mul_nonneg ih.1 c.1, Int.mul_le_mul ih.2 c.2 c.1 (Int.le_trans ih.1 ih.2)⟩
theorem wys_b {F : List Clz} {R : Int → Int} {n : Int} (h0 : 0 ≤ n) (h : n ≤ 12) : 0 ≤ wys F R n ∧ wys F R n ≤ 1000000000000 := by
  obtain ⟨m, rfl⟩ := Int.eq_ofNat_of_zero_le h0
  have a := wys_bd (F := F) (R := R) m
  have b := p10_bd (n := m) (by omega)
  exact ⟨a.1, Int.le_trans a.2 b⟩
theorem c_ways {T : List Shp} {c : Cm} {R : Int → Int} {F : List Clz} (h : CWd T c R F) : QL T (fun r c' => r = wys F R 12 ∧ Off [14, 15, 16, 17] [] c c') (ccal 156 [vR 1] (SH T, c)) := by
  refine W_X11_ways (Q := QL T _) ?_
  refine lpI (E := fun x (s : Int × Cm) => cev 156 6 4 [vR 1, vL s.1, vU, vI x] [] (SH T, s.2)) (fun x s => (0 ≤ x ∧ x ≤ 12) ∧ Off [14, 15, 16, 17] [] c s.2 ∧ s.1 = wys F R x) 12 ?_ ?_ 0 (1, c) ⟨by omega, Off.rfl, rfl⟩
  · intro x s hx hI ih
    obtain ⟨x0, o, e⟩ := hI
    have es : wys F R (x + 1) = s.1 * cnt (bt (was F R x)) 10 := by rw [e]; exact foldI_succ x0.1
    have b := wys_b (F := F) (R := R) (n := x + 1) (by omega) (by omega)
    rw [es] at b
    refine W_X11_ways_4 ⟨fun _ => (c_firstTones (h.off o rfl) (by omega)).mono fun r c2 h2 => ?_, fun z => absurd hx z⟩
    rw [h2.1]
    refine QI.of_eq (c_bits was_b10) ⟨by omega, ih (s.1 * cnt (bt (was F R x)) 10, c2) ⟨by omega, o.trans h2.2, es.symm⟩⟩
  · intro x s hx hI
    obtain ⟨x0, o, e⟩ := hI
    have : x = 12 := by omega
    subst this
    exact W_X11_ways_4 ⟨fun z => absurd z (by decide), fun _ => QL.ret ⟨e, o⟩⟩
theorem r_ways {T : List Shp} {c : Cm} {F : List Clz} (h : RWd c F) : QL T (fun r c' => r = wys F (c 79) 12 ∧ Off [92, 94, 95] [0, 30, 34, 35, 36] c c') (ccal 310 [vR 78] (SH T, c)) := by
  have o0 : Off [92, 94, 95] [0, 30, 34, 35, 36] c (up c 77 0 0) := Off.rfl.wr rfl
  have hw := h.off o0 rfl
  have er : (up c 77 0 0) 79 = c 79 := o0.row rfl
  refine W_X12_ways (Q := QL T _) ((r_layAll hw).mono fun c2 h2 => ?_)
  have o2 := o0.trans (h2.2.mono (L' := [92, 94, 95]) (F' := [0, 30, 34, 35, 36]) rfl rfl)
  have er2 : c2 79 = c 79 := o2.row rfl
  rw [er] at h2
  refine lpI (E := fun x (v : Int) => cev 310 9 13 [vR 78, vL v, vU, vI x, vU, vU, vU] [] (SH T, c2)) (fun x v => (0 ≤ x ∧ x ≤ 12) ∧ v = wys F (c 79) x) 12 ?_ ?_ 0 1 ⟨by omega, rfl⟩
  · intro x v hx hI ih
    obtain ⟨x0, e⟩ := hI
    have es : wys F (c 79) (x + 1) = v * cnt (bt (was F (c 79) x)) 10 := by rw [e]; exact foldI_succ x0.1
    have b := wys_b (F := F) (R := c 79) (n := x + 1) (by omega) (by omega)
    rw [es] at b
    refine W_X12_ways_13 ⟨fun _ => QI.of_eq (r_wasOf (h.off o2 rfl) (by omega) (by rw [er2]; exact h2.1)) ?_, fun z => absurd hx z⟩
    rw [er2]
    have wb := was_b10 (F := F) (R := c 79) (x := x)
    refine lpI (E := fun t (k : Int) => cev 310 9 32 [vR 78, vL v, vU, vI x, vI (was F (c 79) x), vI k, vI t] [] (SH T, c2)) (fun t k => (0 ≤ t ∧ t ≤ 10) ∧ (0 ≤ k ∧ k ≤ t) ∧ k = cnt (bt (was F (c 79) x)) t) 10 ?_ ?_ 0 0 ⟨by omega, by omega, rfl⟩
    · intro t k ht hK ih2
      obtain ⟨t0, kb, ek⟩ := hK
      have bv := bt_val (s := was F (c 79) x) (k := t) (by omega) (by omega) t0.1 (by omega)
      have cs := cnt_succ (p := bt (was F (c 79) x)) (n := t) t0.1
      refine W_X12_ways_32 ⟨fun _ => ?_, fun z => absurd ht z⟩
      rw [bv]
      have b01b : 0 ≤ b01 (bt (was F (c 79) x) t = true) ∧ b01 (bt (was F (c 79) x) t = true) ≤ 1 := by
        rcases b01_or (p := bt (was F (c 79) x) t = true) with q | q <;> omega
      refine ⟨by omega, ih2 _ ⟨by omega, by omega, ?_⟩⟩
      rw [cs, ← ek]
      by_cases q : bt (was F (c 79) x) t = true
      · rw [if_pos q, b01_t q]
      · rw [if_neg q, b01_f q]; omega
    · intro t k ht hK
      obtain ⟨t0, kb, ek⟩ := hK
      have : t = 10 := by omega
      subst this
      refine W_X12_ways_32 ⟨fun z => absurd z (by decide), fun _ => ?_⟩
      rw [ek]
      exact ⟨by omega, ih _ ⟨by omega, es.symm⟩⟩
  · intro x v hx hI
    obtain ⟨x0, e⟩ := hI
    have : x = 12 := by omega
    subst this
    exact W_X12_ways_13 ⟨fun z => absurd z (by decide), fun _ => QL.ret ⟨e, o2⟩⟩

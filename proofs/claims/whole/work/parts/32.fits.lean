/-! TREES: digits; the class's first row of parents -/
theorem dg_val {v a : Nat} : dgN v a = v / 8 ^ a % 8 := by
  show (v >>> (3 * a)) % 8 = _
  rw [Nat.shiftRight_eq_div_pow, Nat.pow_mul]
theorem nx_val {v q k : Nat} : nxN v q k = v + q * 8 ^ k := by
  show v + q <<< (3 * k) = _
  rw [Nat.shiftLeft_eq, Nat.pow_mul]
theorem dg_lt {v a : Nat} : dgN v a < 8 := by rw [dg_val]; exact Nat.mod_lt _ (by decide)
theorem dg_low {v q k a : Nat} (h : a < k) : dgN (nxN v q k) a = dgN v a := by
  rw [dg_val, dg_val, nx_val]
  have e : 8 ^ k = 8 ^ a * (8 * 8 ^ (k - a - 1)) := by
    rw [← Nat.mul_assoc, ← Nat.pow_succ, ← Nat.pow_add]
    congr 1
    omega
  have p : 0 < 8 ^ a := Nat.pow_pos (by decide)
  rw [e, show q * (8 ^ a * (8 * 8 ^ (k - a - 1))) = 8 ^ a * (8 * (q * 8 ^ (k - a - 1))) from by rw [Nat.mul_left_comm, Nat.mul_left_comm q], Nat.add_mul_div_left _ _ p, Nat.add_mul_mod_self_left]
theorem dg_here {v q k : Nat} (h : v < 8 ^ k) (hq : q < 8) : dgN (nxN v q k) k = q := by
  have p : 0 < 8 ^ k := Nat.pow_pos (by decide)
  rw [dg_val, nx_val, Nat.add_mul_div_right _ _ p, Nat.div_eq_of_lt h, Nat.zero_add, Nat.mod_eq_of_lt hq]
theorem nx_lt {v q k : Nat} (h : v < 8 ^ k) (hq : q < 8) : nxN v q k < 8 ^ (k + 1) := by
  rw [nx_val, Nat.pow_succ]
  have : q * 8 ^ k ≤ 7 * 8 ^ k := Nat.mul_le_mul_right _ (by omega)
  omega
theorem dfS_mem {n : Nat} (hn : n ≤ 6) : ∀ f k v u, 1 ≤ k → v < 8 ^ k → u ∈ dfS n f k v → u < 8 ^ (k + f) ∧ (∀ a, a < k → dgN u a = dgN v a) ∧ ∀ a, k ≤ a → a < k + f → dgN u a ≤ n ∧ dgN u a ≠ a := by
  intro f
  induction f with
  | zero =>
    intro k v u hk hv hu
    rw [List.mem_singleton.mp hu]
    exact ⟨hv, fun _ _ => rfl, fun a b c => by omega⟩
  | succ f ih =>
    intro k v u hk hv hu
    obtain ⟨q, hq, h2⟩ := List.mem_flatMap.mp (show u ∈ (List.range (n + 1)).flatMap _ from hu)
    have q7 := List.mem_range.mp hq
    cases e : cfN v k 7 q with
    | true => rw [e] at h2; exact absurd h2 (by simp)
    | false =>
      rw [e] at h2
      have i := ih (k + 1) (nxN v q k) u (by omega) (nx_lt hv (by omega)) h2
      have ek : dgN u k = q := (i.2.1 k (by omega)).trans (dg_here hv (by omega))
      refine ⟨by rw [show k + (f + 1) = k + 1 + f from by omega]; exact i.1, fun a b => (i.2.1 a (by omega)).trans (dg_low b), fun a b c => ?_⟩
      by_cases ea : a = k
      · rw [ea, ek]
        refine ⟨by omega, fun z => ?_⟩
        rw [z] at e
        have : cfN v k 7 k = true := by
          show (bif Nat.beq k 0 then false else bif Nat.beq k k then true else _) = true
          rw [beq_f (show k ≠ 0 by omega), Nat.beq_refl]
          rfl
        rw [this] at e
        exact absurd e (by decide)
      · exact i.2.2 a (by omega) (by omega)
/-- what is changed from node 1 to node k -/
def csN (R : Int → Int) (u : Nat) : Nat → Int
  | 0 => 0
  | k + 1 => csN R u k + lik R ((dgN u (k + 1) : Nat) : Int) ((k + 1 : Nat) : Int)
theorem cs_bd {R : Int → Int} {u : Nat} : ∀ k, 0 ≤ csN R u k ∧ csN R u k ≤ 12 * (k : Int) := by
  intro k
  induction k with
  | zero => exact ⟨Int.le_refl 0, Int.le_refl 0⟩
  | succ k ih =>
    have := lik_bd (R := R) (a := ((dgN u (k + 1) : Nat) : Int)) (b := ((k + 1 : Nat) : Int))
    show 0 ≤ csN R u k + lik R ((dgN u (k + 1) : Nat) : Int) ((k + 1 : Nat) : Int) ∧ csN R u k + lik R ((dgN u (k + 1) : Nat) : Int) ((k + 1 : Nat) : Int) ≤ 12 * ((k + 1 : Nat) : Int)
    omega
theorem cs_cg {R : Int → Int} {u v : Nat} : ∀ k, (∀ a, 1 ≤ a → a ≤ k → dgN u a = dgN v a) → csN R u k = csN R v k := by
  intro k
  induction k with
  | zero => intro _; rfl
  | succ k ih =>
    intro h
    show csN R u k + lik R ((dgN u (k + 1) : Nat) : Int) _ = csN R v k + lik R ((dgN v (k + 1) : Nat) : Int) _
    rw [ih fun a b c => h a b (by omega), h (k + 1) (by omega) (by omega)]
theorem cod_wt {R : Int → Int} {u : Nat} : ∀ k, k ≤ 6 → (∀ a, 1 ≤ a → a ≤ k → dgN u a ≤ 6) → wt R (codN u k) = csN R u k ∧ dsN (codN u k) = (k : Int) := by
  intro k
  induction k with
  | zero => intro _ _; exact ⟨wt_zero _ _, wt_zero _ _⟩
  | succ k ih =>
    intro hk h
    have i := ih (by omega) fun a b c => h a b (by omega)
    have d := h (k + 1) (by omega) (by omega)
    have e1 := ds_edg (a := dgN u (k + 1)) (b := k + 1) (by omega) (by omega)
    have e2 := wt_edg (R := R) (a := dgN u (k + 1)) (b := k + 1) (by omega) (by omega)
    show wt R (codN u k + edgN (dgN u (k + 1)) (k + 1)) = csN R u k + lik R _ _ ∧ dsN (codN u k + edgN (dgN u (k + 1)) (k + 1)) = ((k + 1 : Nat) : Int)
    rw [wt_plus (by omega), ds_plus (by omega), i.1, i.2, e1, e2]
    exact ⟨rfl, by omega⟩
theorem TC_cs {R : Int → Int} {n : Nat} (hn : n ≤ 6) : TCs R n = (dfS n n 1 0).map fun v => csN R v n := by
  unfold TCs
  refine List.map_congr_left fun u hu => ?_
  have m := dfS_mem hn n 1 0 u (by decide) (by decide) hu
  exact (cod_wt n hn fun a b c => by have := m.2.2 a b (by omega); omega).1
/-- the parents given so far lie in cell 53 -/
def PSt (c : Cm) (v k : Nat) : Prop := c 53 0 = -1 ∧ (∀ j : Nat, 1 ≤ j → j < k → c 53 (j : Int) = ((dgN v j : Nat) : Int)) ∧ ∀ j : Nat, k ≤ j → j < 7 → c 53 (j : Int) = -1
theorem c_comesFrom {T : List Shp} {c : Cm} {v k q : Nat} (h : PSt c v k) (hk : 1 ≤ k ∧ k ≤ 6) (hd : ∀ j, 1 ≤ j → j < k → dgN v j ≤ 6) (hq : q ≤ 6) : ccal 93 [vR 50, vI (q : Int), vI (k : Int)] (SH T, c) = some (some (vI (b01 (cfN v k 7 q = true))), (SH T, c)) := by
  refine W_X8_comesFrom (Q := fun Z => Z = some (some (vI (b01 (cfN v k 7 q = true))), (SH T, c))) ?_
  refine lpI (Q := fun Z => Z = some (some (vI (b01 (cfN v k 7 q = true))), (SH T, c))) (E := fun i (a : Int) => cev 93 1 5 [vR 50, vU, vI (k : Int), vI a, vI i] [] (SH T, c)) (fun i a => (0 ≤ i ∧ i ≤ 7) ∧ ((∃ m : Nat, a = (m : Int) ∧ m ≤ 6 ∧ cfN v k (7 - i.toNat) m = cfN v k 7 q) ∨ (a = -1 ∧ cfN v k 7 q = false))) 7 ?_ ?_ 0 (q : Int) ⟨by omega, .inl ⟨q, rfl, hq, rfl⟩⟩
  · intro i a hi hI ih
    obtain ⟨hi0, hI⟩ := hI
    refine W_X8_comesFrom_5 (Q := fun Z => Z = some (some (vI (b01 (cfN v k 7 q = true))), (SH T, c))) ⟨fun _ => ?_, fun z => absurd hi z⟩
    rcases hI with ⟨m, rfl, hm, e⟩ | ⟨rfl, e⟩
    · have es : cfN v k (7 - i.toNat) m = bif Nat.beq m 0 then false else bif Nat.beq m k then true else bif Nat.ble k m then false else cfN v k (7 - (i + 1).toNat) (dgN v m) := by
        rw [show 7 - i.toNat = (7 - (i + 1).toNat) + 1 from by omega]
        rfl
      refine ⟨fun h0 => ⟨fun h7 => ⟨fun ek => ?_, fun ek => ⟨by omega, ih _ ⟨by omega, ?_⟩⟩⟩, fun h7 => absurd (show (m : Int) < 7 by omega) h7⟩, fun h0 => ?_⟩
      · have : m = k := by omega
        have : cfN v k 7 q = true := by
          rw [← e, es, this, beq_f (show k ≠ 0 by omega), Nat.beq_refl]
          rfl
        rw [this, b01_t rfl]
      · by_cases hmk : m < k
        · refine .inl ⟨dgN v m, h.2.1 m (by omega) hmk, hd m (by omega) hmk, ?_⟩
          rw [← e, es, beq_f (show m ≠ 0 by omega), beq_f (show m ≠ k by omega)]
          have : Nat.ble k m = false := by
            cases z : Nat.ble k m with
            | false => rfl
            | true => exact absurd (Nat.le_of_ble_eq_true z) (by omega)
          rw [this]
          rfl
        · refine .inr ⟨h.2.2 m (by omega) (by omega), ?_⟩
          rw [← e, es, beq_f (show m ≠ 0 by omega), beq_f (show m ≠ k by omega), Nat.ble_eq_true_of_le (show k ≤ m by omega)]
          rfl
      · have : m = 0 := by omega
        have : cfN v k 7 q = false := by
          rw [← e, es, this]
          rfl
        rw [this, b01_f (by decide)]
    · rw [e]
      refine ⟨fun h0 => absurd h0 (by omega), fun _ => ?_⟩
      rw [b01_f (by decide)]
  · intro i a hi hI
    obtain ⟨hi0, hI⟩ := hI
    have e7 : i = 7 := by omega
    subst e7
    have ef : cfN v k 7 q = false := by
      rcases hI with ⟨m, _, _, e⟩ | ⟨_, e⟩
      · rw [← e]; rfl
      · exact e
    rw [ef]
    refine W_X8_comesFrom_5 (Q := fun Z => Z = some (some (vI (b01 (false = true))), (SH T, c))) ⟨fun z => absurd z (by omega), fun _ => ?_⟩
    rw [b01_f (by decide)]
theorem c_leastFrom {T : List Shp} {c : Cm} {R : Int → Int} {n k : Nat} (hn : n ≤ 6) (hm : SMt c R (n + 1)) (hk : 1 ≤ k ∧ k ≤ n) : QI T (fun r c' => c' = c ∧ (0 ≤ r ∧ r ≤ 84) ∧ ∀ u, (∀ j, k ≤ j → j ≤ n → dgN u j ≤ n ∧ dgN u j ≠ j) → csN R u (k - 1) + r ≤ csN R u n) (ccal 92 [vR 50, vI (k : Int)] (SH T, c)) := by
  refine W_X8_leastFrom (Q := QI T _) ?_
  refine lpI (E := fun i (r : Int) => cev 92 1 4 [vR 50, vU, vI r, vI i, vU, vU] [] (SH T, c)) (fun i r => ((k : Int) ≤ i ∧ i ≤ ((n + 1 : Nat) : Int)) ∧ (0 ≤ r ∧ r ≤ 12 * (i - k)) ∧ ∀ u, (∀ j, k ≤ j → j ≤ n → dgN u j ≤ n ∧ dgN u j ≠ j) → csN R u (k - 1) + r ≤ csN R u (i.toNat - 1)) ((n + 1 : Nat) : Int) ?_ ?_ (k : Int) 0 ⟨by omega, by omega, fun u _ => by rw [Int.toNat_natCast, Int.add_zero]; exact Int.le_refl _⟩
  · intro i r hi hI ih
    obtain ⟨hi0, hr, hu⟩ := hI
    obtain ⟨x, rfl⟩ := Int.eq_ofNat_of_zero_le (show 0 ≤ i by omega)
    refine W_X8_leastFrom_4 ?_
    rw [hm.1]
    refine ⟨fun _ => ?_, fun z => absurd hi z⟩
    refine lpI (E := fun y (m : Int) => cev 92 1 19 [vR 50, vU, vI r, vI (x : Int), vI m, vI y] [] (SH T, c)) (fun y m => (0 ≤ y ∧ y ≤ ((n + 1 : Nat) : Int)) ∧ (0 ≤ m ∧ m ≤ 12) ∧ ∀ o : Nat, (o : Int) < y → o ≠ x → m ≤ lik R x o) ((n + 1 : Nat) : Int) ?_ ?_ 0 12 ⟨by omega, by omega, fun o a => by omega⟩
    · intro y m hi2 hI2 ih2
      obtain ⟨hy, hmm, ho⟩ := hI2
      obtain ⟨y, rfl⟩ := Int.eq_ofNat_of_zero_le hy.1
      refine W_X8_leastFrom_19 ?_
      rw [hm.1, show (x : Int) * 7 + (y : Int) = 7 * (x : Int) + (y : Int) from by omega, hm.2 x y (by omega) (by omega)]
      have lb := lik_bd (R := R) (a := (x : Int)) (b := (y : Int))
      refine ⟨fun _ => ⟨fun e => ⟨by omega, ih2 _ ⟨by omega, hmm, fun o a b => ho o (by omega) b⟩⟩, fun e => ⟨by omega, ih2 _ ⟨by omega, ?_, fun o a b => ?_⟩⟩⟩, fun z => absurd hi2 z⟩
      · split <;> omega
      · by_cases eo : o = y
        · rw [eo]; split <;> omega
        · have := ho o (by omega) b
          split <;> omega
    · intro y m hi2 hI2
      obtain ⟨hy, hmm, ho⟩ := hI2
      refine W_X8_leastFrom_19 ?_
      rw [hm.1]
      refine ⟨fun z => absurd z (by omega), fun _ => ⟨by omega, ih _ ⟨by omega, by omega, fun u hh => ?_⟩⟩⟩
      have a := hu u hh
      have b := hh x (by omega) (by omega)
      have d := ho (dgN u x) (by omega) b.2
      rw [Int.toNat_natCast] at a
      obtain ⟨w, ew⟩ : ∃ w, x = w + 1 := ⟨x - 1, by omega⟩
      rw [show ((x : Int) + 1).toNat - 1 = w + 1 from by omega]
      show _ ≤ csN R u w + lik R ((dgN u (w + 1) : Nat) : Int) ((w + 1 : Nat) : Int)
      rw [show x - 1 = w from by omega] at a
      rw [← ew, lik_sym]
      omega
  · intro i r hi hI
    obtain ⟨hi0, hr, hu⟩ := hI
    have e : i = ((n + 1 : Nat) : Int) := by omega
    subst e
    refine W_X8_leastFrom_4 ?_
    rw [hm.1]
    refine ⟨fun z => absurd z (by omega), fun _ => QI.ret ⟨rfl, by omega, fun u hh => ?_⟩⟩
    have := hu u hh
    rw [Int.toNat_natCast] at this
    exact this

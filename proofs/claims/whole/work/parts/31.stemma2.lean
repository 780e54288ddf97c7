/-! THE CLASS weighs all sets: each in turn -/
theorem dpz_n {N M s z : Nat} (hN : N ≤ 7) (eN : N = M + 1) (hs : s < 2 ^ N) (h1 : 1 ≤ s) (hr : rsN s ≠ 0) (hz : Nat.land z (otN s) = z) : dpz N M s z = (List.range N).flatMap (dpx N s (dpS N N (brN s z)) (dpS N N (Nat.xor s (brN s z))) (brN s z)) := by
  have p7 : 2 ^ N ≤ 2 ^ 7 := p2le hN
  have bf := br_facts (by omega) hr hz
  have ps := pc_n hN hs
  unfold dpz
  rw [show Nat.beq (Nat.land z (otN s)) z = true from by rw [hz]; exact Nat.beq_refl z]
  show (List.range N).flatMap (dpx N s (dpS N M (brN s z)) (dpS N M (Nat.xor s (brN s z))) (brN s z)) = _
  rw [dpS_fuel M N (brN s z) (by omega) bf.1.1 (by omega) (by omega), dpS_fuel M N (Nat.xor s (brN s z)) (by omega) bf.2.1.1 (by omega) (by omega)]
theorem c_weighSet {T : List Shp} {c : Cm} {R : Int → Int} {N s : Nat} (hN : N ≤ 7) (hm : SMt c R N) (hs : s < 2 ^ N) (h1 : 1 ≤ s) (hb : ∀ s', 1 ≤ s' → s' < s → SMs c R N s') : QV T (fun c' => SMs c' R N s ∧ Off [51, 52] [] c c' ∧ ∀ j : Int, j ≠ s → c' 51 j = c 51 j ∧ c' 52 j = c 52 j) (ccal 89 [vR 50, vI (s : Int)] (SH T, c)) := by
  have p7 : 2 ^ N ≤ 2 ^ 7 := p2le hN
  have e1 : iand (s : Int) ((s : Int) - 1) = ((rsN s : Nat) : Int) := by
    rw [show (s : Int) - 1 = ((s - 1 : Nat) : Int) from by omega]
    exact iand_nat (by omega) (by omega)
  have lr : rsN s ≤ s := Nat.and_le_left
  have lo : otN s ≤ rsN s := Nat.and_le_left
  have e2 : iand ((rsN s : Nat) : Int) (-((rsN s : Nat) : Int)) = ((scN s : Nat) : Int) := neg_all ⟨rsN s, by omega⟩
  have ls : scN s < 2147483648 := Nat.xor_lt_two_pow (n := 31) (x := rsN s) (y := otN s) (by omega) (by omega)
  have e3 : ixor ((rsN s : Nat) : Int) ((scN s : Nat) : Int) = ((otN s : Nat) : Int) := by
    rw [ixor_nat (by omega) ls]
    show ((rsN s ^^^ (rsN s ^^^ otN s) : Nat) : Int) = _
    rw [← Nat.xor_assoc, Nat.xor_self, Nat.zero_xor]
  refine W_X8_weighSet (Q := QV T _) ?_
  rw [e1, e2, e3]
  refine ⟨by omega, fun e => ⟨by omega, QV.ret ⟨?_, (Off.rfl.wr rfl).wr rfl, fun j hj => ⟨?_, ?_⟩⟩⟩, fun e => ⟨by omega, ?_⟩⟩
  · have hr : rsN s = 0 := by omega
    unfold SMs
    rw [dpS_one hr, up_same, up_cell (by decide), up_same]
    refine .inr ⟨List.mem_singleton.mpr ?_, fun x hx => ?_, ?_⟩
    · show (0 : Int) = wt R 0
      exact (wt_zero _ _).symm
    · have : x = wt R 0 := List.mem_singleton.mp hx
      rw [this]
      show (0 : Int) ≤ wt R 0
      rw [show wt R 0 = 0 from wt_zero _ _]
      exact Int.le_refl 0
    · show (1 : Int) = (([wt R 0].count (0 : Int) : Nat) : Int)
      rw [show wt R 0 = 0 from wt_zero _ _]
      rfl
  · rw [up_cell (by decide), up_ne hj]
  · rw [up_ne hj, up_cell (by decide)]
  · have hr : rsN s ≠ 0 := by omega
    obtain ⟨M, eN⟩ : ∃ M, N = M + 1 := by
      cases N with
      | zero => have : s < 1 := hs; omega
      | succ M => exact ⟨M, rfl⟩
    have et : dpS N N s = (List.range (otN s + 1)).flatMap (dpz N M s) := by
      rw [show dpS N N s = dpS N (M + 1) s from by rw [← eN]]
      exact dpS_more hr
    have len := dp_len hN hs h1
    have w0 : up (up c 51 (s : Int) 84) 52 (s : Int) 0 51 (s : Int) = 84 := by rw [up_cell (by decide), up_same]
    refine lpI (E := fun z (c' : Cm) => cev 89 3 53 [vR 50, vI (s : Int), vU, vI ((scN s : Nat) : Int), vI ((otN s : Nat) : Int), vI z] [] (SH T, c')) (fun z c' => (0 ≤ z ∧ z ≤ ((otN s + 1 : Nat) : Int)) ∧ (IsMC (((List.range z.toNat).flatMap (dpz N M s)).map (wt R)) (c' 51 (s : Int), c' 52 (s : Int)) ∧ 0 ≤ c' 51 (s : Int) ∧ c' 51 (s : Int) ≤ 84) ∧ Off [51, 52] [] c c' ∧ ∀ j : Int, j ≠ s → c' 51 j = c 51 j ∧ c' 52 j = c 52 j) ((otN s + 1 : Nat) : Int) ?_ ?_ 0 _ ⟨by omega, ⟨.inl ⟨rfl, ?_⟩, by rw [w0]; omega⟩, (Off.rfl.wr rfl).wr rfl, fun j hj => ⟨?_, ?_⟩⟩
    · intro z c' hi hI ih
      obtain ⟨hz0, ⟨hM, hcb⟩, o, hj⟩ := hI
      obtain ⟨k, rfl⟩ := Int.eq_ofNat_of_zero_le hz0.1
      rw [Int.toNat_natCast] at hM
      have nxy : (List.range ((k : Int) + 1).toNat).flatMap (dpz N M s) = (List.range k).flatMap (dpz N M s) ++ dpz N M s k := by
        rw [show ((k : Int) + 1).toNat = k + 1 from by omega, List.range_succ, List.flatMap_append]
        congr 1
        show dpz N M s k ++ [] = _
        rw [List.append_nil]
      have ea : iand (k : Int) ((otN s : Nat) : Int) = ((Nat.land k (otN s) : Nat) : Int) := iand_nat (by omega) (by omega)
      have eo : ior (k : Int) ((scN s : Nat) : Int) = ((brN s k : Nat) : Int) := ior_nat (by omega) ls
      refine W_X8_weighSet_53 ⟨fun q => absurd q (by omega), fun _ => ?_⟩
      rw [ea, eo]
      refine ⟨fun q => ?_, fun q => ⟨by omega, ih c' ⟨by omega, ⟨?_, hcb⟩, o, hj⟩⟩⟩
      · have hz : Nat.land k (otN s) = k := by omega
        have bf := br_facts (s := s) (by omega) hr hz
        have ez := dpz_n hN eN hs h1 hr hz
        have hm' : SMt c' R N := by
          unfold SMt
          rw [o.cell (q := 49) rfl, o.cell (q := 50) rfl]
          exact hm
        have hb' : ∀ s', 1 ≤ s' → s' < s → SMs c' R N s' := fun s' a b => by
          have := hb s' a b
          have j2 := hj (s' : Int) (by omega)
          unfold SMs at this ⊢
          rw [j2.1, j2.2]
          exact this
        refine (c_joinBranch hN hm' hs bf.1 bf.2.1 bf.2.2.1 (hb' _ bf.1.1 bf.1.2) (hb' _ bf.2.1.1 bf.2.1.2) hM ?_ hcb).mono fun c2 h2 => ⟨by omega, ih c2 ⟨by omega, ⟨?_, h2.1.2⟩, o.trans h2.2.1, fun j hjs => ?_⟩⟩
        · rw [← ez, ← List.map_append, ← nxy, List.length_map]
          have := flat_pre (f := dpz N M s) (k := ((k : Int) + 1).toNat) (m := otN s + 1) (by omega)
          rw [← et] at this
          omega
        · rw [nxy, ez, List.map_append]
          exact h2.1.1
        · have a := h2.2.2 j hjs
          have b := hj j hjs
          omega
      · have ez : dpz N M s k = [] := by
          unfold dpz
          rw [beq_f (show Nat.land k (otN s) ≠ k by omega)]
          rfl
        rw [nxy, ez, List.append_nil]
        exact hM
    · intro z c' hi hI
      obtain ⟨hz0, ⟨hM, hcb⟩, o, hj⟩ := hI
      have : z = ((otN s + 1 : Nat) : Int) := by omega
      subst this
      rw [Int.toNat_natCast, ← et] at hM
      exact W_X8_weighSet_53 ⟨fun _ => QV.ret ⟨hM, o, hj⟩, fun q => absurd (show ((otN s : Nat) : Int) < ((otN s + 1 : Nat) : Int) by omega) q⟩
    · rw [w0, up_same]
    · rw [up_cell (by decide), up_ne hj]
    · rw [up_ne hj, up_cell (by decide)]
theorem c_weigh {T : List Shp} {c : Cm} {R : Int → Int} {n : Nat} (h : CS c R) (hR : RNG R) (hn : R 5 = n) : QV T (fun c' => SMt c' R (n + 1) ∧ (∀ s, 1 ≤ s → s < 2 ^ (n + 1) → SMs c' R (n + 1) s) ∧ Off [49, 50, 51, 52] [] c c') (ccal 79 [vR 50] (SH T, c)) := by
  have h1 := hR.1
  have e11 := h.1.2.2.2.2.2.1
  have n6 : n ≤ 6 := by omega
  have sp := shl_pow (n := ((n + 1 : Nat) : Int)) (by omega) (by omega)
  have p7 : 2 ^ (n + 1) ≤ 2 ^ 7 := p2le (by omega)
  have p1 : 2 ^ 0 ≤ 2 ^ (n + 1) := p2le (by omega)
  rw [Int.toNat_natCast] at sp
  refine W_X8_weigh (Q := QV T _) ?_
  rw [e11, hn, show (n : Int) + 1 = ((n + 1 : Nat) : Int) from by omega]
  refine ⟨by omega, ?_⟩
  refine lpI (E := fun a (c' : Cm) => cev 79 4 15 [vR 50, vI a, vU] [] (SH T, c')) (fun a c' => (0 ≤ a ∧ a ≤ ((n + 1 : Nat) : Int)) ∧ c' 49 1 = ((n + 1 : Nat) : Int) ∧ Off [49, 50, 51, 52] [] c c' ∧ ∀ x y : Nat, (x : Int) < a → y < n + 1 → c' 50 (7 * (x : Int) + (y : Int)) = lik R x y) ((n + 1 : Nat) : Int) ?_ ?_ 0 _ ⟨by omega, up_same, Off.rfl.wr rfl, fun x y a b => by omega⟩
  · intro a c' hi hI ih
    obtain ⟨ha, e49, o, hw⟩ := hI
    obtain ⟨x, rfl⟩ := Int.eq_ofNat_of_zero_le ha.1
    refine W_X8_weigh_15 ⟨fun _ => ?_, fun q => absurd (by rw [e49]; exact hi) q⟩
    refine lpI (E := fun b (c' : Cm) => cev 79 4 25 [vR 50, vI (x : Int), vI b] [] (SH T, c')) (fun b c' => (0 ≤ b ∧ b ≤ ((n + 1 : Nat) : Int)) ∧ c' 49 1 = ((n + 1 : Nat) : Int) ∧ Off [49, 50, 51, 52] [] c c' ∧ (∀ u y : Nat, u < x → y < n + 1 → c' 50 (7 * (u : Int) + (y : Int)) = lik R u y) ∧ ∀ y : Nat, (y : Int) < b → c' 50 (7 * (x : Int) + (y : Int)) = lik R x y) ((n + 1 : Nat) : Int) ?_ ?_ 0 c' ⟨by omega, e49, o, fun u y p q => hw u y (by omega) q, fun y p => by omega⟩
    · intro b c1 hi2 hI2 ih2
      obtain ⟨hb, f49, o1, hw1, hw2⟩ := hI2
      obtain ⟨y, rfl⟩ := Int.eq_ofNat_of_zero_le hb.1
      refine W_X8_weigh_25 ⟨fun _ => ⟨by omega, QI.of_eq (c_between (h.off o1 rfl) (by omega) (by omega)) ⟨by omega, ih2 _ ⟨by omega, ?_, o1.wr rfl, fun u v p q => ?_, fun v p => ?_⟩⟩⟩, fun q => absurd (by rw [f49]; exact hi2) q⟩
      · rw [up_cell (by decide)]; exact f49
      · rw [up_ne (by omega)]; exact hw1 u v p q
      · rw [up_at]
        by_cases e : v = y
        · rw [e, if_pos (by omega)]
        · rw [if_neg (by omega)]; exact hw2 v (by omega)
    · intro b c1 hi2 hI2
      obtain ⟨hb, f49, o1, hw1, hw2⟩ := hI2
      refine W_X8_weigh_25 ⟨fun q => absurd q (by omega), fun _ => ⟨by omega, ih c1 ⟨by omega, f49, o1, fun u v p q => ?_⟩⟩⟩
      by_cases e : u = x
      · rw [e]; exact hw2 v (by omega)
      · exact hw1 u v (by omega) q
  · intro a c' hi hI
    obtain ⟨ha, e49, o, hw⟩ := hI
    have hm : SMt c' R (n + 1) := ⟨e49, fun x y p q => hw x y (by omega) q⟩
    refine W_X8_weigh_15 ⟨fun q => absurd q (by omega), fun _ => ?_⟩
    refine lpI (E := fun s (c1 : Cm) => cev 79 4 64 [vR 50, vI s, vU] [] (SH T, c1)) (fun s c1 => (1 ≤ s ∧ s ≤ ((2 ^ (n + 1) : Nat) : Int)) ∧ SMt c1 R (n + 1) ∧ Off [49, 50, 51, 52] [] c c1 ∧ ∀ s' : Nat, 1 ≤ s' → (s' : Int) < s → SMs c1 R (n + 1) s') ((2 ^ (n + 1) : Nat) : Int) ?_ ?_ 1 c' ⟨by omega, hm, o, fun s' p q => by omega⟩
    · intro s c1 hi2 hI2 ih2
      obtain ⟨hs, hm1, o1, hb⟩ := hI2
      obtain ⟨u, rfl⟩ := Int.eq_ofNat_of_zero_le (show 0 ≤ s by omega)
      refine W_X8_weigh_64 ?_
      rw [hm1.1, sp]
      refine ⟨fun _ => (c_weighSet (by omega) hm1 (by omega) (by omega) (fun s' p q => hb s' p (by omega))).mono fun c2 h2 => ⟨by omega, ih2 c2 ⟨by omega, ?_, o1.trans (h2.2.1.mono rfl rfl), fun s' p q => ?_⟩⟩, fun q => absurd hi2 q⟩
      · unfold SMt
        rw [h2.2.1.cell (q := 49) rfl, h2.2.1.cell (q := 50) rfl]
        exact hm1
      · by_cases e : s' = u
        · rw [e]; exact h2.1
        · have j := h2.2.2 (s' : Int) (by omega)
          have := hb s' p (by omega)
          unfold SMs at this ⊢
          rw [j.1, j.2]
          exact this
    · intro s c1 hi2 hI2
      obtain ⟨hs, hm1, o1, hb⟩ := hI2
      refine W_X8_weigh_64 ?_
      rw [hm1.1, sp]
      exact ⟨fun q => absurd q (by omega), fun _ => QV.ret ⟨hm1, fun s' p q => hb s' p (by omega), o1⟩⟩
/-- the trees of all nodes: what they change together -/
def TCs (R : Int → Int) (n : Nat) : List Int := (dfS n n 1 0).map fun v => wt R (codN v n)
theorem c_full {c : Cm} {R : Int → Int} {n : Nat} (hn : n ≤ 6) (h : ∀ s, 1 ≤ s → s < 2 ^ (n + 1) → SMs c R (n + 1) s) : IsMC (TCs R n) (c 51 ((2 ^ (n + 1) - 1 : Nat) : Int), c 52 ((2 ^ (n + 1) - 1 : Nat) : Int)) := by
  have p1 : 2 ^ 1 ≤ 2 ^ (n + 1) := p2le (by omega)
  have := h (2 ^ (n + 1) - 1) (by omega) (by omega)
  have e : Nat.sub (Nat.shiftLeft 1 (n + 1)) 1 = 2 ^ (n + 1) - 1 := by rw [shl1]; rfl
  have tp := tree_perm hn
  rw [e] at tp
  have mp := (tp.map (wt R)).symm
  rw [List.map_map] at mp
  exact mc_perm this mp
theorem c_changed {T : List Shp} {c : Cm} {n : Nat} (hn : n ≤ 6) (h : c 49 1 = ((n + 1 : Nat) : Int)) : ccal 80 [vR 50] (SH T, c) = some (some (vI (c 51 ((2 ^ (n + 1) - 1 : Nat) : Int))), (SH T, c)) := by
  have sp := shl_pow (n := ((n + 1 : Nat) : Int)) (by omega) (by omega)
  rw [Int.toNat_natCast] at sp
  have p7 : 2 ^ (n + 1) ≤ 2 ^ 7 := p2le (by omega)
  have p1 : 2 ^ 1 ≤ 2 ^ (n + 1) := p2le (by omega)
  refine W_X8_changed (Q := fun Z => Z = some (some (vI (c 51 ((2 ^ (n + 1) - 1 : Nat) : Int))), (SH T, c))) ?_
  rw [h, sp, show ((2 ^ (n + 1) : Nat) : Int) - 1 = ((2 ^ (n + 1) - 1 : Nat) : Int) from by omega]
  exact ⟨by omega, rfl⟩
theorem c_waysInAll {T : List Shp} {c : Cm} {n : Nat} (hn : n ≤ 6) (h : c 49 1 = ((n + 1 : Nat) : Int)) : ccal 81 [vR 50] (SH T, c) = some (some (vI (c 52 ((2 ^ (n + 1) - 1 : Nat) : Int))), (SH T, c)) := by
  have sp := shl_pow (n := ((n + 1 : Nat) : Int)) (by omega) (by omega)
  rw [Int.toNat_natCast] at sp
  have p7 : 2 ^ (n + 1) ≤ 2 ^ 7 := p2le (by omega)
  have p1 : 2 ^ 1 ≤ 2 ^ (n + 1) := p2le (by omega)
  refine W_X8_waysInAll (Q := fun Z => Z = some (some (vI (c 52 ((2 ^ (n + 1) - 1 : Nat) : Int))), (SH T, c))) ?_
  rw [h, sp, show ((2 ^ (n + 1) : Nat) : Int) - 1 = ((2 ^ (n + 1) - 1 : Nat) : Int) from by omega]
  exact ⟨by omega, rfl⟩

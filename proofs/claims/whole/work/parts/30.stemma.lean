/-! THE CLASS weighs all sets -/
theorem len_all : bl (fun N => bl (fun s => Nat.beq s 0 || (Nat.ble 1 (lnN (dpA N N s [])) && Nat.ble (lnN (dpA N N s [])) 16807)) (Nat.shiftLeft 1 N)) 8 = true := by decide +kernel
theorem pcn_all : bl (fun N => bl (fun s => Nat.ble (pcN s) N) (Nat.shiftLeft 1 N)) 8 = true := by decide +kernel
theorem lo2_all : bl (fun s => Nat.beq s 0 || (Nat.beq (Nat.mod (Nat.shiftRight s (lowN s 7)) 2) 1 && bl (fun j => Nat.beq (Nat.mod (Nat.shiftRight s j) 2) 0) (lowN s 7))) 128 = true := by decide +kernel
theorem neg_all : ∀ r : Fin 128, iand ((r.val : Nat) : Int) (-((r.val : Nat) : Int)) = ((Nat.xor r.val (rsN r.val) : Nat) : Int) := by decide +kernel
theorem ln_len : ∀ l : List Nat, lnN l = l.length := by
  intro l
  induction l with
  | nil => rfl
  | cons a l ih => show Nat.succ (lnN l) = _; rw [ih]; rfl
theorem shl1 {N : Nat} : Nat.shiftLeft 1 N = 2 ^ N := by
  show 1 <<< N = _
  rw [Nat.shiftLeft_eq, Nat.one_mul]
theorem dp_len {N s : Nat} (hN : N ≤ 7) (hs : s < 2 ^ N) (h1 : 1 ≤ s) : 1 ≤ (dpS N N s).length ∧ (dpS N N s).length ≤ 16807 := by
  have h : (Nat.beq s 0 || (Nat.ble 1 (lnN (dpA N N s [])) && Nat.ble (lnN (dpA N N s [])) 16807)) = true := bl_at _ (bl_at 8 len_all N (by omega)) s (by rw [shl1]; exact hs)
  rw [beq_f (by omega), Bool.false_or, Bool.and_eq_true, ln_len, dpA_nil] at h
  exact ⟨Nat.le_of_ble_eq_true h.1, Nat.le_of_ble_eq_true h.2⟩
theorem pc_n {N s : Nat} (hN : N ≤ 7) (hs : s < 2 ^ N) : pcN s ≤ N := Nat.le_of_ble_eq_true (bl_at _ (bl_at 8 pcn_all N (by omega)) s (by rw [shl1]; exact hs))
theorem tb_mod {s k : Nat} : Nat.beq (Nat.mod (Nat.shiftRight s k) 2) 1 = s.testBit k := by
  rw [Nat.testBit_eq_decide_div_mod_eq]
  show Nat.beq ((s >>> k) % 2) 1 = _
  rw [Nat.shiftRight_eq_div_pow]
  by_cases h : s / 2 ^ k % 2 = 1
  · rw [decide_eq_true h, h]; rfl
  · rw [decide_eq_false h, beq_f h]
theorem bit_iff {s k : Nat} (hs : s < 2147483648) (hk : k < 31) : iand (ishr (s : Int) (k : Int)) 1 = 1 ↔ Nat.beq (Nat.mod (Nat.shiftRight s k) 2) 1 = true := by
  rw [bt_iff (by omega) (by omega) (by omega) (by omega), bt_nat, tb_mod]
theorem c_lowestIn {T : List Shp} {c : Cm} {s : Nat} (hs : s < 128) (h1 : 1 ≤ s) : ccal 182 [vI (s : Int)] (SH T, c) = some (some (vI ((lowN s 7 : Nat) : Int)), (SH T, c)) := by
  have hl := low_lt hs h1
  have hh : (Nat.beq s 0 || (Nat.beq (Nat.mod (Nat.shiftRight s (lowN s 7)) 2) 1 && bl (fun j => Nat.beq (Nat.mod (Nat.shiftRight s j) 2) 0) (lowN s 7))) = true := bl_at 128 lo2_all s hs
  rw [beq_f (by omega), Bool.false_or, Bool.and_eq_true] at hh
  refine W_X11_lowestIn (Q := fun Z => Z = some (some (vI ((lowN s 7 : Nat) : Int)), (SH T, c))) ?_
  refine lpI (Q := fun Z => Z = some (some (vI ((lowN s 7 : Nat) : Int)), (SH T, c))) (E := fun i (_ : Unit) => cev 182 1 2 [vI (s : Int), vI i] [] (SH T, c)) (fun i _ => 0 ≤ i ∧ i ≤ (lowN s 7 : Nat)) 31 ?_ ?_ 0 () ⟨by omega, by omega⟩
  · intro i _ hi hI ih
    obtain ⟨k, rfl⟩ := Int.eq_ofNat_of_zero_le hI.1
    have bi := bit_iff (s := s) (k := k) (by omega) (by omega)
    refine W_X11_lowestIn_2 (Q := fun Z => Z = some (some (vI ((lowN s 7 : Nat) : Int)), (SH T, c))) ⟨fun _ => ⟨fun e => ?_, fun e => ⟨by omega, ih () ⟨by omega, ?_⟩⟩⟩, fun z => absurd hi z⟩
    · by_cases q : k = lowN s 7
      · rw [q]
      · have := bl_at _ hh.2 k (by omega)
        have z := Nat.eq_of_beq_eq_true this
        have y := Nat.eq_of_beq_eq_true (bi.mp e)
        omega
    · by_cases q : k = lowN s 7
      · rw [q] at bi; exact absurd (bi.mpr hh.1) (by rw [← q]; exact e)
      · omega
  · intro i _ hi hI
    omega
/-- how the matrix and the tables lie -/
def SMt (c : Cm) (R : Int → Int) (N : Nat) : Prop := c 49 1 = (N : Int) ∧ ∀ a b : Nat, a < N → b < N → c 50 (7 * (a : Int) + (b : Int)) = lik R a b
def SMs (c : Cm) (R : Int → Int) (N s : Nat) : Prop := IsMC ((dpS N N s).map (wt R)) (c 51 (s : Int), c 52 (s : Int))
theorem mc_bd {R : Int → Int} {N s : Nat} (hN : N ≤ 7) (hs : s < 2 ^ N) (h1 : 1 ≤ s) {p : Int × Int} (h : IsMC ((dpS N N s).map (wt R)) p) : (0 ≤ p.1 ∧ p.1 ≤ 12 * ((pcN s : Nat) : Int) - 12) ∧ 0 ≤ p.2 ∧ p.2 ≤ 16807 := by
  have hl := dp_len hN hs h1
  have p7 : 2 ^ N ≤ 2 ^ 7 := p2le hN
  rcases h with ⟨e, _⟩ | ⟨h1', h2, h3⟩
  · have : ((dpS N N s).map (wt R)).length = 0 := by rw [e]; rfl
    rw [List.length_map] at this
    omega
  · obtain ⟨a, ha, e⟩ := List.mem_map.mp h1'
    have d := dpS_ds hN N s a (by omega) h1 (pc_n hN hs) ha
    have w := wt_bd (R := R) a
    have cl := List.count_le_length (a := p.1) (l := (dpS N N s).map (wt R))
    rw [List.length_map] at cl
    rw [e] at w
    omega
theorem flat_pre {f : Nat → List Nat} {k m : Nat} (h : k ≤ m) : ((List.range k).flatMap f).length ≤ ((List.range m).flatMap f).length := by
  obtain ⟨d, rfl⟩ := Nat.le.dest h
  clear h
  induction d with
  | zero => exact Nat.le_refl _
  | succ d ih =>
    rw [show k + (d + 1) = (k + d) + 1 from by omega, List.range_succ, List.flatMap_append, List.length_append]
    omega
theorem mc_cnt {M : List Int} {p : Int × Int} (h : IsMC M p) : 0 ≤ p.2 ∧ p.2 ≤ (M.length : Int) := by
  rcases h with ⟨_, e⟩ | ⟨_, _, e⟩
  · rw [e]; exact ⟨Int.le_refl 0, show (0 : Int) ≤ (M.length : Int) by omega⟩
  · have := List.count_le_length (a := p.1) (l := M)
    omega
theorem c_joinBranch {T : List Shp} {c : Cm} {R : Int → Int} {N s b : Nat} {A : List Int} (hN : N ≤ 7) (hm : SMt c R N) (hs : s < 2 ^ N) (hb : 1 ≤ b ∧ b < s) (hr : 1 ≤ Nat.xor s b ∧ Nat.xor s b < s) (hp : pcN b + pcN (Nat.xor s b) = pcN s) (h1 : SMs c R N b) (h2 : SMs c R N (Nat.xor s b)) (hA : IsMC A (c 51 (s : Int), c 52 (s : Int))) (hl : (A ++ ((List.range N).flatMap (dpx N s (dpS N N b) (dpS N N (Nat.xor s b)) b)).map (wt R)).length ≤ 16807) (hc : 0 ≤ c 51 (s : Int) ∧ c 51 (s : Int) ≤ 84) : QV T (fun c' => (IsMC (A ++ ((List.range N).flatMap (dpx N s (dpS N N b) (dpS N N (Nat.xor s b)) b)).map (wt R)) (c' 51 (s : Int), c' 52 (s : Int)) ∧ 0 ≤ c' 51 (s : Int) ∧ c' 51 (s : Int) ≤ 84) ∧ Off [51, 52] [] c c' ∧ ∀ j : Int, j ≠ s → c' 51 j = c 51 j ∧ c' 52 j = c 52 j) (ccal 90 [vR 50, vI (s : Int), vI (b : Int)] (SH T, c)) := by
  have p7 : 2 ^ N ≤ 2 ^ 7 := p2le hN
  have b1 := mc_bd hN (by omega) hb.1 h1
  have b2 := mc_bd hN (by omega) hr.1 h2
  have l1 := dp_len hN (s := b) (by omega) hb.1
  have l2 := dp_len hN (s := Nat.xor s b) (by omega) hr.1
  have ps := pc_n hN hs
  have lo := low_lt (s := s) (by omega) (by omega)
  have ex : ixor (s : Int) (b : Int) = ((Nat.xor s b : Nat) : Int) := ixor_nat (by omega) (by omega)
  have mx : 0 ≤ c 52 (b : Int) * c 52 ((Nat.xor s b : Nat) : Int) ∧ c 52 (b : Int) * c 52 ((Nat.xor s b : Nat) : Int) ≤ 16807 * 16807 := ⟨Int.mul_nonneg b1.2.1 b2.2.1, Int.mul_le_mul b1.2.2 b2.2.2 b2.2.1 (by omega)⟩
  refine W_X8_joinBranch (Q := QV T _) (QI.of_eq (c_lowestIn (by omega) (by omega)) ?_)
  rw [ex]
  have er : (if (0 : Int) < ((lowN s 7 : Nat) : Int) then ((lowN s 7 : Nat) : Int) else 0) = ((lowN s 7 : Nat) : Int) := by split <;> omega
  rw [er]
  refine ⟨by omega, ?_⟩
  refine lpI (E := fun i (c' : Cm) => cev 90 2 33 [vR 50, vI (s : Int), vI (b : Int), vI ((lowN s 7 : Nat) : Int), vI ((Nat.xor s b : Nat) : Int), vI (c 52 (b : Int) * c 52 ((Nat.xor s b : Nat) : Int)), vI i, vU] [] (SH T, c')) (fun i c' => (0 ≤ i ∧ i ≤ N) ∧ (IsMC (A ++ ((List.range i.toNat).flatMap (dpx N s (dpS N N b) (dpS N N (Nat.xor s b)) b)).map (wt R)) (c' 51 (s : Int), c' 52 (s : Int)) ∧ 0 ≤ c' 51 (s : Int) ∧ c' 51 (s : Int) ≤ 84) ∧ Off [51, 52] [] c c' ∧ ∀ j : Int, j ≠ s → c' 51 j = c 51 j ∧ c' 52 j = c 52 j) N ?_ ?_ 0 c ⟨by omega, ⟨by show IsMC (A ++ []) _; rw [List.append_nil]; exact hA, hc⟩, Off.rfl, fun j _ => ⟨rfl, rfl⟩⟩
  · intro i c' hi hI ih
    obtain ⟨hi0, ⟨hM, hcb⟩, o, hj⟩ := hI
    obtain ⟨k, rfl⟩ := Int.eq_ofNat_of_zero_le hi0.1
    have bi := bit_iff (s := b) (k := k) (by omega) (by omega)
    have e49 : c' 49 = c 49 := o.cell rfl
    have e50 : c' 50 = c 50 := o.cell rfl
    have jb := hj (b : Int) (by omega)
    have jr := hj ((Nat.xor s b : Nat) : Int) (by omega)
    rw [Int.toNat_natCast] at hM
    have nxy : (List.range ((k : Int) + 1).toNat).flatMap (dpx N s (dpS N N b) (dpS N N (Nat.xor s b)) b) = (List.range k).flatMap (dpx N s (dpS N N b) (dpS N N (Nat.xor s b)) b) ++ dpx N s (dpS N N b) (dpS N N (Nat.xor s b)) b k := by
      rw [show ((k : Int) + 1).toNat = k + 1 from by omega, List.range_succ, List.flatMap_append]
      congr 1
      show dpx N s (dpS N N b) (dpS N N (Nat.xor s b)) b k ++ [] = _
      rw [List.append_nil]
    refine W_X8_joinBranch_33 ?_
    rw [e49, e50, hm.1, jb.1, jr.1]
    refine ⟨fun _ => ⟨fun e => ?_, fun e => ⟨by omega, ih c' ⟨by omega, ?_, o, hj⟩⟩⟩, fun z => absurd hi z⟩
    · have ew : c 50 ((((lowN s 7 : Nat) : Int) * 7) + (k : Int)) = lik R (lowN s 7 : Nat) (k : Nat) := by
        have : lowN s 7 < N := by
          refine Classical.byContradiction fun q => ?_
          have hh : (Nat.beq s 0 || (Nat.beq (Nat.mod (Nat.shiftRight s (lowN s 7)) 2) 1 && bl (fun j => Nat.beq (Nat.mod (Nat.shiftRight s j) 2) 0) (lowN s 7))) = true := bl_at 128 lo2_all s (by omega)
          rw [beq_f (by omega), Bool.false_or, Bool.and_eq_true, tb_mod] at hh
          rw [Nat.testBit_lt_two_pow (Nat.lt_of_lt_of_le hs (p2le (by omega)))] at hh
          exact absurd hh.1 (by decide)
        rw [Int.mul_comm]
        exact hm.2 _ _ this (by omega)
      have wl := lik_bd (R := R) (a := (lowN s 7 : Nat)) (b := (k : Nat))
      rw [ew]
      have ed : dpx N s (dpS N N b) (dpS N N (Nat.xor s b)) b k = prd (dpS N N b) (dpS N N (Nat.xor s b)) (edgN (lowN s 7) k) := by
        unfold dpx
        rw [bi.mp e]
        rfl
      have ds1 : ∀ x ∈ dpS N N b, ∀ y ∈ dpS N N (Nat.xor s b), dsN x + dsN y + dsN (edgN (lowN s 7) k) ≤ 127 := by
        intro x hx y hy
        have a1 := dpS_ds hN N b x (by omega) hb.1 (by omega) hx
        have a2 := dpS_ds hN N (Nat.xor s b) y (by omega) hr.1 (by omega) hy
        rw [ds_edg lo (by omega)]
        omega
      have n1 : (dpS N N b).map (wt R) ≠ [] := fun z => by
        have := congrArg List.length z
        rw [List.length_map] at this
        exact absurd this (by show ¬ (dpS N N b).length = 0; omega)
      have n2 : (dpS N N (Nat.xor s b)).map (wt R) ≠ [] := fun z => by
        have := congrArg List.length z
        rw [List.length_map] at this
        exact absurd this (by show ¬ (dpS N N (Nat.xor s b)).length = 0; omega)
      have mp := mc_prd (e := lik R (lowN s 7 : Nat) (k : Nat)) h1 n1 h2 n2
      have mq : IsMC ((dpx N s (dpS N N b) (dpS N N (Nat.xor s b)) b k).map (wt R)) (c 51 (b : Int) + c 51 ((Nat.xor s b : Nat) : Int) + lik R (lowN s 7 : Nat) (k : Nat), c 52 (b : Int) * c 52 ((Nat.xor s b : Nat) : Int)) := by
        rw [ed, prd_wt ds1, wt_edg lo (by omega)]
        exact mp
      have nn : (dpx N s (dpS N N b) (dpS N N (Nat.xor s b)) b k).map (wt R) ≠ [] := by
        rcases mq with ⟨_, z⟩ | ⟨z, _⟩
        · have := congrArg Prod.fst z
          have z2 : c 51 (b : Int) + c 51 ((Nat.xor s b : Nat) : Int) + lik R (lowN s 7 : Nat) (k : Nat) = 84 := this
          have : ((pcN s : Nat) : Int) ≤ 7 := by omega
          omega
        · exact List.ne_nil_of_mem z
      have n84 : ∀ x ∈ (dpx N s (dpS N N b) (dpS N N (Nat.xor s b)) b k).map (wt R), x < 84 := by
        intro x hx
        obtain ⟨y, hy, e⟩ := List.mem_map.mp hx
        rw [ed] at hy
        obtain ⟨u, v, hu, hv, e2⟩ := prd_mem hy
        have a1 := dpS_ds hN N b u (by omega) hb.1 (by omega) hu
        have a2 := dpS_ds hN N (Nat.xor s b) v (by omega) hr.1 (by omega) hv
        have a3 := ds1 u hu v hv
        have a4 := ds_edg lo (show k < 7 by omega)
        have a5 := ds_nn (edgN (lowN s 7) k)
        have w := wt_bd (R := R) y
        rw [e2, ds_plus (by rw [ds_plus (by omega)]; exact a3), ds_plus (by omega)] at w
        rw [← e, e2]
        omega
      have ma := mc_app hM mq nn n84
      rw [List.append_assoc, ← List.map_append, ← nxy] at ma
      have cn := mc_cnt ma
      have le : ((A ++ List.map (wt R) (List.flatMap (dpx N s (dpS N N b) (dpS N N (Nat.xor s b)) b) (List.range ((k : Int) + 1).toNat))).length : Int) ≤ 16807 := by
        rw [List.length_append, List.length_map] at hl ⊢
        have := flat_pre (f := dpx N s (dpS N N b) (dpS N N (Nat.xor s b)) b) (k := ((k : Int) + 1).toNat) (m := N) (by omega)
        omega
      have fin : ∀ c2 : Cm, (c2 51 (s : Int), c2 52 (s : Int)) = adP (c' 51 (s : Int), c' 52 (s : Int)) (c 51 (b : Int) + c 51 ((Nat.xor s b : Nat) : Int) + lik R (lowN s 7 : Nat) (k : Nat)) (c 52 (b : Int) * c 52 ((Nat.xor s b : Nat) : Int)) → Off [51, 52] [] c' c2 → (∀ j : Int, j ≠ s → c2 51 j = c' 51 j ∧ c2 52 j = c' 52 j) → (0 ≤ c2 51 (s : Int) ∧ c2 51 (s : Int) ≤ 84) → QV T (fun c' => (IsMC (A ++ ((List.range N).flatMap (dpx N s (dpS N N b) (dpS N N (Nat.xor s b)) b)).map (wt R)) (c' 51 (s : Int), c' 52 (s : Int)) ∧ 0 ≤ c' 51 (s : Int) ∧ c' 51 (s : Int) ≤ 84) ∧ Off [51, 52] [] c c' ∧ ∀ j : Int, j ≠ s → c' 51 j = c 51 j ∧ c' 52 j = c 52 j) (cev 90 2 33 [vR 50, vI (s : Int), vI (b : Int), vI ((lowN s 7 : Nat) : Int), vI ((Nat.xor s b : Nat) : Int), vI (c 52 (b : Int) * c 52 ((Nat.xor s b : Nat) : Int)), vI ((k : Int) + 1), vU] [] (SH T, c2)) := by
        intro c2 e2 o2 j2 hb2
        refine ih c2 ⟨by omega, ⟨?_, hb2⟩, o.trans o2, fun j hjs => ?_⟩
        · rw [e2]; exact ma
        · have := j2 j hjs; have := hj j hjs; omega
      refine ⟨by omega, fun e2 => ⟨by omega, ?_⟩, fun e2 => ?_⟩
      · refine W_X8_joinBranch_107 ⟨by omega, fun e3 => ?_, fun e3 => absurd ?_ e3⟩
        · have q52 : up (up c' 51 (s : Int) (c 51 (b : Int) + c 51 ((Nat.xor s b : Nat) : Int) + lik R (lowN s 7 : Nat) (k : Nat))) 52 (s : Int) 0 52 (s : Int) = 0 := up_same
          rw [q52]
          refine ⟨by omega, fin _ ?_ (((Off.rfl.wr rfl).wr rfl).wr rfl) (fun j hjs => ⟨?_, ?_⟩) ?_⟩
          · rw [up_same, up_cell (by decide), up_cell (by decide), up_same]
            unfold adP
            rw [if_pos e2, Int.zero_add]
          · rw [up_cell (by decide), up_cell (by decide), up_ne hjs]
          · rw [up_ne hjs, up_ne hjs, up_cell (by decide)]
          · rw [up_cell (by decide), up_cell (by decide), up_same]; omega
        · rw [up_cell (by decide), up_same]
      · refine W_X8_joinBranch_107 ⟨by omega, fun e3 => ⟨?_, fin _ ?_ (Off.rfl.wr rfl) (fun j hjs => ⟨?_, ?_⟩) ?_⟩, fun e3 => ⟨by omega, fin c' ?_ Off.rfl (fun j hjs => ⟨rfl, rfl⟩) hcb⟩⟩
        · unfold adP at cn
          rw [if_neg e2, if_pos e3] at cn
          have cn2 : 0 ≤ c' 52 (s : Int) + c 52 (b : Int) * c 52 ((Nat.xor s b : Nat) : Int) ∧ c' 52 (s : Int) + c 52 (b : Int) * c 52 ((Nat.xor s b : Nat) : Int) ≤ _ := cn
          omega
        · rw [up_same, up_cell (by decide)]
          unfold adP
          rw [if_neg e2, if_pos e3]
        · rw [up_cell (by decide)]
        · rw [up_ne hjs]
        · rw [up_cell (by decide)]; exact hcb
        · unfold adP
          rw [if_neg e2, if_neg e3]
    · refine ⟨?_, hcb⟩
      have ed : dpx N s (dpS N N b) (dpS N N (Nat.xor s b)) b k = [] := by
        unfold dpx
        cases q : Nat.beq (Nat.mod (Nat.shiftRight b k) 2) 1 with
        | false => rfl
        | true => exact absurd (bi.mpr q) e
      rw [nxy, ed, List.append_nil]
      exact hM
  · intro i c' hi hI
    obtain ⟨hi0, hM, o, hj⟩ := hI
    have : i = N := by omega
    subst this
    rw [Int.toNat_natCast] at hM
    refine W_X8_joinBranch_33 ?_
    rw [o.cell (q := 49) rfl, hm.1]
    exact ⟨fun z => absurd z (by omega), fun _ => QV.ret ⟨hM, o, hj⟩⟩

/-! BITS of ints that aren't below 0 (own work). -/
theorem i32_nat (n : Nat) : Int32.ofInt (n : Int) = Int32.ofNat n := by
  apply Int32.toBitVec_inj.mp
  show BitVec.ofInt 32 (n : Int) = BitVec.ofNat 32 n
  exact BitVec.ofInt_natCast 32 n
theorem bv_int {v : BitVec 32} (h : v.toNat < 2147483648) : v.toInt = (v.toNat : Int) := BitVec.toInt_eq_toNat_of_lt (by omega)
theorem iand_nat {a b : Nat} (ha : a < 2147483648) (hb : b < 2147483648) : iand (a : Int) (b : Int) = ((a &&& b : Nat) : Int) := by
  unfold iand
  rw [i32_nat, i32_nat]
  show (Int32.ofNat a &&& Int32.ofNat b).toBitVec.toInt = _
  have e : (Int32.ofNat a &&& Int32.ofNat b).toBitVec.toNat = a &&& b := by
    rw [Int32.toBitVec_and, BitVec.toNat_and]
    show (BitVec.ofNat 32 a).toNat &&& (BitVec.ofNat 32 b).toNat = _
    rw [BitVec.toNat_ofNat, BitVec.toNat_ofNat, Nat.mod_eq_of_lt (by omega), Nat.mod_eq_of_lt (by omega)]
  rw [bv_int (by rw [e]; exact Nat.lt_of_le_of_lt Nat.and_le_left ha), e]
theorem or_lt31 {a b : Nat} (ha : a < 2147483648) (hb : b < 2147483648) : a ||| b < 2147483648 := Nat.or_lt_two_pow (n := 31) ha hb
theorem ior_nat {a b : Nat} (ha : a < 2147483648) (hb : b < 2147483648) : ior (a : Int) (b : Int) = ((a ||| b : Nat) : Int) := by
  unfold ior
  rw [i32_nat, i32_nat]
  show (Int32.ofNat a ||| Int32.ofNat b).toBitVec.toInt = _
  have e : (Int32.ofNat a ||| Int32.ofNat b).toBitVec.toNat = a ||| b := by
    rw [Int32.toBitVec_or, BitVec.toNat_or]
    show (BitVec.ofNat 32 a).toNat ||| (BitVec.ofNat 32 b).toNat = _
    rw [BitVec.toNat_ofNat, BitVec.toNat_ofNat, Nat.mod_eq_of_lt (by omega), Nat.mod_eq_of_lt (by omega)]
  rw [bv_int (by rw [e]; exact or_lt31 ha hb), e]
theorem ixor_nat {a b : Nat} (ha : a < 2147483648) (hb : b < 2147483648) : ixor (a : Int) (b : Int) = ((a ^^^ b : Nat) : Int) := by
  unfold ixor
  rw [i32_nat, i32_nat]
  show (Int32.ofNat a ^^^ Int32.ofNat b).toBitVec.toInt = _
  have e : (Int32.ofNat a ^^^ Int32.ofNat b).toBitVec.toNat = a ^^^ b := by
    rw [Int32.toBitVec_xor, BitVec.toNat_xor]
    show (BitVec.ofNat 32 a).toNat ^^^ (BitVec.ofNat 32 b).toNat = _
    rw [BitVec.toNat_ofNat, BitVec.toNat_ofNat, Nat.mod_eq_of_lt (by omega), Nat.mod_eq_of_lt (by omega)]
  rw [bv_int (by rw [e]; exact Nat.xor_lt_two_pow (n := 31) ha hb), e]
theorem shc_nat : ∀ k : Fin 32, ((Int32.ofInt (k.val : Int) &&& 31).toBitVec.smod 32).toNat = k.val := by decide +kernel
theorem ishr_nat {a k : Nat} (ha : a < 2147483648) (hk : k < 32) : ishr (a : Int) (k : Int) = ((a >>> k : Nat) : Int) := by
  unfold ishr
  rw [i32_nat a]
  show (Int32.ofNat a >>> (Int32.ofInt (k : Int) &&& 31)).toBitVec.toInt = _
  rw [Int32.toBitVec_shiftRight]
  show ((Int32.ofNat a).toBitVec.sshiftRight ((Int32.ofInt (k : Int) &&& 31).toBitVec.smod 32).toNat).toInt = _
  rw [shc_nat ⟨k, hk⟩, BitVec.toInt_sshiftRight, bv_int]
  · show (((BitVec.ofNat 32 a).toNat : Int)) >>> k = _
    rw [BitVec.toNat_ofNat, Nat.mod_eq_of_lt (by omega)]
    rfl
  · show (BitVec.ofNat 32 a).toNat < _
    rw [BitVec.toNat_ofNat, Nat.mod_eq_of_lt (by omega)]
    exact ha
theorem ishl1_nat : ∀ k : Fin 31, ishl 1 (k.val : Int) = ((2 ^ k.val : Nat) : Int) := by decide +kernel
theorem ishl0_nat : ∀ k : Fin 31, ishl 0 (k.val : Int) = 0 := by decide +kernel
theorem pow31 {k : Nat} (hk : k < 31) : 2 ^ k < 2147483648 := Nat.pow_lt_pow_right (a := 2) (by decide) hk
theorem p2le {i j : Nat} (h : i ≤ j) : 2 ^ i ≤ 2 ^ j := Nat.pow_le_pow_right (by decide) h
/-- a bit of a number -/
def bt (s k : Int) : Bool := s.toNat.testBit k.toNat
theorem bt_nat (a k : Nat) : bt (a : Int) (k : Int) = a.testBit k := by unfold bt; rw [Int.toNat_natCast, Int.toNat_natCast]
theorem bt_val {s k : Int} (hs : 0 ≤ s) (hs2 : s < 2147483648) (hk : 0 ≤ k) (hk2 : k < 31) : iand (ishr s k) 1 = b01 (bt s k = true) := by
  obtain ⟨a, rfl⟩ := Int.eq_ofNat_of_zero_le hs
  obtain ⟨j, rfl⟩ := Int.eq_ofNat_of_zero_le hk
  rw [ishr_nat (by omega) (by omega), show (1 : Int) = ((1 : Nat) : Int) from rfl, iand_nat (Nat.lt_of_le_of_lt (Nat.shiftRight_le _ _) (by omega)) (by decide), bt_nat]
  have e : a >>> j &&& 1 = (a.testBit j).toNat := by
    rw [Nat.and_comm, Nat.testBit]
    have := Nat.mod_two_eq_zero_or_one (a >>> j)
    rw [Nat.and_comm, Nat.and_one_is_mod]
    rcases this with h | h
    · rw [h]; rfl
    · rw [h]; rfl
  rw [e]
  cases h : a.testBit j with
  | true => rw [b01_t rfl]; rfl
  | false => rw [b01_f (by simp)]; rfl
theorem bt_iff {s k : Int} (hs : 0 ≤ s) (hs2 : s < 2147483648) (hk : 0 ≤ k) (hk2 : k < 31) : iand (ishr s k) 1 = 1 ↔ bt s k = true := by
  rw [bt_val hs hs2 hk hk2]
  exact b01_eq1
theorem ior_rng {s t : Int} {n : Nat} (hn : n ≤ 31) (hs : 0 ≤ s) (hs2 : s < ((2 ^ n : Nat) : Int)) (ht : 0 ≤ t) (ht2 : t < ((2 ^ n : Nat) : Int)) : 0 ≤ ior s t ∧ ior s t < ((2 ^ n : Nat) : Int) := by
  obtain ⟨a, rfl⟩ := Int.eq_ofNat_of_zero_le hs
  obtain ⟨b, rfl⟩ := Int.eq_ofNat_of_zero_le ht
  have p : 2 ^ n ≤ 2147483648 := p2le hn
  rw [ior_nat (by omega) (by omega)]
  have := Nat.or_lt_two_pow (n := n) (x := a) (y := b) (by omega) (by omega)
  omega
theorem ior_bt {s t k : Int} (hs : 0 ≤ s) (hs2 : s < 2147483648) (ht : 0 ≤ t) (ht2 : t < 2147483648) (hk : 0 ≤ k) : bt (ior s t) k = (bt s k || bt t k) := by
  obtain ⟨a, rfl⟩ := Int.eq_ofNat_of_zero_le hs
  obtain ⟨b, rfl⟩ := Int.eq_ofNat_of_zero_le ht
  obtain ⟨j, rfl⟩ := Int.eq_ofNat_of_zero_le hk
  rw [ior_nat (by omega) (by omega), bt_nat, bt_nat, bt_nat, Nat.testBit_or]
theorem ior_0 {s : Int} (hs : 0 ≤ s) (hs2 : s < 2147483648) : ior s 0 = s := by
  obtain ⟨a, rfl⟩ := Int.eq_ofNat_of_zero_le hs
  rw [show (0 : Int) = ((0 : Nat) : Int) from rfl, ior_nat (by omega) (by decide), Nat.or_zero]
theorem shl_rng {k : Int} {n : Nat} (hk : 0 ≤ k) (hk2 : k < n) (hn : n ≤ 31) : 0 ≤ ishl 1 k ∧ ishl 1 k < ((2 ^ n : Nat) : Int) := by
  obtain ⟨j, rfl⟩ := Int.eq_ofNat_of_zero_le hk
  rw [ishl1_nat ⟨j, by omega⟩]
  have := Nat.pow_lt_pow_right (a := 2) (m := j) (n := n) (by decide) (by omega)
  exact ⟨Int.natCast_nonneg _, Int.ofNat_lt.mpr this⟩
theorem shl_bt {k j : Int} (hk : 0 ≤ k) (hk2 : k < 31) (hj : 0 ≤ j) : bt (ishl 1 k) j = decide (j = k) := by
  obtain ⟨a, rfl⟩ := Int.eq_ofNat_of_zero_le hk
  obtain ⟨b, rfl⟩ := Int.eq_ofNat_of_zero_le hj
  rw [ishl1_nat ⟨a, by omega⟩, bt_nat]
  dsimp only
  rw [Nat.testBit_two_pow]
  by_cases e : a = b
  · subst e; rw [decide_eq_true rfl, decide_eq_true rfl]
  · rw [decide_eq_false e, decide_eq_false (by omega)]
theorem bt_0 {k : Int} : bt 0 k = false := by
  unfold bt
  rw [show (0 : Int).toNat = 0 from rfl, Nat.zero_testBit]
theorem bt_big {s k : Int} {n : Nat} (hs : 0 ≤ s) (hs2 : s < ((2 ^ n : Nat) : Int)) (hk : (n : Int) ≤ k) : bt s k = false := by
  obtain ⟨a, rfl⟩ := Int.eq_ofNat_of_zero_le hs
  obtain ⟨j, rfl⟩ := Int.eq_ofNat_of_zero_le (a := k) (by omega)
  rw [bt_nat]
  refine Nat.testBit_lt_two_pow ?_
  have := p2le (i := n) (j := j) (by omega)
  have h2 := Int.ofNat_lt.mp hs2
  omega
theorem bt_ext {s t : Int} (hs : 0 ≤ s) (ht : 0 ≤ t) (h : ∀ k, 0 ≤ k → bt s k = bt t k) : s = t := by
  obtain ⟨a, rfl⟩ := Int.eq_ofNat_of_zero_le hs
  obtain ⟨b, rfl⟩ := Int.eq_ofNat_of_zero_le ht
  have : a = b := Nat.eq_of_testBit_eq fun i => by
    have := h i (by omega)
    rw [bt_nat, bt_nat] at this
    exact this
  rw [this]
/-- the set of all k below n at which p is so -/
def sto' (p : Int → Bool) (n : Int) : Int := foldI (fun t b => if p t = true then ior b (ishl 1 t) else b) 0 n
theorem sto_spec {p : Int → Bool} {n : Nat} (hn : n ≤ 31) : (0 ≤ sto' p n ∧ sto' p n < ((2 ^ n : Nat) : Int)) ∧ ∀ k, 0 ≤ k → bt (sto' p n) k = (decide (k < (n : Int)) && p k) := by
  have key : ∀ m : Nat, m ≤ n → (0 ≤ sto' p m ∧ sto' p m < ((2 ^ n : Nat) : Int)) ∧ ∀ k, 0 ≤ k → bt (sto' p m) k = (decide (k < (m : Int)) && p k) := by
    intro m
    induction m with
    | zero =>
      intro _
      refine ⟨⟨Int.le_refl 0, ?_⟩, fun k hk => ?_⟩
      · exact Int.ofNat_lt.mpr (Nat.pow_pos (n := n) (a := 2) (by decide))
      · show bt 0 k = _
        rw [bt_0, decide_eq_false (by omega)]
        rfl
    | succ m ih =>
      intro hm
      obtain ⟨⟨h1, h2⟩, h3⟩ := ih (by omega)
      have p31 : 2 ^ n ≤ 2147483648 := p2le hn
      have e : sto' p ((m + 1 : Nat) : Int) = if p m = true then ior (sto' p m) (ishl 1 m) else sto' p m := by
        unfold sto'
        rw [show ((m + 1 : Nat) : Int) = (m : Int) + 1 from by omega, foldI_succ (by omega)]
      have s1 := shl_rng (k := (m : Int)) (n := n) (by omega) (by omega) hn
      rw [e]
      by_cases hp : p m = true
      · rw [if_pos hp]
        refine ⟨ior_rng hn h1 h2 s1.1 s1.2, fun k hk => ?_⟩
        rw [ior_bt h1 (by omega) s1.1 (by omega) hk, h3 k hk, shl_bt (by omega) (by omega) hk]
        by_cases ek : k = m
        · subst ek
          rw [decide_eq_true rfl, decide_eq_true (show (m : Int) < ((m + 1 : Nat) : Int) by omega), hp, Bool.or_true]
          rfl
        · rw [decide_eq_false ek, Bool.or_false]
          by_cases h4 : k < m
          · rw [decide_eq_true h4, decide_eq_true (show k < ((m + 1 : Nat) : Int) by omega)]
          · rw [decide_eq_false h4, decide_eq_false (show ¬ k < ((m + 1 : Nat) : Int) by omega)]
      · rw [if_neg hp]
        refine ⟨⟨h1, h2⟩, fun k hk => ?_⟩
        rw [h3 k hk]
        by_cases ek : k = m
        · subst ek
          rw [Bool.eq_false_iff.mpr hp, Bool.and_false, Bool.and_false]
        · by_cases h4 : k < m
          · rw [decide_eq_true h4, decide_eq_true (show k < ((m + 1 : Nat) : Int) by omega)]
          · rw [decide_eq_false h4, decide_eq_false (show ¬ k < ((m + 1 : Nat) : Int) by omega)]
  exact key n (Nat.le_refl _)
theorem sto_eq {p : Int → Bool} {n : Nat} {s : Int} (hn : n ≤ 31) (hs : 0 ≤ s) (hs2 : s < ((2 ^ n : Nat) : Int)) (h : ∀ k : Int, 0 ≤ k → k < (n : Int) → bt s k = p k) : s = sto' p n := by
  have a := sto_spec (p := p) hn
  refine bt_ext hs a.1.1 fun k hk => ?_
  rw [a.2 k hk]
  by_cases hk2 : k < n
  · rw [decide_eq_true hk2, h k hk hk2]; rfl
  · rw [decide_eq_false hk2, bt_big hs hs2 (by omega)]; rfl
theorem sto_congr {p q : Int → Bool} {n : Int} (h : ∀ k, 0 ≤ k → k < n → p k = q k) : sto' p n = sto' q n := foldI_congr fun i y a b => by rw [h i a b]

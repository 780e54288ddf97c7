/-! NUMBERS: int and long of the machine beside whole numbers (own work) -/
def In32 (x : Int) : Prop := -2147483648 ≤ x ∧ x < 2147483648
def In64 (x : Int) : Prop := -9223372036854775808 ≤ x ∧ x < 9223372036854775808
theorem in32_w (x : Int) : In32 (w32 x) := by unfold In32 w32; omega
theorem in64_w (x : Int) : In64 (w64 x) := by unfold In64 w64; omega
theorem in32_i (x : Int32) : In32 x.toInt := ⟨x.le_toInt, x.toInt_lt⟩
theorem in64_i (x : Int64) : In64 x.toInt := ⟨x.le_toInt, x.toInt_lt⟩
theorem w32_ids {x : Int} (h : In32 x) : w32 x = x := by unfold In32 at h; unfold w32; omega
theorem w64_ids {x : Int} (h : In64 x) : w64 x = x := by unfold In64 at h; unfold w64; omega
theorem w32_of {x : Int} (h1 : -2147483648 ≤ x) (h2 : x < 2147483648) : w32 x = x := w32_ids ⟨h1, h2⟩
theorem w64_of {x : Int} (h1 : -9223372036854775808 ≤ x) (h2 : x < 9223372036854775808) : w64 x = x := w64_ids ⟨h1, h2⟩
theorem w32_bmod (x : Int) : w32 x = x.bmod 4294967296 := by
  unfold w32 Int.bmod
  simp only []
  split <;> omega
theorem w64_bmod (x : Int) : w64 x = x.bmod 18446744073709551616 := by
  unfold w64 Int.bmod
  simp only []
  split <;> omega
theorem t32 {x : Int} (h : In32 x) : (Int32.ofInt x).toInt = x := Int32.toInt_ofInt_of_le h.1 h.2
theorem t64 {x : Int} (h : In64 x) : (Int64.ofInt x).toInt = x := Int64.toInt_ofInt_of_le h.1 h.2
theorem o32_w (x : Int) : Int32.ofInt (w32 x) = Int32.ofInt x := by
  rw [← Int32.toInt_inj, t32 (in32_w x), Int32.toInt_ofInt, w32_bmod]
theorem o64_w (x : Int) : Int64.ofInt (w64 x) = Int64.ofInt x := by
  rw [← Int64.toInt_inj, t64 (in64_w x), Int64.toInt_ofInt, w64_bmod]
theorem o32_inj {x y : Int} (hx : In32 x) (hy : In32 y) : Int32.ofInt x = Int32.ofInt y ↔ x = y := by
  rw [← Int32.toInt_inj, t32 hx, t32 hy]
theorem o32_lt {x y : Int} (hx : In32 x) (hy : In32 y) : Int32.ofInt x < Int32.ofInt y ↔ x < y := by
  rw [Int32.lt_iff_toInt_lt, t32 hx, t32 hy]
theorem o32_le {x y : Int} (hx : In32 x) (hy : In32 y) : Int32.ofInt x ≤ Int32.ofInt y ↔ x ≤ y := by
  rw [Int32.le_iff_toInt_le, t32 hx, t32 hy]
theorem o64_inj {x y : Int} (hx : In64 x) (hy : In64 y) : Int64.ofInt x = Int64.ofInt y ↔ x = y := by
  rw [← Int64.toInt_inj, t64 hx, t64 hy]
theorem o64_lt {x y : Int} (hx : In64 x) (hy : In64 y) : Int64.ofInt x < Int64.ofInt y ↔ x < y := by
  rw [Int64.lt_iff_toInt_lt, t64 hx, t64 hy]
theorem in32_0 : In32 0 := by unfold In32; omega
theorem in64_0 : In64 0 := by unfold In64; omega
theorem o32_0 : Int32.ofInt 0 = 0 := by decide
theorem o64_0 : Int64.ofInt 0 = 0 := by decide
theorem o32_add (x y : Int) : Int32.ofInt (w32 (x + y)) = Int32.ofInt x + Int32.ofInt y := by rw [o32_w, Int32.ofInt_add]
theorem o32_sub (x y : Int) : Int32.ofInt (w32 (x - y)) = Int32.ofInt x - Int32.ofInt y := by rw [o32_w, Int32.ofInt_sub]
theorem o32_mul (x y : Int) : Int32.ofInt (w32 (x * y)) = Int32.ofInt x * Int32.ofInt y := by rw [o32_w, Int32.ofInt_mul]
theorem o32_neg (x : Int) : Int32.ofInt (w32 (-x)) = -Int32.ofInt x := by rw [o32_w, Int32.ofInt_neg]
theorem o64_add (x y : Int) : Int64.ofInt (w64 (x + y)) = Int64.ofInt x + Int64.ofInt y := by rw [o64_w, Int64.ofInt_add]
theorem o64_sub (x y : Int) : Int64.ofInt (w64 (x - y)) = Int64.ofInt x - Int64.ofInt y := by rw [o64_w, Int64.ofInt_sub]
theorem o64_mul (x y : Int) : Int64.ofInt (w64 (x * y)) = Int64.ofInt x * Int64.ofInt y := by rw [o64_w, Int64.ofInt_mul]
theorem o32_tdiv {x y : Int} (hx : In32 x) (hy : In32 y) : Int32.ofInt (w32 (Int.tdiv x y)) = Int32.ofInt x / Int32.ofInt y := by
  rw [← Int32.toInt_inj, t32 (in32_w _), Int32.toInt_div, t32 hx, t32 hy, w32_bmod]
theorem o64_tdiv {x y : Int} (hx : In64 x) (hy : In64 y) : Int64.ofInt (w64 (Int.tdiv x y)) = Int64.ofInt x / Int64.ofInt y := by
  rw [← Int64.toInt_inj, t64 (in64_w _), Int64.toInt_div, t64 hx, t64 hy, w64_bmod]
theorem o32_tmod {x y : Int} (hx : In32 x) (hy : In32 y) : Int32.ofInt (w32 (Int.tmod x y)) = Int32.ofInt x - Int32.ofInt x / Int32.ofInt y * Int32.ofInt y := by
  rw [← o32_tdiv hx hy, o32_w, o32_w, ← Int32.ofInt_mul, ← Int32.ofInt_sub]
  congr 1
  have h := Int.mul_tdiv_add_tmod x y
  have h2 := Int.mul_comm y (x.tdiv y)
  omega
theorem o64_tmod {x y : Int} (hx : In64 x) (hy : In64 y) : Int64.ofInt (w64 (Int.tmod x y)) = Int64.ofInt x - Int64.ofInt x / Int64.ofInt y * Int64.ofInt y := by
  rw [← o64_tdiv hx hy, o64_w, o64_w, ← Int64.ofInt_mul, ← Int64.ofInt_sub]
  congr 1
  have h := Int.mul_tdiv_add_tmod x y
  have h2 := Int.mul_comm y (x.tdiv y)
  omega
theorem o32_i2l {x : Int} (hx : In32 x) : (Int32.ofInt x).toInt64 = Int64.ofInt x := by
  have h : In64 x := ⟨by have := hx.1; omega, by have := hx.2; omega⟩
  rw [← Int64.toInt_inj, Int32.toInt_toInt64, t32 hx, t64 h]
theorem o64_l2i {x : Int} (hx : In64 x) : (Int64.ofInt x).toInt32 = Int32.ofInt (w32 x) := by
  rw [← Int32.toInt_inj, Int64.toInt_toInt32, t64 hx, t32 (in32_w x), w32_bmod]
theorem o32_ibin (a : Nat) (x y : Int) : In32 (ibin a x y) := by
  rcases a with _ | _ | _ | _ | _ | _ | _ | _ | a <;> first | exact in32_w _ | exact in32_i _
theorem o64_lbin (a : Nat) (x y : Int) : In64 (lbin a x y) := by
  rcases a with _ | _ | a <;> exact in64_w _
theorem o32_in {i : Int} {n : Int} (hi : In32 i) (h0 : 0 ≤ i) (h : i < n) : vp_in (Int32.ofInt i) n.toNat := by
  have e : (Int32.ofInt i).toNatClampNeg = i.toNat := by rw [← Int32.toNat_toInt, t32 hi]
  rintro (q | q)
  · rw [← o32_0, o32_lt hi in32_0] at q; omega
  · rw [e] at q; omega
theorem o32_clamp {i : Int} (hi : In32 i) : (Int32.ofInt i).toNatClampNeg = i.toNat := by rw [← Int32.toNat_toInt, t32 hi]
theorem o32_nat {n : Nat} : Int32.ofInt (n : Int) = Int32.ofNat n := by
  rw [Int32.ofInt_eq_ofNat]

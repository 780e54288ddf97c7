/-! ORDERS: the whole run, as a function -/
theorem oac_code {F : List Clz} {R P : Int → Int} {k : Int} : (oac F R k P).1 = 0 ∨ (oac F R k P).1 < 0 := by
  have m3 : ((-3 : Int), R).1 < 0 := by show (-3 : Int) < 0; omega
  have m5 : ((-5 : Int), R).1 < 0 := by show (-5 : Int) < 0; omega
  have pk : ∀ p, (pwk F R p).1 = 0 ∨ (pwk F R p).1 < 0 := fun p => by
    unfold pwk
    split
    · split
      · exact .inr m3
      · split
        · exact .inl rfl
        · exact .inr m5
    · exact .inr m3
  unfold oac
  split
  · split
    · exact .inl rfl
    · exact .inr m5
  · split
    · split
      · exact .inr m3
      · exact .inl rfl
    · split
      · split
        · exact .inl rfl
        · exact .inr m3
      · exact pk _
theorem el_code {R : Int → Int} {x : Option Int} {f : Int → Int × (Int → Int)} (hf : ∀ y, (f y).1 = 0 ∨ (f y).1 < 0) : (x.elim (-3, R) f).1 = 0 ∨ (x.elim (-3, R) f).1 < 0 := by
  cases x with
  | none => exact .inr (by show (-3 : Int) < 0; omega)
  | some y => exact hf y
theorem oaw_code {F : List Clz} {R W : Int → Int} {z : Orc} : (oaw F R W z).1 = 0 ∨ (oaw F R W z).1 < 0 := by
  unfold oaw
  split
  · exact el_code fun y => oac_code
  · split
    · exact el_code fun a => el_code fun b => el_code fun t => oac_code
    · exact oac_code
/-- an order, as often as it has still to run: code, row, orders done -/
def tim (F : List Clz) (z : Orc) : Nat → (Int → Int) → Int → Int × (Int → Int) × Int
  | 0, R, n => (0, R, n)
  | k + 1, R, n => if wnt (wO F R n) z = true then (if (oaw F R (wO F R n) z).1 < 0 then ((oaw F R (wO F R n) z).1, R, n) else tim F z k (oaw F R (wO F R n) z).2 (n + 1)) else tim F z k R n
/-- all orders, from the one with this number: code, its number, row, done -/
def oru (F : List Clz) : List Orc → Int → (Int → Int) → Int → Int × Int × (Int → Int) × Int
  | [], i, R, n => (0, i, R, n)
  | z :: l, i, R, n => if (tim F z z.2.1.toNat R n).1 < 0 then ((tim F z z.2.1.toNat R n).1, i, (tim F z z.2.1.toNat R n).2.1, (tim F z z.2.1.toNat R n).2.2) else oru F l (i + 1) (tim F z z.2.1.toNat R n).2.1 (tim F z z.2.1.toNat R n).2.2
theorem tim_bd {F : List Clz} {z : Orc} : ∀ (k : Nat) (R : Int → Int) (n : Int), n ≤ (tim F z k R n).2.2 ∧ (tim F z k R n).2.2 ≤ n + (k : Int)
  | 0, R, n => by show n ≤ n ∧ n ≤ n + ((0 : Nat) : Int); omega
  | k + 1, R, n => by
    unfold tim
    split
    · split
      · show n ≤ n ∧ n ≤ n + ((k + 1 : Nat) : Int); omega
      · have := tim_bd (F := F) (z := z) k (oaw F R (wO F R n) z).2 (n + 1)
        omega
    · have := tim_bd (F := F) (z := z) k R n
      omega

/-! reckoned by the kernel -/
def chwN (n : Nat) : Bool := eqN (sorN (mpN (fun v => codN v n) (dfA n n 1 0 []))) (sorN (dpA (Nat.succ n) (Nat.succ n) (Nat.sub (Nat.shiftLeft 1 (Nat.succ n)) 1) []))
def cht8 (n : Nat) : Bool := alN (fun v => allN (t8N v 8) n) (dfA n n 1 0 [])
theorem chw_0 : chwN 0 = true := by decide +kernel
theorem chw_1 : chwN 1 = true := by decide +kernel
theorem chw_2 : chwN 2 = true := by decide +kernel
theorem chw_3 : chwN 3 = true := by decide +kernel
theorem chw_4 : chwN 4 = true := by decide +kernel
theorem chw_5 : chwN 5 = true := by decide +kernel
theorem ct_0 : cht8 0 = true := by decide +kernel
theorem ct_1 : cht8 1 = true := by decide +kernel
theorem ct_2 : cht8 2 = true := by decide +kernel
theorem ct_3 : cht8 3 = true := by decide +kernel
theorem ct_4 : cht8 4 = true := by decide +kernel
theorem ct_5 : cht8 5 = true := by decide +kernel
theorem ct_6 : cht8 6 = true := by decide +kernel
theorem chk0 : chkN 0 = true := by decide +kernel
theorem chk1 : chkN 1 = true := by decide +kernel
theorem chk2 : chkN 2 = true := by decide +kernel
theorem chk3 : chkN 3 = true := by decide +kernel
theorem chk4 : chkN 4 = true := by decide +kernel
theorem chk5 : chkN 5 = true := by decide +kernel
theorem chk6 : chkN 6 = true := by decide +kernel
theorem chk7 : chkN 7 = true := by decide +kernel

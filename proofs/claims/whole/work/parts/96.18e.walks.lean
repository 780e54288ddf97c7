/-! the walk of every method (own work) -/
theorem ckm (g : Nat) (h : g < 357) : CKM g := ⟨kc_all g h, List.all_eq_true.mp oks_ok g (List.mem_range.mpr h)⟩
theorem ckm_mok (g : Nat) (h : mok1 g = true) : CKM g := by
  obtain ⟨-, -, -, -, -, -, -, h1⟩ := of_decide_eq_true h
  exact ckm g (by omega)
theorem walks (n' : Nat) : WALK n' := walk_all ckm_mok n'

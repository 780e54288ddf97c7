/-! decided: the code of every method, 7 (own work) -/
set_option maxRecDepth 100000 in
theorem kc_7 : (List.range 42).all (fun j => chkM (j + 315)) = true := by decide +kernel
theorem kc_all (g : Nat) (h : g < 357) : chkM g = true := by
  by_cases h0 : g < 45
  · have := List.all_eq_true.mp kc_0 (g - 0) (List.mem_range.mpr (by omega))
    rwa [show g - 0 + 0 = g by omega] at this
  by_cases h1 : g < 90
  · have := List.all_eq_true.mp kc_1 (g - 45) (List.mem_range.mpr (by omega))
    rwa [show g - 45 + 45 = g by omega] at this
  by_cases h2 : g < 135
  · have := List.all_eq_true.mp kc_2 (g - 90) (List.mem_range.mpr (by omega))
    rwa [show g - 90 + 90 = g by omega] at this
  by_cases h3 : g < 180
  · have := List.all_eq_true.mp kc_3 (g - 135) (List.mem_range.mpr (by omega))
    rwa [show g - 135 + 135 = g by omega] at this
  by_cases h4 : g < 225
  · have := List.all_eq_true.mp kc_4 (g - 180) (List.mem_range.mpr (by omega))
    rwa [show g - 180 + 180 = g by omega] at this
  by_cases h5 : g < 270
  · have := List.all_eq_true.mp kc_5 (g - 225) (List.mem_range.mpr (by omega))
    rwa [show g - 225 + 225 = g by omega] at this
  by_cases h6 : g < 315
  · have := List.all_eq_true.mp kc_6 (g - 270) (List.mem_range.mpr (by omega))
    rwa [show g - 270 + 270 = g by omega] at this
  have := List.all_eq_true.mp kc_7 (g - 315) (List.mem_range.mpr (by omega))
  rwa [show g - 315 + 315 = g by omega] at this

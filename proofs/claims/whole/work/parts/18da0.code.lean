/-! decided: the code of every method, 0 (own work) -/
set_option maxRecDepth 100000 in
theorem kc_0 : (List.range 45).all (fun j => chkM (j + 0)) = true := by decide +kernel

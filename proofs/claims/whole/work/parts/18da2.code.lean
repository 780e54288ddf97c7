/-! decided: the code of every method, 2 (own work) -/
set_option maxRecDepth 100000 in
theorem kc_2 : (List.range 45).all (fun j => chkM (j + 90)) = true := by decide +kernel

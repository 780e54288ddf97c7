/-! decided: the code of every method, 1 (own work) -/
set_option maxRecDepth 100000 in
theorem kc_1 : (List.range 45).all (fun j => chkM (j + 45)) = true := by decide +kernel

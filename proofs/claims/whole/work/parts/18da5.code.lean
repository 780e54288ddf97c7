/-! decided: the code of every method, 5 (own work) -/
set_option maxRecDepth 100000 in
theorem kc_5 : (List.range 45).all (fun j => chkM (j + 225)) = true := by decide +kernel

/-! decided: the code of every method, 3 (own work) -/
set_option maxRecDepth 100000 in
theorem kc_3 : (List.range 45).all (fun j => chkM (j + 135)) = true := by decide +kernel

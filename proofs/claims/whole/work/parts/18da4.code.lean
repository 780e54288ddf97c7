/-! decided: the code of every method, 4 (own work) -/
set_option maxRecDepth 100000 in
theorem kc_4 : (List.range 45).all (fun j => chkM (j + 180)) = true := by decide +kernel

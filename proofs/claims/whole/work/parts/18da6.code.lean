/-! decided: the code of every method, 6 (own work) -/
set_option maxRecDepth 100000 in
theorem kc_6 : (List.range 45).all (fun j => chkM (j + 270)) = true := by decide +kernel

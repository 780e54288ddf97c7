/-! decided: the code of every method, 8 (own work) -/
set_option maxRecDepth 100000 in
theorem kc_320 : chkM 320 = true := by decide +kernel
set_option maxRecDepth 100000 in
theorem kc_321 : chkM 321 = true := by decide +kernel
set_option maxRecDepth 100000 in
theorem kc_322 : chkM 322 = true := by decide +kernel
set_option maxRecDepth 100000 in
theorem kc_323 : chkM 323 = true := by decide +kernel
set_option maxRecDepth 100000 in
theorem kc_324 : chkM 324 = true := by decide +kernel
set_option maxRecDepth 100000 in
theorem kc_325 : chkM 325 = true := by decide +kernel
set_option maxRecDepth 100000 in
theorem kc_326 : chkM 326 = true := by decide +kernel
set_option maxRecDepth 100000 in
theorem kc_327 : chkM 327 = true := by decide +kernel
set_option maxRecDepth 100000 in
theorem kc_328 : chkM 328 = true := by decide +kernel
set_option maxRecDepth 100000 in
theorem kc_329 : chkM 329 = true := by decide +kernel
set_option maxRecDepth 100000 in
theorem kc_330 : chkM 330 = true := by decide +kernel
set_option maxRecDepth 100000 in
theorem kc_331 : chkM 331 = true := by decide +kernel
set_option maxRecDepth 100000 in
theorem kc_332 : chkM 332 = true := by decide +kernel
set_option maxRecDepth 100000 in
theorem kc_333 : chkM 333 = true := by decide +kernel
set_option maxRecDepth 100000 in
theorem kc_334 : chkM 334 = true := by decide +kernel
set_option maxRecDepth 100000 in
theorem kc_335 : chkM 335 = true := by decide +kernel
set_option maxRecDepth 100000 in
theorem kc_336 : chkM 336 = true := by decide +kernel
set_option maxRecDepth 100000 in
theorem kc_337_0 : (((inf 337).2.2.drop 0).take 6).all (fun b => chk (mtbs 337).1 (mtbs 337).2.2.2.2 (mtbs 337).2.2.1 (mtbs 337).2.1.name b.1 b.2.2) = true := by decide +kernel
set_option maxRecDepth 100000 in
theorem kc_337_1 : (((inf 337).2.2.drop 6).take 6).all (fun b => chk (mtbs 337).1 (mtbs 337).2.2.2.2 (mtbs 337).2.2.1 (mtbs 337).2.1.name b.1 b.2.2) = true := by decide +kernel
set_option maxRecDepth 100000 in
theorem kc_337_2 : (((inf 337).2.2.drop 12).take 6).all (fun b => chk (mtbs 337).1 (mtbs 337).2.2.2.2 (mtbs 337).2.2.1 (mtbs 337).2.1.name b.1 b.2.2) = true := by decide +kernel
set_option maxRecDepth 100000 in
theorem kc_337_3 : (((inf 337).2.2.drop 18).take 6).all (fun b => chk (mtbs 337).1 (mtbs 337).2.2.2.2 (mtbs 337).2.2.1 (mtbs 337).2.1.name b.1 b.2.2) = true := by decide +kernel
set_option maxRecDepth 100000 in
theorem kc_337_4 : (((inf 337).2.2.drop 24).take 6).all (fun b => chk (mtbs 337).1 (mtbs 337).2.2.2.2 (mtbs 337).2.2.1 (mtbs 337).2.1.name b.1 b.2.2) = true := by decide +kernel
set_option maxRecDepth 100000 in
theorem kc_337_5 : (((inf 337).2.2.drop 30).take 6).all (fun b => chk (mtbs 337).1 (mtbs 337).2.2.2.2 (mtbs 337).2.2.1 (mtbs 337).2.1.name b.1 b.2.2) = true := by decide +kernel
set_option maxRecDepth 100000 in
theorem kc_337_6 : (((inf 337).2.2.drop 36).take 6).all (fun b => chk (mtbs 337).1 (mtbs 337).2.2.2.2 (mtbs 337).2.2.1 (mtbs 337).2.1.name b.1 b.2.2) = true := by decide +kernel
set_option maxRecDepth 100000 in
theorem kc_337_7 : (((inf 337).2.2.drop 42).take 6).all (fun b => chk (mtbs 337).1 (mtbs 337).2.2.2.2 (mtbs 337).2.2.1 (mtbs 337).2.1.name b.1 b.2.2) = true := by decide +kernel
set_option maxRecDepth 100000 in
theorem kc_337_8 : ((inf 337).2.2.drop 48).all (fun b => chk (mtbs 337).1 (mtbs 337).2.2.2.2 (mtbs 337).2.2.1 (mtbs 337).2.1.name b.1 b.2.2) = true := by decide +kernel
theorem kc_337 : chkM 337 = true := by
  have h := (ck_cut 6 kc_337_0 (by rw [List.drop_drop]; exact (ck_cut 6 kc_337_1 (by rw [List.drop_drop]; exact (ck_cut 6 kc_337_2 (by rw [List.drop_drop]; exact (ck_cut 6 kc_337_3 (by rw [List.drop_drop]; exact (ck_cut 6 kc_337_4 (by rw [List.drop_drop]; exact (ck_cut 6 kc_337_5 (by rw [List.drop_drop]; exact (ck_cut 6 kc_337_6 (by rw [List.drop_drop]; exact (ck_cut 6 kc_337_7 (by rw [List.drop_drop]; exact kc_337_8))))))))))))))))
  exact h
set_option maxRecDepth 100000 in
theorem kc_338 : chkM 338 = true := by decide +kernel
set_option maxRecDepth 100000 in
theorem kc_339 : chkM 339 = true := by decide +kernel
set_option maxRecDepth 100000 in
theorem kc_340 : chkM 340 = true := by decide +kernel
set_option maxRecDepth 100000 in
theorem kc_341 : chkM 341 = true := by decide +kernel
set_option maxRecDepth 100000 in
theorem kc_342 : chkM 342 = true := by decide +kernel
set_option maxRecDepth 100000 in
theorem kc_343 : chkM 343 = true := by decide +kernel
set_option maxRecDepth 100000 in
theorem kc_344 : chkM 344 = true := by decide +kernel
set_option maxRecDepth 100000 in
theorem kc_345 : chkM 345 = true := by decide +kernel
set_option maxRecDepth 100000 in
theorem kc_346 : chkM 346 = true := by decide +kernel
set_option maxRecDepth 100000 in
theorem kc_347 : chkM 347 = true := by decide +kernel
set_option maxRecDepth 100000 in
theorem kc_348 : chkM 348 = true := by decide +kernel
set_option maxRecDepth 100000 in
theorem kc_349 : chkM 349 = true := by decide +kernel
set_option maxRecDepth 100000 in
theorem kc_350 : chkM 350 = true := by decide +kernel
set_option maxRecDepth 100000 in
theorem kc_351 : chkM 351 = true := by decide +kernel
set_option maxRecDepth 100000 in
theorem kc_352 : chkM 352 = true := by decide +kernel
set_option maxRecDepth 100000 in
theorem kc_353 : chkM 353 = true := by decide +kernel
set_option maxRecDepth 100000 in
theorem kc_354 : chkM 354 = true := by decide +kernel
set_option maxRecDepth 100000 in
theorem kc_355 : chkM 355 = true := by decide +kernel
set_option maxRecDepth 100000 in
theorem kc_356_0 : (((inf 356).2.2.drop 0).take 6).all (fun b => chk (mtbs 356).1 (mtbs 356).2.2.2.2 (mtbs 356).2.2.1 (mtbs 356).2.1.name b.1 b.2.2) = true := by decide +kernel
set_option maxRecDepth 100000 in
theorem kc_356_1 : (((inf 356).2.2.drop 6).take 6).all (fun b => chk (mtbs 356).1 (mtbs 356).2.2.2.2 (mtbs 356).2.2.1 (mtbs 356).2.1.name b.1 b.2.2) = true := by decide +kernel
set_option maxRecDepth 100000 in
theorem kc_356_2 : (((inf 356).2.2.drop 12).take 6).all (fun b => chk (mtbs 356).1 (mtbs 356).2.2.2.2 (mtbs 356).2.2.1 (mtbs 356).2.1.name b.1 b.2.2) = true := by decide +kernel
set_option maxRecDepth 100000 in
theorem kc_356_3 : (((inf 356).2.2.drop 18).take 6).all (fun b => chk (mtbs 356).1 (mtbs 356).2.2.2.2 (mtbs 356).2.2.1 (mtbs 356).2.1.name b.1 b.2.2) = true := by decide +kernel
set_option maxRecDepth 100000 in
theorem kc_356_4 : (((inf 356).2.2.drop 24).take 6).all (fun b => chk (mtbs 356).1 (mtbs 356).2.2.2.2 (mtbs 356).2.2.1 (mtbs 356).2.1.name b.1 b.2.2) = true := by decide +kernel
set_option maxRecDepth 100000 in
theorem kc_356_5 : (((inf 356).2.2.drop 30).take 6).all (fun b => chk (mtbs 356).1 (mtbs 356).2.2.2.2 (mtbs 356).2.2.1 (mtbs 356).2.1.name b.1 b.2.2) = true := by decide +kernel
set_option maxRecDepth 100000 in
theorem kc_356_6 : (((inf 356).2.2.drop 36).take 6).all (fun b => chk (mtbs 356).1 (mtbs 356).2.2.2.2 (mtbs 356).2.2.1 (mtbs 356).2.1.name b.1 b.2.2) = true := by decide +kernel
set_option maxRecDepth 100000 in
theorem kc_356_7 : (((inf 356).2.2.drop 42).take 6).all (fun b => chk (mtbs 356).1 (mtbs 356).2.2.2.2 (mtbs 356).2.2.1 (mtbs 356).2.1.name b.1 b.2.2) = true := by decide +kernel
set_option maxRecDepth 100000 in
theorem kc_356_8 : (((inf 356).2.2.drop 48).take 6).all (fun b => chk (mtbs 356).1 (mtbs 356).2.2.2.2 (mtbs 356).2.2.1 (mtbs 356).2.1.name b.1 b.2.2) = true := by decide +kernel
set_option maxRecDepth 100000 in
theorem kc_356_9 : (((inf 356).2.2.drop 54).take 6).all (fun b => chk (mtbs 356).1 (mtbs 356).2.2.2.2 (mtbs 356).2.2.1 (mtbs 356).2.1.name b.1 b.2.2) = true := by decide +kernel
set_option maxRecDepth 100000 in
theorem kc_356_10 : (((inf 356).2.2.drop 60).take 6).all (fun b => chk (mtbs 356).1 (mtbs 356).2.2.2.2 (mtbs 356).2.2.1 (mtbs 356).2.1.name b.1 b.2.2) = true := by decide +kernel
set_option maxRecDepth 100000 in
theorem kc_356_11 : (((inf 356).2.2.drop 66).take 6).all (fun b => chk (mtbs 356).1 (mtbs 356).2.2.2.2 (mtbs 356).2.2.1 (mtbs 356).2.1.name b.1 b.2.2) = true := by decide +kernel
set_option maxRecDepth 100000 in
theorem kc_356_12 : (((inf 356).2.2.drop 72).take 6).all (fun b => chk (mtbs 356).1 (mtbs 356).2.2.2.2 (mtbs 356).2.2.1 (mtbs 356).2.1.name b.1 b.2.2) = true := by decide +kernel
set_option maxRecDepth 100000 in
theorem kc_356_13 : (((inf 356).2.2.drop 78).take 6).all (fun b => chk (mtbs 356).1 (mtbs 356).2.2.2.2 (mtbs 356).2.2.1 (mtbs 356).2.1.name b.1 b.2.2) = true := by decide +kernel
set_option maxRecDepth 100000 in
theorem kc_356_14 : (((inf 356).2.2.drop 84).take 6).all (fun b => chk (mtbs 356).1 (mtbs 356).2.2.2.2 (mtbs 356).2.2.1 (mtbs 356).2.1.name b.1 b.2.2) = true := by decide +kernel
set_option maxRecDepth 100000 in
theorem kc_356_15 : (((inf 356).2.2.drop 90).take 6).all (fun b => chk (mtbs 356).1 (mtbs 356).2.2.2.2 (mtbs 356).2.2.1 (mtbs 356).2.1.name b.1 b.2.2) = true := by decide +kernel
set_option maxRecDepth 100000 in
theorem kc_356_16 : (((inf 356).2.2.drop 96).take 6).all (fun b => chk (mtbs 356).1 (mtbs 356).2.2.2.2 (mtbs 356).2.2.1 (mtbs 356).2.1.name b.1 b.2.2) = true := by decide +kernel
set_option maxRecDepth 100000 in
theorem kc_356_17 : (((inf 356).2.2.drop 102).take 6).all (fun b => chk (mtbs 356).1 (mtbs 356).2.2.2.2 (mtbs 356).2.2.1 (mtbs 356).2.1.name b.1 b.2.2) = true := by decide +kernel
set_option maxRecDepth 100000 in
theorem kc_356_18 : (((inf 356).2.2.drop 108).take 6).all (fun b => chk (mtbs 356).1 (mtbs 356).2.2.2.2 (mtbs 356).2.2.1 (mtbs 356).2.1.name b.1 b.2.2) = true := by decide +kernel
set_option maxRecDepth 100000 in
theorem kc_356_19 : (((inf 356).2.2.drop 114).take 6).all (fun b => chk (mtbs 356).1 (mtbs 356).2.2.2.2 (mtbs 356).2.2.1 (mtbs 356).2.1.name b.1 b.2.2) = true := by decide +kernel
set_option maxRecDepth 100000 in
theorem kc_356_20 : (((inf 356).2.2.drop 120).take 6).all (fun b => chk (mtbs 356).1 (mtbs 356).2.2.2.2 (mtbs 356).2.2.1 (mtbs 356).2.1.name b.1 b.2.2) = true := by decide +kernel
set_option maxRecDepth 100000 in
theorem kc_356_21 : (((inf 356).2.2.drop 126).take 6).all (fun b => chk (mtbs 356).1 (mtbs 356).2.2.2.2 (mtbs 356).2.2.1 (mtbs 356).2.1.name b.1 b.2.2) = true := by decide +kernel
set_option maxRecDepth 100000 in
theorem kc_356_22 : (((inf 356).2.2.drop 132).take 6).all (fun b => chk (mtbs 356).1 (mtbs 356).2.2.2.2 (mtbs 356).2.2.1 (mtbs 356).2.1.name b.1 b.2.2) = true := by decide +kernel
set_option maxRecDepth 100000 in
theorem kc_356_23 : (((inf 356).2.2.drop 138).take 6).all (fun b => chk (mtbs 356).1 (mtbs 356).2.2.2.2 (mtbs 356).2.2.1 (mtbs 356).2.1.name b.1 b.2.2) = true := by decide +kernel
set_option maxRecDepth 100000 in
theorem kc_356_24 : (((inf 356).2.2.drop 144).take 6).all (fun b => chk (mtbs 356).1 (mtbs 356).2.2.2.2 (mtbs 356).2.2.1 (mtbs 356).2.1.name b.1 b.2.2) = true := by decide +kernel
set_option maxRecDepth 100000 in
theorem kc_356_25 : (((inf 356).2.2.drop 150).take 6).all (fun b => chk (mtbs 356).1 (mtbs 356).2.2.2.2 (mtbs 356).2.2.1 (mtbs 356).2.1.name b.1 b.2.2) = true := by decide +kernel
set_option maxRecDepth 100000 in
theorem kc_356_26 : (((inf 356).2.2.drop 156).take 6).all (fun b => chk (mtbs 356).1 (mtbs 356).2.2.2.2 (mtbs 356).2.2.1 (mtbs 356).2.1.name b.1 b.2.2) = true := by decide +kernel
set_option maxRecDepth 100000 in
theorem kc_356_27 : (((inf 356).2.2.drop 162).take 6).all (fun b => chk (mtbs 356).1 (mtbs 356).2.2.2.2 (mtbs 356).2.2.1 (mtbs 356).2.1.name b.1 b.2.2) = true := by decide +kernel
set_option maxRecDepth 100000 in
theorem kc_356_28 : (((inf 356).2.2.drop 168).take 6).all (fun b => chk (mtbs 356).1 (mtbs 356).2.2.2.2 (mtbs 356).2.2.1 (mtbs 356).2.1.name b.1 b.2.2) = true := by decide +kernel
set_option maxRecDepth 100000 in
theorem kc_356_29 : (((inf 356).2.2.drop 174).take 6).all (fun b => chk (mtbs 356).1 (mtbs 356).2.2.2.2 (mtbs 356).2.2.1 (mtbs 356).2.1.name b.1 b.2.2) = true := by decide +kernel
set_option maxRecDepth 100000 in
theorem kc_356_30 : (((inf 356).2.2.drop 180).take 6).all (fun b => chk (mtbs 356).1 (mtbs 356).2.2.2.2 (mtbs 356).2.2.1 (mtbs 356).2.1.name b.1 b.2.2) = true := by decide +kernel
set_option maxRecDepth 100000 in
theorem kc_356_31 : (((inf 356).2.2.drop 186).take 6).all (fun b => chk (mtbs 356).1 (mtbs 356).2.2.2.2 (mtbs 356).2.2.1 (mtbs 356).2.1.name b.1 b.2.2) = true := by decide +kernel
set_option maxRecDepth 100000 in
theorem kc_356_32 : (((inf 356).2.2.drop 192).take 6).all (fun b => chk (mtbs 356).1 (mtbs 356).2.2.2.2 (mtbs 356).2.2.1 (mtbs 356).2.1.name b.1 b.2.2) = true := by decide +kernel
set_option maxRecDepth 100000 in
theorem kc_356_33 : (((inf 356).2.2.drop 198).take 6).all (fun b => chk (mtbs 356).1 (mtbs 356).2.2.2.2 (mtbs 356).2.2.1 (mtbs 356).2.1.name b.1 b.2.2) = true := by decide +kernel
set_option maxRecDepth 100000 in
theorem kc_356_34 : (((inf 356).2.2.drop 204).take 6).all (fun b => chk (mtbs 356).1 (mtbs 356).2.2.2.2 (mtbs 356).2.2.1 (mtbs 356).2.1.name b.1 b.2.2) = true := by decide +kernel
set_option maxRecDepth 100000 in
theorem kc_356_35 : (((inf 356).2.2.drop 210).take 6).all (fun b => chk (mtbs 356).1 (mtbs 356).2.2.2.2 (mtbs 356).2.2.1 (mtbs 356).2.1.name b.1 b.2.2) = true := by decide +kernel
set_option maxRecDepth 100000 in
theorem kc_356_36 : (((inf 356).2.2.drop 216).take 6).all (fun b => chk (mtbs 356).1 (mtbs 356).2.2.2.2 (mtbs 356).2.2.1 (mtbs 356).2.1.name b.1 b.2.2) = true := by decide +kernel
set_option maxRecDepth 100000 in
theorem kc_356_37 : (((inf 356).2.2.drop 222).take 6).all (fun b => chk (mtbs 356).1 (mtbs 356).2.2.2.2 (mtbs 356).2.2.1 (mtbs 356).2.1.name b.1 b.2.2) = true := by decide +kernel
set_option maxRecDepth 100000 in
theorem kc_356_38 : (((inf 356).2.2.drop 228).take 6).all (fun b => chk (mtbs 356).1 (mtbs 356).2.2.2.2 (mtbs 356).2.2.1 (mtbs 356).2.1.name b.1 b.2.2) = true := by decide +kernel
set_option maxRecDepth 100000 in
theorem kc_356_39 : (((inf 356).2.2.drop 234).take 6).all (fun b => chk (mtbs 356).1 (mtbs 356).2.2.2.2 (mtbs 356).2.2.1 (mtbs 356).2.1.name b.1 b.2.2) = true := by decide +kernel
set_option maxRecDepth 100000 in
theorem kc_356_40 : (((inf 356).2.2.drop 240).take 6).all (fun b => chk (mtbs 356).1 (mtbs 356).2.2.2.2 (mtbs 356).2.2.1 (mtbs 356).2.1.name b.1 b.2.2) = true := by decide +kernel
set_option maxRecDepth 100000 in
theorem kc_356_41 : (((inf 356).2.2.drop 246).take 6).all (fun b => chk (mtbs 356).1 (mtbs 356).2.2.2.2 (mtbs 356).2.2.1 (mtbs 356).2.1.name b.1 b.2.2) = true := by decide +kernel
set_option maxRecDepth 100000 in
theorem kc_356_42 : (((inf 356).2.2.drop 252).take 6).all (fun b => chk (mtbs 356).1 (mtbs 356).2.2.2.2 (mtbs 356).2.2.1 (mtbs 356).2.1.name b.1 b.2.2) = true := by decide +kernel
set_option maxRecDepth 100000 in
theorem kc_356_43 : (((inf 356).2.2.drop 258).take 6).all (fun b => chk (mtbs 356).1 (mtbs 356).2.2.2.2 (mtbs 356).2.2.1 (mtbs 356).2.1.name b.1 b.2.2) = true := by decide +kernel
set_option maxRecDepth 100000 in
theorem kc_356_44 : (((inf 356).2.2.drop 264).take 6).all (fun b => chk (mtbs 356).1 (mtbs 356).2.2.2.2 (mtbs 356).2.2.1 (mtbs 356).2.1.name b.1 b.2.2) = true := by decide +kernel
set_option maxRecDepth 100000 in
theorem kc_356_45 : (((inf 356).2.2.drop 270).take 6).all (fun b => chk (mtbs 356).1 (mtbs 356).2.2.2.2 (mtbs 356).2.2.1 (mtbs 356).2.1.name b.1 b.2.2) = true := by decide +kernel
set_option maxRecDepth 100000 in
theorem kc_356_46 : (((inf 356).2.2.drop 276).take 6).all (fun b => chk (mtbs 356).1 (mtbs 356).2.2.2.2 (mtbs 356).2.2.1 (mtbs 356).2.1.name b.1 b.2.2) = true := by decide +kernel
set_option maxRecDepth 100000 in
theorem kc_356_47 : (((inf 356).2.2.drop 282).take 6).all (fun b => chk (mtbs 356).1 (mtbs 356).2.2.2.2 (mtbs 356).2.2.1 (mtbs 356).2.1.name b.1 b.2.2) = true := by decide +kernel
set_option maxRecDepth 100000 in
theorem kc_356_48 : (((inf 356).2.2.drop 288).take 6).all (fun b => chk (mtbs 356).1 (mtbs 356).2.2.2.2 (mtbs 356).2.2.1 (mtbs 356).2.1.name b.1 b.2.2) = true := by decide +kernel
set_option maxRecDepth 100000 in
theorem kc_356_49 : (((inf 356).2.2.drop 294).take 6).all (fun b => chk (mtbs 356).1 (mtbs 356).2.2.2.2 (mtbs 356).2.2.1 (mtbs 356).2.1.name b.1 b.2.2) = true := by decide +kernel
set_option maxRecDepth 100000 in
theorem kc_356_50 : (((inf 356).2.2.drop 300).take 6).all (fun b => chk (mtbs 356).1 (mtbs 356).2.2.2.2 (mtbs 356).2.2.1 (mtbs 356).2.1.name b.1 b.2.2) = true := by decide +kernel
set_option maxRecDepth 100000 in
theorem kc_356_51 : (((inf 356).2.2.drop 306).take 6).all (fun b => chk (mtbs 356).1 (mtbs 356).2.2.2.2 (mtbs 356).2.2.1 (mtbs 356).2.1.name b.1 b.2.2) = true := by decide +kernel
set_option maxRecDepth 100000 in
theorem kc_356_52 : (((inf 356).2.2.drop 312).take 6).all (fun b => chk (mtbs 356).1 (mtbs 356).2.2.2.2 (mtbs 356).2.2.1 (mtbs 356).2.1.name b.1 b.2.2) = true := by decide +kernel
set_option maxRecDepth 100000 in
theorem kc_356_53 : (((inf 356).2.2.drop 318).take 6).all (fun b => chk (mtbs 356).1 (mtbs 356).2.2.2.2 (mtbs 356).2.2.1 (mtbs 356).2.1.name b.1 b.2.2) = true := by decide +kernel
set_option maxRecDepth 100000 in
theorem kc_356_54 : (((inf 356).2.2.drop 324).take 6).all (fun b => chk (mtbs 356).1 (mtbs 356).2.2.2.2 (mtbs 356).2.2.1 (mtbs 356).2.1.name b.1 b.2.2) = true := by decide +kernel
set_option maxRecDepth 100000 in
theorem kc_356_55 : (((inf 356).2.2.drop 330).take 6).all (fun b => chk (mtbs 356).1 (mtbs 356).2.2.2.2 (mtbs 356).2.2.1 (mtbs 356).2.1.name b.1 b.2.2) = true := by decide +kernel
set_option maxRecDepth 100000 in
theorem kc_356_56 : (((inf 356).2.2.drop 336).take 6).all (fun b => chk (mtbs 356).1 (mtbs 356).2.2.2.2 (mtbs 356).2.2.1 (mtbs 356).2.1.name b.1 b.2.2) = true := by decide +kernel
set_option maxRecDepth 100000 in
theorem kc_356_57 : (((inf 356).2.2.drop 342).take 6).all (fun b => chk (mtbs 356).1 (mtbs 356).2.2.2.2 (mtbs 356).2.2.1 (mtbs 356).2.1.name b.1 b.2.2) = true := by decide +kernel
set_option maxRecDepth 100000 in
theorem kc_356_58 : (((inf 356).2.2.drop 348).take 6).all (fun b => chk (mtbs 356).1 (mtbs 356).2.2.2.2 (mtbs 356).2.2.1 (mtbs 356).2.1.name b.1 b.2.2) = true := by decide +kernel
set_option maxRecDepth 100000 in
theorem kc_356_59 : (((inf 356).2.2.drop 354).take 6).all (fun b => chk (mtbs 356).1 (mtbs 356).2.2.2.2 (mtbs 356).2.2.1 (mtbs 356).2.1.name b.1 b.2.2) = true := by decide +kernel
set_option maxRecDepth 100000 in
theorem kc_356_60 : ((inf 356).2.2.drop 360).all (fun b => chk (mtbs 356).1 (mtbs 356).2.2.2.2 (mtbs 356).2.2.1 (mtbs 356).2.1.name b.1 b.2.2) = true := by decide +kernel
theorem kc_356 : chkM 356 = true := by
  have h := (ck_cut 6 kc_356_0 (by rw [List.drop_drop]; exact (ck_cut 6 kc_356_1 (by rw [List.drop_drop]; exact (ck_cut 6 kc_356_2 (by rw [List.drop_drop]; exact (ck_cut 6 kc_356_3 (by rw [List.drop_drop]; exact (ck_cut 6 kc_356_4 (by rw [List.drop_drop]; exact (ck_cut 6 kc_356_5 (by rw [List.drop_drop]; exact (ck_cut 6 kc_356_6 (by rw [List.drop_drop]; exact (ck_cut 6 kc_356_7 (by rw [List.drop_drop]; exact (ck_cut 6 kc_356_8 (by rw [List.drop_drop]; exact (ck_cut 6 kc_356_9 (by rw [List.drop_drop]; exact (ck_cut 6 kc_356_10 (by rw [List.drop_drop]; exact (ck_cut 6 kc_356_11 (by rw [List.drop_drop]; exact (ck_cut 6 kc_356_12 (by rw [List.drop_drop]; exact (ck_cut 6 kc_356_13 (by rw [List.drop_drop]; exact (ck_cut 6 kc_356_14 (by rw [List.drop_drop]; exact (ck_cut 6 kc_356_15 (by rw [List.drop_drop]; exact (ck_cut 6 kc_356_16 (by rw [List.drop_drop]; exact (ck_cut 6 kc_356_17 (by rw [List.drop_drop]; exact (ck_cut 6 kc_356_18 (by rw [List.drop_drop]; exact (ck_cut 6 kc_356_19 (by rw [List.drop_drop]; exact (ck_cut 6 kc_356_20 (by rw [List.drop_drop]; exact (ck_cut 6 kc_356_21 (by rw [List.drop_drop]; exact (ck_cut 6 kc_356_22 (by rw [List.drop_drop]; exact (ck_cut 6 kc_356_23 (by rw [List.drop_drop]; exact (ck_cut 6 kc_356_24 (by rw [List.drop_drop]; exact (ck_cut 6 kc_356_25 (by rw [List.drop_drop]; exact (ck_cut 6 kc_356_26 (by rw [List.drop_drop]; exact (ck_cut 6 kc_356_27 (by rw [List.drop_drop]; exact (ck_cut 6 kc_356_28 (by rw [List.drop_drop]; exact (ck_cut 6 kc_356_29 (by rw [List.drop_drop]; exact (ck_cut 6 kc_356_30 (by rw [List.drop_drop]; exact (ck_cut 6 kc_356_31 (by rw [List.drop_drop]; exact (ck_cut 6 kc_356_32 (by rw [List.drop_drop]; exact (ck_cut 6 kc_356_33 (by rw [List.drop_drop]; exact (ck_cut 6 kc_356_34 (by rw [List.drop_drop]; exact (ck_cut 6 kc_356_35 (by rw [List.drop_drop]; exact (ck_cut 6 kc_356_36 (by rw [List.drop_drop]; exact (ck_cut 6 kc_356_37 (by rw [List.drop_drop]; exact (ck_cut 6 kc_356_38 (by rw [List.drop_drop]; exact (ck_cut 6 kc_356_39 (by rw [List.drop_drop]; exact (ck_cut 6 kc_356_40 (by rw [List.drop_drop]; exact (ck_cut 6 kc_356_41 (by rw [List.drop_drop]; exact (ck_cut 6 kc_356_42 (by rw [List.drop_drop]; exact (ck_cut 6 kc_356_43 (by rw [List.drop_drop]; exact (ck_cut 6 kc_356_44 (by rw [List.drop_drop]; exact (ck_cut 6 kc_356_45 (by rw [List.drop_drop]; exact (ck_cut 6 kc_356_46 (by rw [List.drop_drop]; exact (ck_cut 6 kc_356_47 (by rw [List.drop_drop]; exact (ck_cut 6 kc_356_48 (by rw [List.drop_drop]; exact (ck_cut 6 kc_356_49 (by rw [List.drop_drop]; exact (ck_cut 6 kc_356_50 (by rw [List.drop_drop]; exact (ck_cut 6 kc_356_51 (by rw [List.drop_drop]; exact (ck_cut 6 kc_356_52 (by rw [List.drop_drop]; exact (ck_cut 6 kc_356_53 (by rw [List.drop_drop]; exact (ck_cut 6 kc_356_54 (by rw [List.drop_drop]; exact (ck_cut 6 kc_356_55 (by rw [List.drop_drop]; exact (ck_cut 6 kc_356_56 (by rw [List.drop_drop]; exact (ck_cut 6 kc_356_57 (by rw [List.drop_drop]; exact (ck_cut 6 kc_356_58 (by rw [List.drop_drop]; exact (ck_cut 6 kc_356_59 (by rw [List.drop_drop]; exact kc_356_60))))))))))))))))))))))))))))))))))))))))))))))))))))))))))))))))))))))))))))))))))))))))))))))))))))))))))))))))))))))))
  exact h
theorem kcr_8 : ∀ m, 320 ≤ m → m < 357 → chkM m = true := by
  intro m h1 h2
  obtain ⟨k, rfl⟩ := Nat.exists_eq_add_of_le h1
  match k, h2 with
  | 0, _ => exact kc_320
  | 1, _ => exact kc_321
  | 2, _ => exact kc_322
  | 3, _ => exact kc_323
  | 4, _ => exact kc_324
  | 5, _ => exact kc_325
  | 6, _ => exact kc_326
  | 7, _ => exact kc_327
  | 8, _ => exact kc_328
  | 9, _ => exact kc_329
  | 10, _ => exact kc_330
  | 11, _ => exact kc_331
  | 12, _ => exact kc_332
  | 13, _ => exact kc_333
  | 14, _ => exact kc_334
  | 15, _ => exact kc_335
  | 16, _ => exact kc_336
  | 17, _ => exact kc_337
  | 18, _ => exact kc_338
  | 19, _ => exact kc_339
  | 20, _ => exact kc_340
  | 21, _ => exact kc_341
  | 22, _ => exact kc_342
  | 23, _ => exact kc_343
  | 24, _ => exact kc_344
  | 25, _ => exact kc_345
  | 26, _ => exact kc_346
  | 27, _ => exact kc_347
  | 28, _ => exact kc_348
  | 29, _ => exact kc_349
  | 30, _ => exact kc_350
  | 31, _ => exact kc_351
  | 32, _ => exact kc_352
  | 33, _ => exact kc_353
  | 34, _ => exact kc_354
  | 35, _ => exact kc_355
  | 36, _ => exact kc_356
  | k + 37, h => exact absurd h (by omega)
theorem kc_all (g : Nat) (h : g < 357) : chkM g = true := by
  by_cases h0 : g < 40
  · exact kcr_0 g (by omega) h0
  by_cases h1 : g < 80
  · exact kcr_1 g (by omega) h1
  by_cases h2 : g < 120
  · exact kcr_2 g (by omega) h2
  by_cases h3 : g < 160
  · exact kcr_3 g (by omega) h3
  by_cases h4 : g < 200
  · exact kcr_4 g (by omega) h4
  by_cases h5 : g < 240
  · exact kcr_5 g (by omega) h5
  by_cases h6 : g < 280
  · exact kcr_6 g (by omega) h6
  by_cases h7 : g < 320
  · exact kcr_7 g (by omega) h7
  exact kcr_8 g (by omega) h

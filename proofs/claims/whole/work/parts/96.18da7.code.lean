/-! decided: the code of every method, 7 (own work) -/
set_option maxRecDepth 100000 in
theorem kc_280 : chkM 280 = true := by decide +kernel
set_option maxRecDepth 100000 in
theorem kc_281 : chkM 281 = true := by decide +kernel
set_option maxRecDepth 100000 in
theorem kc_282 : chkM 282 = true := by decide +kernel
set_option maxRecDepth 100000 in
theorem kc_283 : chkM 283 = true := by decide +kernel
set_option maxRecDepth 100000 in
theorem kc_284 : chkM 284 = true := by decide +kernel
set_option maxRecDepth 100000 in
theorem kc_285 : chkM 285 = true := by decide +kernel
set_option maxRecDepth 100000 in
theorem kc_286 : chkM 286 = true := by decide +kernel
set_option maxRecDepth 100000 in
theorem kc_287 : chkM 287 = true := by decide +kernel
set_option maxRecDepth 100000 in
theorem kc_288 : chkM 288 = true := by decide +kernel
set_option maxRecDepth 100000 in
theorem kc_289 : chkM 289 = true := by decide +kernel
set_option maxRecDepth 100000 in
theorem kc_290 : chkM 290 = true := by decide +kernel
set_option maxRecDepth 100000 in
theorem kc_291 : chkM 291 = true := by decide +kernel
set_option maxRecDepth 100000 in
theorem kc_292 : chkM 292 = true := by decide +kernel
set_option maxRecDepth 100000 in
theorem kc_293 : chkM 293 = true := by decide +kernel
set_option maxRecDepth 100000 in
theorem kc_294 : chkM 294 = true := by decide +kernel
set_option maxRecDepth 100000 in
theorem kc_295 : chkM 295 = true := by decide +kernel
set_option maxRecDepth 100000 in
theorem kc_296 : chkM 296 = true := by decide +kernel
set_option maxRecDepth 100000 in
theorem kc_297 : chkM 297 = true := by decide +kernel
set_option maxRecDepth 100000 in
theorem kc_298 : chkM 298 = true := by decide +kernel
set_option maxRecDepth 100000 in
theorem kc_299 : chkM 299 = true := by decide +kernel
set_option maxRecDepth 100000 in
theorem kc_300 : chkM 300 = true := by decide +kernel
set_option maxRecDepth 100000 in
theorem kc_301 : chkM 301 = true := by decide +kernel
set_option maxRecDepth 100000 in
theorem kc_302 : chkM 302 = true := by decide +kernel
set_option maxRecDepth 100000 in
theorem kc_303 : chkM 303 = true := by decide +kernel
set_option maxRecDepth 100000 in
theorem kc_304 : chkM 304 = true := by decide +kernel
set_option maxRecDepth 100000 in
theorem kc_305 : chkM 305 = true := by decide +kernel
set_option maxRecDepth 100000 in
theorem kc_306 : chkM 306 = true := by decide +kernel
set_option maxRecDepth 100000 in
theorem kc_307 : chkM 307 = true := by decide +kernel
set_option maxRecDepth 100000 in
theorem kc_308 : chkM 308 = true := by decide +kernel
set_option maxRecDepth 100000 in
theorem kc_309 : chkM 309 = true := by decide +kernel
set_option maxRecDepth 100000 in
theorem kc_310 : chkM 310 = true := by decide +kernel
set_option maxRecDepth 100000 in
theorem kc_311 : chkM 311 = true := by decide +kernel
set_option maxRecDepth 100000 in
theorem kc_312 : chkM 312 = true := by decide +kernel
set_option maxRecDepth 100000 in
theorem kc_313 : chkM 313 = true := by decide +kernel
set_option maxRecDepth 100000 in
theorem kc_314 : chkM 314 = true := by decide +kernel
set_option maxRecDepth 100000 in
theorem kc_315 : chkM 315 = true := by decide +kernel
set_option maxRecDepth 100000 in
theorem kc_316 : chkM 316 = true := by decide +kernel
set_option maxRecDepth 100000 in
theorem kc_317 : chkM 317 = true := by decide +kernel
set_option maxRecDepth 100000 in
theorem kc_318 : chkM 318 = true := by decide +kernel
set_option maxRecDepth 100000 in
theorem kc_319 : chkM 319 = true := by decide +kernel
theorem kcr_7 : ∀ m, 280 ≤ m → m < 320 → chkM m = true := by
  intro m h1 h2
  obtain ⟨k, rfl⟩ := Nat.exists_eq_add_of_le h1
  match k, h2 with
  | 0, _ => exact kc_280
  | 1, _ => exact kc_281
  | 2, _ => exact kc_282
  | 3, _ => exact kc_283
  | 4, _ => exact kc_284
  | 5, _ => exact kc_285
  | 6, _ => exact kc_286
  | 7, _ => exact kc_287
  | 8, _ => exact kc_288
  | 9, _ => exact kc_289
  | 10, _ => exact kc_290
  | 11, _ => exact kc_291
  | 12, _ => exact kc_292
  | 13, _ => exact kc_293
  | 14, _ => exact kc_294
  | 15, _ => exact kc_295
  | 16, _ => exact kc_296
  | 17, _ => exact kc_297
  | 18, _ => exact kc_298
  | 19, _ => exact kc_299
  | 20, _ => exact kc_300
  | 21, _ => exact kc_301
  | 22, _ => exact kc_302
  | 23, _ => exact kc_303
  | 24, _ => exact kc_304
  | 25, _ => exact kc_305
  | 26, _ => exact kc_306
  | 27, _ => exact kc_307
  | 28, _ => exact kc_308
  | 29, _ => exact kc_309
  | 30, _ => exact kc_310
  | 31, _ => exact kc_311
  | 32, _ => exact kc_312
  | 33, _ => exact kc_313
  | 34, _ => exact kc_314
  | 35, _ => exact kc_315
  | 36, _ => exact kc_316
  | 37, _ => exact kc_317
  | 38, _ => exact kc_318
  | 39, _ => exact kc_319
  | k + 40, h => exact absurd h (by omega)

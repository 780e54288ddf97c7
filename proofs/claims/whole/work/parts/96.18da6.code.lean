/-! decided: the code of every method, 6 (own work) -/
set_option maxRecDepth 100000 in
theorem kc_240 : chkM 240 = true := by decide +kernel
set_option maxRecDepth 100000 in
theorem kc_241 : chkM 241 = true := by decide +kernel
set_option maxRecDepth 100000 in
theorem kc_242 : chkM 242 = true := by decide +kernel
set_option maxRecDepth 100000 in
theorem kc_243 : chkM 243 = true := by decide +kernel
set_option maxRecDepth 100000 in
theorem kc_244_0 : (((inf 244).2.2.drop 0).take 6).all (fun b => chk (mtbs 244).1 (mtbs 244).2.2.2.2 (mtbs 244).2.2.1 (mtbs 244).2.1.name b.1 b.2.2) = true := by decide +kernel
set_option maxRecDepth 100000 in
theorem kc_244_1 : (((inf 244).2.2.drop 6).take 6).all (fun b => chk (mtbs 244).1 (mtbs 244).2.2.2.2 (mtbs 244).2.2.1 (mtbs 244).2.1.name b.1 b.2.2) = true := by decide +kernel
set_option maxRecDepth 100000 in
theorem kc_244_2 : (((inf 244).2.2.drop 12).take 6).all (fun b => chk (mtbs 244).1 (mtbs 244).2.2.2.2 (mtbs 244).2.2.1 (mtbs 244).2.1.name b.1 b.2.2) = true := by decide +kernel
set_option maxRecDepth 100000 in
theorem kc_244_3 : (((inf 244).2.2.drop 18).take 6).all (fun b => chk (mtbs 244).1 (mtbs 244).2.2.2.2 (mtbs 244).2.2.1 (mtbs 244).2.1.name b.1 b.2.2) = true := by decide +kernel
set_option maxRecDepth 100000 in
theorem kc_244_4 : (((inf 244).2.2.drop 24).take 6).all (fun b => chk (mtbs 244).1 (mtbs 244).2.2.2.2 (mtbs 244).2.2.1 (mtbs 244).2.1.name b.1 b.2.2) = true := by decide +kernel
set_option maxRecDepth 100000 in
theorem kc_244_5 : (((inf 244).2.2.drop 30).take 6).all (fun b => chk (mtbs 244).1 (mtbs 244).2.2.2.2 (mtbs 244).2.2.1 (mtbs 244).2.1.name b.1 b.2.2) = true := by decide +kernel
set_option maxRecDepth 100000 in
theorem kc_244_6 : ((inf 244).2.2.drop 36).all (fun b => chk (mtbs 244).1 (mtbs 244).2.2.2.2 (mtbs 244).2.2.1 (mtbs 244).2.1.name b.1 b.2.2) = true := by decide +kernel
theorem kc_244 : chkM 244 = true := by
  have h := (ck_cut 6 kc_244_0 (by rw [List.drop_drop]; exact (ck_cut 6 kc_244_1 (by rw [List.drop_drop]; exact (ck_cut 6 kc_244_2 (by rw [List.drop_drop]; exact (ck_cut 6 kc_244_3 (by rw [List.drop_drop]; exact (ck_cut 6 kc_244_4 (by rw [List.drop_drop]; exact (ck_cut 6 kc_244_5 (by rw [List.drop_drop]; exact kc_244_6))))))))))))
  exact h
set_option maxRecDepth 100000 in
theorem kc_245 : chkM 245 = true := by decide +kernel
set_option maxRecDepth 100000 in
theorem kc_246 : chkM 246 = true := by decide +kernel
set_option maxRecDepth 100000 in
theorem kc_247_0 : (((inf 247).2.2.drop 0).take 6).all (fun b => chk (mtbs 247).1 (mtbs 247).2.2.2.2 (mtbs 247).2.2.1 (mtbs 247).2.1.name b.1 b.2.2) = true := by decide +kernel
set_option maxRecDepth 100000 in
theorem kc_247_1 : (((inf 247).2.2.drop 6).take 6).all (fun b => chk (mtbs 247).1 (mtbs 247).2.2.2.2 (mtbs 247).2.2.1 (mtbs 247).2.1.name b.1 b.2.2) = true := by decide +kernel
set_option maxRecDepth 100000 in
theorem kc_247_2 : (((inf 247).2.2.drop 12).take 6).all (fun b => chk (mtbs 247).1 (mtbs 247).2.2.2.2 (mtbs 247).2.2.1 (mtbs 247).2.1.name b.1 b.2.2) = true := by decide +kernel
set_option maxRecDepth 100000 in
theorem kc_247_3 : (((inf 247).2.2.drop 18).take 6).all (fun b => chk (mtbs 247).1 (mtbs 247).2.2.2.2 (mtbs 247).2.2.1 (mtbs 247).2.1.name b.1 b.2.2) = true := by decide +kernel
set_option maxRecDepth 100000 in
theorem kc_247_4 : (((inf 247).2.2.drop 24).take 6).all (fun b => chk (mtbs 247).1 (mtbs 247).2.2.2.2 (mtbs 247).2.2.1 (mtbs 247).2.1.name b.1 b.2.2) = true := by decide +kernel
set_option maxRecDepth 100000 in
theorem kc_247_5 : (((inf 247).2.2.drop 30).take 6).all (fun b => chk (mtbs 247).1 (mtbs 247).2.2.2.2 (mtbs 247).2.2.1 (mtbs 247).2.1.name b.1 b.2.2) = true := by decide +kernel
set_option maxRecDepth 100000 in
theorem kc_247_6 : (((inf 247).2.2.drop 36).take 6).all (fun b => chk (mtbs 247).1 (mtbs 247).2.2.2.2 (mtbs 247).2.2.1 (mtbs 247).2.1.name b.1 b.2.2) = true := by decide +kernel
set_option maxRecDepth 100000 in
theorem kc_247_7 : (((inf 247).2.2.drop 42).take 6).all (fun b => chk (mtbs 247).1 (mtbs 247).2.2.2.2 (mtbs 247).2.2.1 (mtbs 247).2.1.name b.1 b.2.2) = true := by decide +kernel
set_option maxRecDepth 100000 in
theorem kc_247_8 : ((inf 247).2.2.drop 48).all (fun b => chk (mtbs 247).1 (mtbs 247).2.2.2.2 (mtbs 247).2.2.1 (mtbs 247).2.1.name b.1 b.2.2) = true := by decide +kernel
theorem kc_247 : chkM 247 = true := by
  have h := (ck_cut 6 kc_247_0 (by rw [List.drop_drop]; exact (ck_cut 6 kc_247_1 (by rw [List.drop_drop]; exact (ck_cut 6 kc_247_2 (by rw [List.drop_drop]; exact (ck_cut 6 kc_247_3 (by rw [List.drop_drop]; exact (ck_cut 6 kc_247_4 (by rw [List.drop_drop]; exact (ck_cut 6 kc_247_5 (by rw [List.drop_drop]; exact (ck_cut 6 kc_247_6 (by rw [List.drop_drop]; exact (ck_cut 6 kc_247_7 (by rw [List.drop_drop]; exact kc_247_8))))))))))))))))
  exact h
set_option maxRecDepth 100000 in
theorem kc_248 : chkM 248 = true := by decide +kernel
set_option maxRecDepth 100000 in
theorem kc_249 : chkM 249 = true := by decide +kernel
set_option maxRecDepth 100000 in
theorem kc_250 : chkM 250 = true := by decide +kernel
set_option maxRecDepth 100000 in
theorem kc_251 : chkM 251 = true := by decide +kernel
set_option maxRecDepth 100000 in
theorem kc_252 : chkM 252 = true := by decide +kernel
set_option maxRecDepth 100000 in
theorem kc_253 : chkM 253 = true := by decide +kernel
set_option maxRecDepth 100000 in
theorem kc_254 : chkM 254 = true := by decide +kernel
set_option maxRecDepth 100000 in
theorem kc_255 : chkM 255 = true := by decide +kernel
set_option maxRecDepth 100000 in
theorem kc_256 : chkM 256 = true := by decide +kernel
set_option maxRecDepth 100000 in
theorem kc_257 : chkM 257 = true := by decide +kernel
set_option maxRecDepth 100000 in
theorem kc_258 : chkM 258 = true := by decide +kernel
set_option maxRecDepth 100000 in
theorem kc_259 : chkM 259 = true := by decide +kernel
set_option maxRecDepth 100000 in
theorem kc_260 : chkM 260 = true := by decide +kernel
set_option maxRecDepth 100000 in
theorem kc_261 : chkM 261 = true := by decide +kernel
set_option maxRecDepth 100000 in
theorem kc_262 : chkM 262 = true := by decide +kernel
set_option maxRecDepth 100000 in
theorem kc_263 : chkM 263 = true := by decide +kernel
set_option maxRecDepth 100000 in
theorem kc_264 : chkM 264 = true := by decide +kernel
set_option maxRecDepth 100000 in
theorem kc_265 : chkM 265 = true := by decide +kernel
set_option maxRecDepth 100000 in
theorem kc_266 : chkM 266 = true := by decide +kernel
set_option maxRecDepth 100000 in
theorem kc_267 : chkM 267 = true := by decide +kernel
set_option maxRecDepth 100000 in
theorem kc_268 : chkM 268 = true := by decide +kernel
set_option maxRecDepth 100000 in
theorem kc_269 : chkM 269 = true := by decide +kernel
set_option maxRecDepth 100000 in
theorem kc_270 : chkM 270 = true := by decide +kernel
set_option maxRecDepth 100000 in
theorem kc_271 : chkM 271 = true := by decide +kernel
set_option maxRecDepth 100000 in
theorem kc_272 : chkM 272 = true := by decide +kernel
set_option maxRecDepth 100000 in
theorem kc_273 : chkM 273 = true := by decide +kernel
set_option maxRecDepth 100000 in
theorem kc_274 : chkM 274 = true := by decide +kernel
set_option maxRecDepth 100000 in
theorem kc_275 : chkM 275 = true := by decide +kernel
set_option maxRecDepth 100000 in
theorem kc_276 : chkM 276 = true := by decide +kernel
set_option maxRecDepth 100000 in
theorem kc_277 : chkM 277 = true := by decide +kernel
set_option maxRecDepth 100000 in
theorem kc_278_0 : (((inf 278).2.2.drop 0).take 6).all (fun b => chk (mtbs 278).1 (mtbs 278).2.2.2.2 (mtbs 278).2.2.1 (mtbs 278).2.1.name b.1 b.2.2) = true := by decide +kernel
set_option maxRecDepth 100000 in
theorem kc_278_1 : (((inf 278).2.2.drop 6).take 6).all (fun b => chk (mtbs 278).1 (mtbs 278).2.2.2.2 (mtbs 278).2.2.1 (mtbs 278).2.1.name b.1 b.2.2) = true := by decide +kernel
set_option maxRecDepth 100000 in
theorem kc_278_2 : (((inf 278).2.2.drop 12).take 6).all (fun b => chk (mtbs 278).1 (mtbs 278).2.2.2.2 (mtbs 278).2.2.1 (mtbs 278).2.1.name b.1 b.2.2) = true := by decide +kernel
set_option maxRecDepth 100000 in
theorem kc_278_3 : (((inf 278).2.2.drop 18).take 6).all (fun b => chk (mtbs 278).1 (mtbs 278).2.2.2.2 (mtbs 278).2.2.1 (mtbs 278).2.1.name b.1 b.2.2) = true := by decide +kernel
set_option maxRecDepth 100000 in
theorem kc_278_4 : (((inf 278).2.2.drop 24).take 6).all (fun b => chk (mtbs 278).1 (mtbs 278).2.2.2.2 (mtbs 278).2.2.1 (mtbs 278).2.1.name b.1 b.2.2) = true := by decide +kernel
set_option maxRecDepth 100000 in
theorem kc_278_5 : (((inf 278).2.2.drop 30).take 6).all (fun b => chk (mtbs 278).1 (mtbs 278).2.2.2.2 (mtbs 278).2.2.1 (mtbs 278).2.1.name b.1 b.2.2) = true := by decide +kernel
set_option maxRecDepth 100000 in
theorem kc_278_6 : (((inf 278).2.2.drop 36).take 6).all (fun b => chk (mtbs 278).1 (mtbs 278).2.2.2.2 (mtbs 278).2.2.1 (mtbs 278).2.1.name b.1 b.2.2) = true := by decide +kernel
set_option maxRecDepth 100000 in
theorem kc_278_7 : ((inf 278).2.2.drop 42).all (fun b => chk (mtbs 278).1 (mtbs 278).2.2.2.2 (mtbs 278).2.2.1 (mtbs 278).2.1.name b.1 b.2.2) = true := by decide +kernel
theorem kc_278 : chkM 278 = true := by
  have h := (ck_cut 6 kc_278_0 (by rw [List.drop_drop]; exact (ck_cut 6 kc_278_1 (by rw [List.drop_drop]; exact (ck_cut 6 kc_278_2 (by rw [List.drop_drop]; exact (ck_cut 6 kc_278_3 (by rw [List.drop_drop]; exact (ck_cut 6 kc_278_4 (by rw [List.drop_drop]; exact (ck_cut 6 kc_278_5 (by rw [List.drop_drop]; exact (ck_cut 6 kc_278_6 (by rw [List.drop_drop]; exact kc_278_7))))))))))))))
  exact h
set_option maxRecDepth 100000 in
theorem kc_279_0 : (((inf 279).2.2.drop 0).take 6).all (fun b => chk (mtbs 279).1 (mtbs 279).2.2.2.2 (mtbs 279).2.2.1 (mtbs 279).2.1.name b.1 b.2.2) = true := by decide +kernel
set_option maxRecDepth 100000 in
theorem kc_279_1 : (((inf 279).2.2.drop 6).take 6).all (fun b => chk (mtbs 279).1 (mtbs 279).2.2.2.2 (mtbs 279).2.2.1 (mtbs 279).2.1.name b.1 b.2.2) = true := by decide +kernel
set_option maxRecDepth 100000 in
theorem kc_279_2 : (((inf 279).2.2.drop 12).take 6).all (fun b => chk (mtbs 279).1 (mtbs 279).2.2.2.2 (mtbs 279).2.2.1 (mtbs 279).2.1.name b.1 b.2.2) = true := by decide +kernel
set_option maxRecDepth 100000 in
theorem kc_279_3 : (((inf 279).2.2.drop 18).take 6).all (fun b => chk (mtbs 279).1 (mtbs 279).2.2.2.2 (mtbs 279).2.2.1 (mtbs 279).2.1.name b.1 b.2.2) = true := by decide +kernel
set_option maxRecDepth 100000 in
theorem kc_279_4 : (((inf 279).2.2.drop 24).take 6).all (fun b => chk (mtbs 279).1 (mtbs 279).2.2.2.2 (mtbs 279).2.2.1 (mtbs 279).2.1.name b.1 b.2.2) = true := by decide +kernel
set_option maxRecDepth 100000 in
theorem kc_279_5 : (((inf 279).2.2.drop 30).take 6).all (fun b => chk (mtbs 279).1 (mtbs 279).2.2.2.2 (mtbs 279).2.2.1 (mtbs 279).2.1.name b.1 b.2.2) = true := by decide +kernel
set_option maxRecDepth 100000 in
theorem kc_279_6 : (((inf 279).2.2.drop 36).take 6).all (fun b => chk (mtbs 279).1 (mtbs 279).2.2.2.2 (mtbs 279).2.2.1 (mtbs 279).2.1.name b.1 b.2.2) = true := by decide +kernel
set_option maxRecDepth 100000 in
theorem kc_279_7 : (((inf 279).2.2.drop 42).take 6).all (fun b => chk (mtbs 279).1 (mtbs 279).2.2.2.2 (mtbs 279).2.2.1 (mtbs 279).2.1.name b.1 b.2.2) = true := by decide +kernel
set_option maxRecDepth 100000 in
theorem kc_279_8 : ((inf 279).2.2.drop 48).all (fun b => chk (mtbs 279).1 (mtbs 279).2.2.2.2 (mtbs 279).2.2.1 (mtbs 279).2.1.name b.1 b.2.2) = true := by decide +kernel
theorem kc_279 : chkM 279 = true := by
  have h := (ck_cut 6 kc_279_0 (by rw [List.drop_drop]; exact (ck_cut 6 kc_279_1 (by rw [List.drop_drop]; exact (ck_cut 6 kc_279_2 (by rw [List.drop_drop]; exact (ck_cut 6 kc_279_3 (by rw [List.drop_drop]; exact (ck_cut 6 kc_279_4 (by rw [List.drop_drop]; exact (ck_cut 6 kc_279_5 (by rw [List.drop_drop]; exact (ck_cut 6 kc_279_6 (by rw [List.drop_drop]; exact (ck_cut 6 kc_279_7 (by rw [List.drop_drop]; exact kc_279_8))))))))))))))))
  exact h
theorem kcr_6 : ∀ m, 240 ≤ m → m < 280 → chkM m = true := by
  intro m h1 h2
  obtain ⟨k, rfl⟩ := Nat.exists_eq_add_of_le h1
  match k, h2 with
  | 0, _ => exact kc_240
  | 1, _ => exact kc_241
  | 2, _ => exact kc_242
  | 3, _ => exact kc_243
  | 4, _ => exact kc_244
  | 5, _ => exact kc_245
  | 6, _ => exact kc_246
  | 7, _ => exact kc_247
  | 8, _ => exact kc_248
  | 9, _ => exact kc_249
  | 10, _ => exact kc_250
  | 11, _ => exact kc_251
  | 12, _ => exact kc_252
  | 13, _ => exact kc_253
  | 14, _ => exact kc_254
  | 15, _ => exact kc_255
  | 16, _ => exact kc_256
  | 17, _ => exact kc_257
  | 18, _ => exact kc_258
  | 19, _ => exact kc_259
  | 20, _ => exact kc_260
  | 21, _ => exact kc_261
  | 22, _ => exact kc_262
  | 23, _ => exact kc_263
  | 24, _ => exact kc_264
  | 25, _ => exact kc_265
  | 26, _ => exact kc_266
  | 27, _ => exact kc_267
  | 28, _ => exact kc_268
  | 29, _ => exact kc_269
  | 30, _ => exact kc_270
  | 31, _ => exact kc_271
  | 32, _ => exact kc_272
  | 33, _ => exact kc_273
  | 34, _ => exact kc_274
  | 35, _ => exact kc_275
  | 36, _ => exact kc_276
  | 37, _ => exact kc_277
  | 38, _ => exact kc_278
  | 39, _ => exact kc_279
  | k + 40, h => exact absurd h (by omega)

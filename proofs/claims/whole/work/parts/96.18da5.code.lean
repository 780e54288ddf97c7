/-! decided: the code of every method, 5 (own work) -/
set_option maxRecDepth 100000 in
theorem kc_200 : chkM 200 = true := by decide +kernel
set_option maxRecDepth 100000 in
theorem kc_201 : chkM 201 = true := by decide +kernel
set_option maxRecDepth 100000 in
theorem kc_202 : chkM 202 = true := by decide +kernel
set_option maxRecDepth 100000 in
theorem kc_203 : chkM 203 = true := by decide +kernel
set_option maxRecDepth 100000 in
theorem kc_204 : chkM 204 = true := by decide +kernel
set_option maxRecDepth 100000 in
theorem kc_205 : chkM 205 = true := by decide +kernel
set_option maxRecDepth 100000 in
theorem kc_206 : chkM 206 = true := by decide +kernel
set_option maxRecDepth 100000 in
theorem kc_207 : chkM 207 = true := by decide +kernel
set_option maxRecDepth 100000 in
theorem kc_208 : chkM 208 = true := by decide +kernel
set_option maxRecDepth 100000 in
theorem kc_209 : chkM 209 = true := by decide +kernel
set_option maxRecDepth 100000 in
theorem kc_210 : chkM 210 = true := by decide +kernel
set_option maxRecDepth 100000 in
theorem kc_211 : chkM 211 = true := by decide +kernel
set_option maxRecDepth 100000 in
theorem kc_212 : chkM 212 = true := by decide +kernel
set_option maxRecDepth 100000 in
theorem kc_213 : chkM 213 = true := by decide +kernel
set_option maxRecDepth 100000 in
theorem kc_214 : chkM 214 = true := by decide +kernel
set_option maxRecDepth 100000 in
theorem kc_215 : chkM 215 = true := by decide +kernel
set_option maxRecDepth 100000 in
theorem kc_216 : chkM 216 = true := by decide +kernel
set_option maxRecDepth 100000 in
theorem kc_217 : chkM 217 = true := by decide +kernel
set_option maxRecDepth 100000 in
theorem kc_218 : chkM 218 = true := by decide +kernel
set_option maxRecDepth 100000 in
theorem kc_219 : chkM 219 = true := by decide +kernel
set_option maxRecDepth 100000 in
theorem kc_220_0 : (((inf 220).2.2.drop 0).take 6).all (fun b => chk (mtbs 220).1 (mtbs 220).2.2.2.2 (mtbs 220).2.2.1 (mtbs 220).2.1.name b.1 b.2.2) = true := by decide +kernel
set_option maxRecDepth 100000 in
theorem kc_220_1 : (((inf 220).2.2.drop 6).take 6).all (fun b => chk (mtbs 220).1 (mtbs 220).2.2.2.2 (mtbs 220).2.2.1 (mtbs 220).2.1.name b.1 b.2.2) = true := by decide +kernel
set_option maxRecDepth 100000 in
theorem kc_220_2 : (((inf 220).2.2.drop 12).take 6).all (fun b => chk (mtbs 220).1 (mtbs 220).2.2.2.2 (mtbs 220).2.2.1 (mtbs 220).2.1.name b.1 b.2.2) = true := by decide +kernel
set_option maxRecDepth 100000 in
theorem kc_220_3 : (((inf 220).2.2.drop 18).take 6).all (fun b => chk (mtbs 220).1 (mtbs 220).2.2.2.2 (mtbs 220).2.2.1 (mtbs 220).2.1.name b.1 b.2.2) = true := by decide +kernel
set_option maxRecDepth 100000 in
theorem kc_220_4 : (((inf 220).2.2.drop 24).take 6).all (fun b => chk (mtbs 220).1 (mtbs 220).2.2.2.2 (mtbs 220).2.2.1 (mtbs 220).2.1.name b.1 b.2.2) = true := by decide +kernel
set_option maxRecDepth 100000 in
theorem kc_220_5 : (((inf 220).2.2.drop 30).take 6).all (fun b => chk (mtbs 220).1 (mtbs 220).2.2.2.2 (mtbs 220).2.2.1 (mtbs 220).2.1.name b.1 b.2.2) = true := by decide +kernel
set_option maxRecDepth 100000 in
theorem kc_220_6 : (((inf 220).2.2.drop 36).take 6).all (fun b => chk (mtbs 220).1 (mtbs 220).2.2.2.2 (mtbs 220).2.2.1 (mtbs 220).2.1.name b.1 b.2.2) = true := by decide +kernel
set_option maxRecDepth 100000 in
theorem kc_220_7 : (((inf 220).2.2.drop 42).take 6).all (fun b => chk (mtbs 220).1 (mtbs 220).2.2.2.2 (mtbs 220).2.2.1 (mtbs 220).2.1.name b.1 b.2.2) = true := by decide +kernel
set_option maxRecDepth 100000 in
theorem kc_220_8 : ((inf 220).2.2.drop 48).all (fun b => chk (mtbs 220).1 (mtbs 220).2.2.2.2 (mtbs 220).2.2.1 (mtbs 220).2.1.name b.1 b.2.2) = true := by decide +kernel
theorem kc_220 : chkM 220 = true := by
  have h := (ck_cut 6 kc_220_0 (by rw [List.drop_drop]; exact (ck_cut 6 kc_220_1 (by rw [List.drop_drop]; exact (ck_cut 6 kc_220_2 (by rw [List.drop_drop]; exact (ck_cut 6 kc_220_3 (by rw [List.drop_drop]; exact (ck_cut 6 kc_220_4 (by rw [List.drop_drop]; exact (ck_cut 6 kc_220_5 (by rw [List.drop_drop]; exact (ck_cut 6 kc_220_6 (by rw [List.drop_drop]; exact (ck_cut 6 kc_220_7 (by rw [List.drop_drop]; exact kc_220_8))))))))))))))))
  exact h
set_option maxRecDepth 100000 in
theorem kc_221 : chkM 221 = true := by decide +kernel
set_option maxRecDepth 100000 in
theorem kc_222 : chkM 222 = true := by decide +kernel
set_option maxRecDepth 100000 in
theorem kc_223 : chkM 223 = true := by decide +kernel
set_option maxRecDepth 100000 in
theorem kc_224 : chkM 224 = true := by decide +kernel
set_option maxRecDepth 100000 in
theorem kc_225 : chkM 225 = true := by decide +kernel
set_option maxRecDepth 100000 in
theorem kc_226 : chkM 226 = true := by decide +kernel
set_option maxRecDepth 100000 in
theorem kc_227 : chkM 227 = true := by decide +kernel
set_option maxRecDepth 100000 in
theorem kc_228 : chkM 228 = true := by decide +kernel
set_option maxRecDepth 100000 in
theorem kc_229 : chkM 229 = true := by decide +kernel
set_option maxRecDepth 100000 in
theorem kc_230 : chkM 230 = true := by decide +kernel
set_option maxRecDepth 100000 in
theorem kc_231 : chkM 231 = true := by decide +kernel
set_option maxRecDepth 100000 in
theorem kc_232 : chkM 232 = true := by decide +kernel
set_option maxRecDepth 100000 in
theorem kc_233 : chkM 233 = true := by decide +kernel
set_option maxRecDepth 100000 in
theorem kc_234 : chkM 234 = true := by decide +kernel
set_option maxRecDepth 100000 in
theorem kc_235 : chkM 235 = true := by decide +kernel
set_option maxRecDepth 100000 in
theorem kc_236 : chkM 236 = true := by decide +kernel
set_option maxRecDepth 100000 in
theorem kc_237 : chkM 237 = true := by decide +kernel
set_option maxRecDepth 100000 in
theorem kc_238 : chkM 238 = true := by decide +kernel
set_option maxRecDepth 100000 in
theorem kc_239 : chkM 239 = true := by decide +kernel
theorem kcr_5 : ∀ m, 200 ≤ m → m < 240 → chkM m = true := by
  intro m h1 h2
  obtain ⟨k, rfl⟩ := Nat.exists_eq_add_of_le h1
  match k, h2 with
  | 0, _ => exact kc_200
  | 1, _ => exact kc_201
  | 2, _ => exact kc_202
  | 3, _ => exact kc_203
  | 4, _ => exact kc_204
  | 5, _ => exact kc_205
  | 6, _ => exact kc_206
  | 7, _ => exact kc_207
  | 8, _ => exact kc_208
  | 9, _ => exact kc_209
  | 10, _ => exact kc_210
  | 11, _ => exact kc_211
  | 12, _ => exact kc_212
  | 13, _ => exact kc_213
  | 14, _ => exact kc_214
  | 15, _ => exact kc_215
  | 16, _ => exact kc_216
  | 17, _ => exact kc_217
  | 18, _ => exact kc_218
  | 19, _ => exact kc_219
  | 20, _ => exact kc_220
  | 21, _ => exact kc_221
  | 22, _ => exact kc_222
  | 23, _ => exact kc_223
  | 24, _ => exact kc_224
  | 25, _ => exact kc_225
  | 26, _ => exact kc_226
  | 27, _ => exact kc_227
  | 28, _ => exact kc_228
  | 29, _ => exact kc_229
  | 30, _ => exact kc_230
  | 31, _ => exact kc_231
  | 32, _ => exact kc_232
  | 33, _ => exact kc_233
  | 34, _ => exact kc_234
  | 35, _ => exact kc_235
  | 36, _ => exact kc_236
  | 37, _ => exact kc_237
  | 38, _ => exact kc_238
  | 39, _ => exact kc_239
  | k + 40, h => exact absurd h (by omega)

/-! decided: the code of every method, 4 (own work) -/
set_option maxRecDepth 100000 in
theorem kc_160 : chkM 160 = true := by decide +kernel
set_option maxRecDepth 100000 in
theorem kc_161 : chkM 161 = true := by decide +kernel
set_option maxRecDepth 100000 in
theorem kc_162 : chkM 162 = true := by decide +kernel
set_option maxRecDepth 100000 in
theorem kc_163 : chkM 163 = true := by decide +kernel
set_option maxRecDepth 100000 in
theorem kc_164 : chkM 164 = true := by decide +kernel
set_option maxRecDepth 100000 in
theorem kc_165 : chkM 165 = true := by decide +kernel
set_option maxRecDepth 100000 in
theorem kc_166 : chkM 166 = true := by decide +kernel
set_option maxRecDepth 100000 in
theorem kc_167 : chkM 167 = true := by decide +kernel
set_option maxRecDepth 100000 in
theorem kc_168 : chkM 168 = true := by decide +kernel
set_option maxRecDepth 100000 in
theorem kc_169 : chkM 169 = true := by decide +kernel
set_option maxRecDepth 100000 in
theorem kc_170 : chkM 170 = true := by decide +kernel
set_option maxRecDepth 100000 in
theorem kc_171 : chkM 171 = true := by decide +kernel
set_option maxRecDepth 100000 in
theorem kc_172 : chkM 172 = true := by decide +kernel
set_option maxRecDepth 100000 in
theorem kc_173 : chkM 173 = true := by decide +kernel
set_option maxRecDepth 100000 in
theorem kc_174 : chkM 174 = true := by decide +kernel
set_option maxRecDepth 100000 in
theorem kc_175 : chkM 175 = true := by decide +kernel
set_option maxRecDepth 100000 in
theorem kc_176 : chkM 176 = true := by decide +kernel
set_option maxRecDepth 100000 in
theorem kc_177 : chkM 177 = true := by decide +kernel
set_option maxRecDepth 100000 in
theorem kc_178 : chkM 178 = true := by decide +kernel
set_option maxRecDepth 100000 in
theorem kc_179 : chkM 179 = true := by decide +kernel
set_option maxRecDepth 100000 in
theorem kc_180 : chkM 180 = true := by decide +kernel
set_option maxRecDepth 100000 in
theorem kc_181 : chkM 181 = true := by decide +kernel
set_option maxRecDepth 100000 in
theorem kc_182 : chkM 182 = true := by decide +kernel
set_option maxRecDepth 100000 in
theorem kc_183 : chkM 183 = true := by decide +kernel
set_option maxRecDepth 100000 in
theorem kc_184 : chkM 184 = true := by decide +kernel
set_option maxRecDepth 100000 in
theorem kc_185_0 : (((inf 185).2.2.drop 0).take 6).all (fun b => chk (mtbs 185).1 (mtbs 185).2.2.2.2 (mtbs 185).2.2.1 (mtbs 185).2.1.name b.1 b.2.2) = true := by decide +kernel
set_option maxRecDepth 100000 in
theorem kc_185_1 : (((inf 185).2.2.drop 6).take 6).all (fun b => chk (mtbs 185).1 (mtbs 185).2.2.2.2 (mtbs 185).2.2.1 (mtbs 185).2.1.name b.1 b.2.2) = true := by decide +kernel
set_option maxRecDepth 100000 in
theorem kc_185_2 : (((inf 185).2.2.drop 12).take 6).all (fun b => chk (mtbs 185).1 (mtbs 185).2.2.2.2 (mtbs 185).2.2.1 (mtbs 185).2.1.name b.1 b.2.2) = true := by decide +kernel
set_option maxRecDepth 100000 in
theorem kc_185_3 : (((inf 185).2.2.drop 18).take 6).all (fun b => chk (mtbs 185).1 (mtbs 185).2.2.2.2 (mtbs 185).2.2.1 (mtbs 185).2.1.name b.1 b.2.2) = true := by decide +kernel
set_option maxRecDepth 100000 in
theorem kc_185_4 : (((inf 185).2.2.drop 24).take 6).all (fun b => chk (mtbs 185).1 (mtbs 185).2.2.2.2 (mtbs 185).2.2.1 (mtbs 185).2.1.name b.1 b.2.2) = true := by decide +kernel
set_option maxRecDepth 100000 in
theorem kc_185_5 : (((inf 185).2.2.drop 30).take 6).all (fun b => chk (mtbs 185).1 (mtbs 185).2.2.2.2 (mtbs 185).2.2.1 (mtbs 185).2.1.name b.1 b.2.2) = true := by decide +kernel
set_option maxRecDepth 100000 in
theorem kc_185_6 : (((inf 185).2.2.drop 36).take 6).all (fun b => chk (mtbs 185).1 (mtbs 185).2.2.2.2 (mtbs 185).2.2.1 (mtbs 185).2.1.name b.1 b.2.2) = true := by decide +kernel
set_option maxRecDepth 100000 in
theorem kc_185_7 : (((inf 185).2.2.drop 42).take 6).all (fun b => chk (mtbs 185).1 (mtbs 185).2.2.2.2 (mtbs 185).2.2.1 (mtbs 185).2.1.name b.1 b.2.2) = true := by decide +kernel
set_option maxRecDepth 100000 in
theorem kc_185_8 : (((inf 185).2.2.drop 48).take 6).all (fun b => chk (mtbs 185).1 (mtbs 185).2.2.2.2 (mtbs 185).2.2.1 (mtbs 185).2.1.name b.1 b.2.2) = true := by decide +kernel
set_option maxRecDepth 100000 in
theorem kc_185_9 : (((inf 185).2.2.drop 54).take 6).all (fun b => chk (mtbs 185).1 (mtbs 185).2.2.2.2 (mtbs 185).2.2.1 (mtbs 185).2.1.name b.1 b.2.2) = true := by decide +kernel
set_option maxRecDepth 100000 in
theorem kc_185_10 : (((inf 185).2.2.drop 60).take 6).all (fun b => chk (mtbs 185).1 (mtbs 185).2.2.2.2 (mtbs 185).2.2.1 (mtbs 185).2.1.name b.1 b.2.2) = true := by decide +kernel
set_option maxRecDepth 100000 in
theorem kc_185_11 : ((inf 185).2.2.drop 66).all (fun b => chk (mtbs 185).1 (mtbs 185).2.2.2.2 (mtbs 185).2.2.1 (mtbs 185).2.1.name b.1 b.2.2) = true := by decide +kernel
theorem kc_185 : chkM 185 = true := by
  have h := (ck_cut 6 kc_185_0 (by rw [List.drop_drop]; exact (ck_cut 6 kc_185_1 (by rw [List.drop_drop]; exact (ck_cut 6 kc_185_2 (by rw [List.drop_drop]; exact (ck_cut 6 kc_185_3 (by rw [List.drop_drop]; exact (ck_cut 6 kc_185_4 (by rw [List.drop_drop]; exact (ck_cut 6 kc_185_5 (by rw [List.drop_drop]; exact (ck_cut 6 kc_185_6 (by rw [List.drop_drop]; exact (ck_cut 6 kc_185_7 (by rw [List.drop_drop]; exact (ck_cut 6 kc_185_8 (by rw [List.drop_drop]; exact (ck_cut 6 kc_185_9 (by rw [List.drop_drop]; exact (ck_cut 6 kc_185_10 (by rw [List.drop_drop]; exact kc_185_11))))))))))))))))))))))
  exact h
set_option maxRecDepth 100000 in
theorem kc_186 : chkM 186 = true := by decide +kernel
set_option maxRecDepth 100000 in
theorem kc_187 : chkM 187 = true := by decide +kernel
set_option maxRecDepth 100000 in
theorem kc_188 : chkM 188 = true := by decide +kernel
set_option maxRecDepth 100000 in
theorem kc_189 : chkM 189 = true := by decide +kernel
set_option maxRecDepth 100000 in
theorem kc_190 : chkM 190 = true := by decide +kernel
set_option maxRecDepth 100000 in
theorem kc_191 : chkM 191 = true := by decide +kernel
set_option maxRecDepth 100000 in
theorem kc_192 : chkM 192 = true := by decide +kernel
set_option maxRecDepth 100000 in
theorem kc_193 : chkM 193 = true := by decide +kernel
set_option maxRecDepth 100000 in
theorem kc_194 : chkM 194 = true := by decide +kernel
set_option maxRecDepth 100000 in
theorem kc_195 : chkM 195 = true := by decide +kernel
set_option maxRecDepth 100000 in
theorem kc_196 : chkM 196 = true := by decide +kernel
set_option maxRecDepth 100000 in
theorem kc_197 : chkM 197 = true := by decide +kernel
set_option maxRecDepth 100000 in
theorem kc_198 : chkM 198 = true := by decide +kernel
set_option maxRecDepth 100000 in
theorem kc_199 : chkM 199 = true := by decide +kernel
theorem kcr_4 : ∀ m, 160 ≤ m → m < 200 → chkM m = true := by
  intro m h1 h2
  obtain ⟨k, rfl⟩ := Nat.exists_eq_add_of_le h1
  match k, h2 with
  | 0, _ => exact kc_160
  | 1, _ => exact kc_161
  | 2, _ => exact kc_162
  | 3, _ => exact kc_163
  | 4, _ => exact kc_164
  | 5, _ => exact kc_165
  | 6, _ => exact kc_166
  | 7, _ => exact kc_167
  | 8, _ => exact kc_168
  | 9, _ => exact kc_169
  | 10, _ => exact kc_170
  | 11, _ => exact kc_171
  | 12, _ => exact kc_172
  | 13, _ => exact kc_173
  | 14, _ => exact kc_174
  | 15, _ => exact kc_175
  | 16, _ => exact kc_176
  | 17, _ => exact kc_177
  | 18, _ => exact kc_178
  | 19, _ => exact kc_179
  | 20, _ => exact kc_180
  | 21, _ => exact kc_181
  | 22, _ => exact kc_182
  | 23, _ => exact kc_183
  | 24, _ => exact kc_184
  | 25, _ => exact kc_185
  | 26, _ => exact kc_186
  | 27, _ => exact kc_187
  | 28, _ => exact kc_188
  | 29, _ => exact kc_189
  | 30, _ => exact kc_190
  | 31, _ => exact kc_191
  | 32, _ => exact kc_192
  | 33, _ => exact kc_193
  | 34, _ => exact kc_194
  | 35, _ => exact kc_195
  | 36, _ => exact kc_196
  | 37, _ => exact kc_197
  | 38, _ => exact kc_198
  | 39, _ => exact kc_199
  | k + 40, h => exact absurd h (by omega)

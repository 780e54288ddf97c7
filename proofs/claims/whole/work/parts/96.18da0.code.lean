/-! decided: the code of every method, 0 (own work) -/
theorem ck_cut {α : Type} {l : List α} {f : α → Bool} (n : Nat) (h1 : (l.take n).all f = true) (h2 : (l.drop n).all f = true) : l.all f = true := by
  rw [← List.take_append_drop n l, List.all_append, h1, h2]
  rfl
set_option maxRecDepth 100000 in
theorem kc_0 : chkM 0 = true := by decide +kernel
set_option maxRecDepth 100000 in
theorem kc_1 : chkM 1 = true := by decide +kernel
set_option maxRecDepth 100000 in
theorem kc_2 : chkM 2 = true := by decide +kernel
set_option maxRecDepth 100000 in
theorem kc_3 : chkM 3 = true := by decide +kernel
set_option maxRecDepth 100000 in
theorem kc_4 : chkM 4 = true := by decide +kernel
set_option maxRecDepth 100000 in
theorem kc_5 : chkM 5 = true := by decide +kernel
set_option maxRecDepth 100000 in
theorem kc_6 : chkM 6 = true := by decide +kernel
set_option maxRecDepth 100000 in
theorem kc_7 : chkM 7 = true := by decide +kernel
set_option maxRecDepth 100000 in
theorem kc_8 : chkM 8 = true := by decide +kernel
set_option maxRecDepth 100000 in
theorem kc_9 : chkM 9 = true := by decide +kernel
set_option maxRecDepth 100000 in
theorem kc_10 : chkM 10 = true := by decide +kernel
set_option maxRecDepth 100000 in
theorem kc_11 : chkM 11 = true := by decide +kernel
set_option maxRecDepth 100000 in
theorem kc_12 : chkM 12 = true := by decide +kernel
set_option maxRecDepth 100000 in
theorem kc_13 : chkM 13 = true := by decide +kernel
set_option maxRecDepth 100000 in
theorem kc_14 : chkM 14 = true := by decide +kernel
set_option maxRecDepth 100000 in
theorem kc_15 : chkM 15 = true := by decide +kernel
set_option maxRecDepth 100000 in
theorem kc_16 : chkM 16 = true := by decide +kernel
set_option maxRecDepth 100000 in
theorem kc_17 : chkM 17 = true := by decide +kernel
set_option maxRecDepth 100000 in
theorem kc_18 : chkM 18 = true := by decide +kernel
set_option maxRecDepth 100000 in
theorem kc_19 : chkM 19 = true := by decide +kernel
set_option maxRecDepth 100000 in
theorem kc_20_0 : (((inf 20).2.2.drop 0).take 6).all (fun b => chk (mtbs 20).1 (mtbs 20).2.2.2.2 (mtbs 20).2.2.1 (mtbs 20).2.1.name b.1 b.2.2) = true := by decide +kernel
set_option maxRecDepth 100000 in
theorem kc_20_1 : (((inf 20).2.2.drop 6).take 6).all (fun b => chk (mtbs 20).1 (mtbs 20).2.2.2.2 (mtbs 20).2.2.1 (mtbs 20).2.1.name b.1 b.2.2) = true := by decide +kernel
set_option maxRecDepth 100000 in
theorem kc_20_2 : (((inf 20).2.2.drop 12).take 6).all (fun b => chk (mtbs 20).1 (mtbs 20).2.2.2.2 (mtbs 20).2.2.1 (mtbs 20).2.1.name b.1 b.2.2) = true := by decide +kernel
set_option maxRecDepth 100000 in
theorem kc_20_3 : (((inf 20).2.2.drop 18).take 6).all (fun b => chk (mtbs 20).1 (mtbs 20).2.2.2.2 (mtbs 20).2.2.1 (mtbs 20).2.1.name b.1 b.2.2) = true := by decide +kernel
set_option maxRecDepth 100000 in
theorem kc_20_4 : (((inf 20).2.2.drop 24).take 6).all (fun b => chk (mtbs 20).1 (mtbs 20).2.2.2.2 (mtbs 20).2.2.1 (mtbs 20).2.1.name b.1 b.2.2) = true := by decide +kernel
set_option maxRecDepth 100000 in
theorem kc_20_5 : (((inf 20).2.2.drop 30).take 6).all (fun b => chk (mtbs 20).1 (mtbs 20).2.2.2.2 (mtbs 20).2.2.1 (mtbs 20).2.1.name b.1 b.2.2) = true := by decide +kernel
set_option maxRecDepth 100000 in
theorem kc_20_6 : (((inf 20).2.2.drop 36).take 6).all (fun b => chk (mtbs 20).1 (mtbs 20).2.2.2.2 (mtbs 20).2.2.1 (mtbs 20).2.1.name b.1 b.2.2) = true := by decide +kernel
set_option maxRecDepth 100000 in
theorem kc_20_7 : ((inf 20).2.2.drop 42).all (fun b => chk (mtbs 20).1 (mtbs 20).2.2.2.2 (mtbs 20).2.2.1 (mtbs 20).2.1.name b.1 b.2.2) = true := by decide +kernel
theorem kc_20 : chkM 20 = true := by
  have h := (ck_cut 6 kc_20_0 (by rw [List.drop_drop]; exact (ck_cut 6 kc_20_1 (by rw [List.drop_drop]; exact (ck_cut 6 kc_20_2 (by rw [List.drop_drop]; exact (ck_cut 6 kc_20_3 (by rw [List.drop_drop]; exact (ck_cut 6 kc_20_4 (by rw [List.drop_drop]; exact (ck_cut 6 kc_20_5 (by rw [List.drop_drop]; exact (ck_cut 6 kc_20_6 (by rw [List.drop_drop]; exact kc_20_7))))))))))))))
  exact h
set_option maxRecDepth 100000 in
theorem kc_21 : chkM 21 = true := by decide +kernel
set_option maxRecDepth 100000 in
theorem kc_22 : chkM 22 = true := by decide +kernel
set_option maxRecDepth 100000 in
theorem kc_23 : chkM 23 = true := by decide +kernel
set_option maxRecDepth 100000 in
theorem kc_24 : chkM 24 = true := by decide +kernel
set_option maxRecDepth 100000 in
theorem kc_25 : chkM 25 = true := by decide +kernel
set_option maxRecDepth 100000 in
theorem kc_26 : chkM 26 = true := by decide +kernel
set_option maxRecDepth 100000 in
theorem kc_27 : chkM 27 = true := by decide +kernel
set_option maxRecDepth 100000 in
theorem kc_28 : chkM 28 = true := by decide +kernel
set_option maxRecDepth 100000 in
theorem kc_29 : chkM 29 = true := by decide +kernel
set_option maxRecDepth 100000 in
theorem kc_30 : chkM 30 = true := by decide +kernel
set_option maxRecDepth 100000 in
theorem kc_31 : chkM 31 = true := by decide +kernel
set_option maxRecDepth 100000 in
theorem kc_32 : chkM 32 = true := by decide +kernel
set_option maxRecDepth 100000 in
theorem kc_33 : chkM 33 = true := by decide +kernel
set_option maxRecDepth 100000 in
theorem kc_34 : chkM 34 = true := by decide +kernel
set_option maxRecDepth 100000 in
theorem kc_35_0 : (((inf 35).2.2.drop 0).take 6).all (fun b => chk (mtbs 35).1 (mtbs 35).2.2.2.2 (mtbs 35).2.2.1 (mtbs 35).2.1.name b.1 b.2.2) = true := by decide +kernel
set_option maxRecDepth 100000 in
theorem kc_35_1 : (((inf 35).2.2.drop 6).take 6).all (fun b => chk (mtbs 35).1 (mtbs 35).2.2.2.2 (mtbs 35).2.2.1 (mtbs 35).2.1.name b.1 b.2.2) = true := by decide +kernel
set_option maxRecDepth 100000 in
theorem kc_35_2 : (((inf 35).2.2.drop 12).take 6).all (fun b => chk (mtbs 35).1 (mtbs 35).2.2.2.2 (mtbs 35).2.2.1 (mtbs 35).2.1.name b.1 b.2.2) = true := by decide +kernel
set_option maxRecDepth 100000 in
theorem kc_35_3 : (((inf 35).2.2.drop 18).take 6).all (fun b => chk (mtbs 35).1 (mtbs 35).2.2.2.2 (mtbs 35).2.2.1 (mtbs 35).2.1.name b.1 b.2.2) = true := by decide +kernel
set_option maxRecDepth 100000 in
theorem kc_35_4 : (((inf 35).2.2.drop 24).take 6).all (fun b => chk (mtbs 35).1 (mtbs 35).2.2.2.2 (mtbs 35).2.2.1 (mtbs 35).2.1.name b.1 b.2.2) = true := by decide +kernel
set_option maxRecDepth 100000 in
theorem kc_35_5 : (((inf 35).2.2.drop 30).take 6).all (fun b => chk (mtbs 35).1 (mtbs 35).2.2.2.2 (mtbs 35).2.2.1 (mtbs 35).2.1.name b.1 b.2.2) = true := by decide +kernel
set_option maxRecDepth 100000 in
theorem kc_35_6 : (((inf 35).2.2.drop 36).take 6).all (fun b => chk (mtbs 35).1 (mtbs 35).2.2.2.2 (mtbs 35).2.2.1 (mtbs 35).2.1.name b.1 b.2.2) = true := by decide +kernel
set_option maxRecDepth 100000 in
theorem kc_35_7 : ((inf 35).2.2.drop 42).all (fun b => chk (mtbs 35).1 (mtbs 35).2.2.2.2 (mtbs 35).2.2.1 (mtbs 35).2.1.name b.1 b.2.2) = true := by decide +kernel
theorem kc_35 : chkM 35 = true := by
  have h := (ck_cut 6 kc_35_0 (by rw [List.drop_drop]; exact (ck_cut 6 kc_35_1 (by rw [List.drop_drop]; exact (ck_cut 6 kc_35_2 (by rw [List.drop_drop]; exact (ck_cut 6 kc_35_3 (by rw [List.drop_drop]; exact (ck_cut 6 kc_35_4 (by rw [List.drop_drop]; exact (ck_cut 6 kc_35_5 (by rw [List.drop_drop]; exact (ck_cut 6 kc_35_6 (by rw [List.drop_drop]; exact kc_35_7))))))))))))))
  exact h
set_option maxRecDepth 100000 in
theorem kc_36 : chkM 36 = true := by decide +kernel
set_option maxRecDepth 100000 in
theorem kc_37 : chkM 37 = true := by decide +kernel
set_option maxRecDepth 100000 in
theorem kc_38 : chkM 38 = true := by decide +kernel
set_option maxRecDepth 100000 in
theorem kc_39 : chkM 39 = true := by decide +kernel
theorem kcr_0 : ∀ m, 0 ≤ m → m < 40 → chkM m = true := by
  intro m h1 h2
  obtain ⟨k, rfl⟩ := Nat.exists_eq_add_of_le h1
  match k, h2 with
  | 0, _ => exact kc_0
  | 1, _ => exact kc_1
  | 2, _ => exact kc_2
  | 3, _ => exact kc_3
  | 4, _ => exact kc_4
  | 5, _ => exact kc_5
  | 6, _ => exact kc_6
  | 7, _ => exact kc_7
  | 8, _ => exact kc_8
  | 9, _ => exact kc_9
  | 10, _ => exact kc_10
  | 11, _ => exact kc_11
  | 12, _ => exact kc_12
  | 13, _ => exact kc_13
  | 14, _ => exact kc_14
  | 15, _ => exact kc_15
  | 16, _ => exact kc_16
  | 17, _ => exact kc_17
  | 18, _ => exact kc_18
  | 19, _ => exact kc_19
  | 20, _ => exact kc_20
  | 21, _ => exact kc_21
  | 22, _ => exact kc_22
  | 23, _ => exact kc_23
  | 24, _ => exact kc_24
  | 25, _ => exact kc_25
  | 26, _ => exact kc_26
  | 27, _ => exact kc_27
  | 28, _ => exact kc_28
  | 29, _ => exact kc_29
  | 30, _ => exact kc_30
  | 31, _ => exact kc_31
  | 32, _ => exact kc_32
  | 33, _ => exact kc_33
  | 34, _ => exact kc_34
  | 35, _ => exact kc_35
  | 36, _ => exact kc_36
  | 37, _ => exact kc_37
  | 38, _ => exact kc_38
  | 39, _ => exact kc_39
  | k + 40, h => exact absurd h (by omega)

/-! THE CLASSES: their words among the tables' words; kinds of fields (by program) -/
theorem mem_places {ws : List Cond} (ps : List Nat) (h : ws = ps.filterMap tbw) (hg : ws.all goodWord = true) : ∀ w ∈ ws, w ∈ TB := by
  intro w hw
  have hg := List.all_eq_true.mp hg w hw
  rw [h] at hw
  obtain ⟨i, -, hi⟩ := List.mem_filterMap.mp hw
  exact tbg hi hg
set_option maxRecDepth 100000 in
theorem uin_0 : ∀ w ∈ u_ws RX0 TX0 8, w ∈ TB := mem_places [2196, 2198, 2200, 2202, 2204, 2206, 2208, 2210] (by decide +kernel) (by decide +kernel)
set_option maxRecDepth 100000 in
theorem uin_1 : ∀ w ∈ u_ws RX1 TX1 10, w ∈ TB := mem_places [2158, 2160, 2162, 2164, 2166, 2168, 2170, 2172, 2174, 2176] (by decide +kernel) (by decide +kernel)
set_option maxRecDepth 100000 in
theorem uin_2 : ∀ w ∈ u_ws RX2 TX2 6, w ∈ TB := mem_places [2123, 2125, 2127, 2129, 2131, 2133] (by decide +kernel) (by decide +kernel)
set_option maxRecDepth 100000 in
theorem uin_3 : ∀ w ∈ u_ws RX3 TX3 3, w ∈ TB := mem_places [1179, 1181, 1183] (by decide +kernel) (by decide +kernel)
set_option maxRecDepth 100000 in
theorem uin_4 : ∀ w ∈ u_ws RX4 TX4 4, w ∈ TB := mem_places [1190, 1192, 1194, 1196] (by decide +kernel) (by decide +kernel)
set_option maxRecDepth 100000 in
theorem uin_5 : ∀ w ∈ u_ws RX5 TX5 15, w ∈ TB := mem_places [2005, 2007, 2009, 2011, 2013, 2015, 2017, 2019, 2021, 2023, 2025, 2027, 2029, 2031, 2033] (by decide +kernel) (by decide +kernel)
set_option maxRecDepth 100000 in
theorem uin_6 : ∀ w ∈ u_ws RX6 TX6 9, w ∈ TB := mem_places [2053, 2055, 2057, 2059, 2061, 2063, 2065, 2067, 2069] (by decide +kernel) (by decide +kernel)
set_option maxRecDepth 100000 in
theorem uin_7 : ∀ w ∈ u_ws RX7 TX7 15, w ∈ TB := mem_places [1097, 1099, 1101, 1103, 1105, 1107, 1109, 1111, 1113, 1115, 1117, 1119, 1121, 1123, 1125] (by decide +kernel) (by decide +kernel)
set_option maxRecDepth 100000 in
theorem uin_8 : ∀ w ∈ u_ws RX8 TX8 9, w ∈ TB := mem_places [2089, 2091, 2093, 2095, 2097, 2099, 2101, 2103, 2105] (by decide +kernel) (by decide +kernel)
set_option maxRecDepth 100000 in
theorem uin_9 : ∀ w ∈ u_ws RX9 TX9 4, w ∈ TB := mem_places [1209, 1211, 1213, 1215] (by decide +kernel) (by decide +kernel)
set_option maxRecDepth 100000 in
theorem uin_10 : ∀ w ∈ u_ws RX10 TX10 5, w ∈ TB := mem_places [1151, 1153, 1155, 1157, 1159] (by decide +kernel) (by decide +kernel)
set_option maxRecDepth 100000 in
theorem uin_11 : ∀ w ∈ u_ws RX11 TX11 19, w ∈ TB := mem_places [2232, 2234, 2236, 2238, 3000, 3002, 3004, 3006, 3008, 3010, 3012, 3014, 3016, 3018, 3020, 3022, 3024, 3026, 3028] (by decide +kernel) (by decide +kernel)
set_option maxRecDepth 100000 in
theorem uin_12 : ∀ w ∈ u_ws RX12 TX12 61, w ∈ TB := mem_places [6218, 6220, 6222, 6224, 6226, 6228, 6230, 6232, 6234, 6236, 6238, 7000, 7002, 7004, 7006, 7008, 7010, 7012, 7014, 7016, 7018, 7020, 7022, 7024, 7026, 7028, 7030, 7032, 7034, 7036, 7038, 7040, 7042, 7044, 7046, 7048, 7050, 7052, 7054, 7056, 7058, 7060, 7062, 7064, 7066, 7068, 7070, 7072, 7074, 7076, 7078, 7080, 7082, 7084, 7086, 7088, 7090, 7092, 7094, 7096, 7098] (by decide +kernel) (by decide +kernel)
/-- what a field's kind says of its type -/
def tyk (t : Nat) (ty : FieldType) (fin : Bool) : Bool := match t, ty with
  | 0, .int => !fin
  | 1, .long => !fin
  | 2, .boolean => !fin
  | 3, .object _ => fin
  | 3, .array _ => fin
  | _, _ => false
theorem tyk_0 : (List.range 8).all (fun k => tyk ((ftb 0).getD k 9) (tyX0 k) (TX0 k).2.2.2 && decide ((TX0 k).1 = RX0)) = true := by decide +kernel
theorem tyk_1 : (List.range 10).all (fun k => tyk ((ftb 1).getD k 9) (tyX1 k) (TX1 k).2.2.2 && decide ((TX1 k).1 = RX1)) = true := by decide +kernel
theorem tyk_2 : (List.range 6).all (fun k => tyk ((ftb 2).getD k 9) (tyX2 k) (TX2 k).2.2.2 && decide ((TX2 k).1 = RX2)) = true := by decide +kernel
theorem tyk_3 : (List.range 3).all (fun k => tyk ((ftb 3).getD k 9) (tyX3 k) (TX3 k).2.2.2 && decide ((TX3 k).1 = RX3)) = true := by decide +kernel
theorem tyk_4 : (List.range 4).all (fun k => tyk ((ftb 4).getD k 9) (tyX4 k) (TX4 k).2.2.2 && decide ((TX4 k).1 = RX4)) = true := by decide +kernel
theorem tyk_5 : (List.range 15).all (fun k => tyk ((ftb 5).getD k 9) (tyX5 k) (TX5 k).2.2.2 && decide ((TX5 k).1 = RX5)) = true := by decide +kernel
theorem tyk_6 : (List.range 9).all (fun k => tyk ((ftb 6).getD k 9) (tyX6 k) (TX6 k).2.2.2 && decide ((TX6 k).1 = RX6)) = true := by decide +kernel
theorem tyk_7 : (List.range 15).all (fun k => tyk ((ftb 7).getD k 9) (tyX7 k) (TX7 k).2.2.2 && decide ((TX7 k).1 = RX7)) = true := by decide +kernel
theorem tyk_8 : (List.range 9).all (fun k => tyk ((ftb 8).getD k 9) (tyX8 k) (TX8 k).2.2.2 && decide ((TX8 k).1 = RX8)) = true := by decide +kernel
theorem tyk_9 : (List.range 4).all (fun k => tyk ((ftb 9).getD k 9) (tyX9 k) (TX9 k).2.2.2 && decide ((TX9 k).1 = RX9)) = true := by decide +kernel
theorem tyk_10 : (List.range 5).all (fun k => tyk ((ftb 10).getD k 9) (tyX10 k) (TX10 k).2.2.2 && decide ((TX10 k).1 = RX10)) = true := by decide +kernel
theorem tyk_11 : (List.range 19).all (fun k => tyk ((ftb 11).getD k 9) (tyX11 k) (TX11 k).2.2.2 && decide ((TX11 k).1 = RX11)) = true := by decide +kernel
theorem tyk_12 : (List.range 61).all (fun k => tyk ((ftb 12).getD k 9) (tyX12 k) (TX12 k).2.2.2 && decide ((TX12 k).1 = RX12)) = true := by decide +kernel
/-- all that is wanted of a class -/
def CLS (ci : Nat) (q : vw_C) (ty : Nat → FieldType) : Prop := vwCl[ci]? = some q ∧ q.1 = rnm ci ∧ (∀ w ∈ u_ws q.1 q.2.1 q.2.2, w ∈ TB) ∧ (∀ k, k < q.2.2 → parseFieldDescriptor (q.2.1 k).2.2.1 = some (ty k)) ∧ (∀ a, a < q.2.2 → ∀ b, b < q.2.2 → a ≠ b → (q.2.1 a).2.1 ≠ (q.2.1 b).2.1) ∧ q.2.2 = (ftb ci).length ∧ (∀ k, k < q.2.2 → tyk ((ftb ci).getD k 9) (ty k) (q.2.1 k).2.2.2 = true ∧ (q.2.1 k).1 = q.1)
theorem cls_0 : CLS 0 (RX0, TX0, 8) tyX0 := ⟨rfl, rfl, uin_0, tyX0_ok, nmX0, rfl, fun k hk => by
  have h := List.all_eq_true.mp tyk_0 k (List.mem_range.mpr hk)
  rw [Bool.and_eq_true, decide_eq_true_eq] at h
  exact h⟩
theorem cls_1 : CLS 1 (RX1, TX1, 10) tyX1 := ⟨rfl, rfl, uin_1, tyX1_ok, nmX1, rfl, fun k hk => by
  have h := List.all_eq_true.mp tyk_1 k (List.mem_range.mpr hk)
  rw [Bool.and_eq_true, decide_eq_true_eq] at h
  exact h⟩
theorem cls_2 : CLS 2 (RX2, TX2, 6) tyX2 := ⟨rfl, rfl, uin_2, tyX2_ok, nmX2, rfl, fun k hk => by
  have h := List.all_eq_true.mp tyk_2 k (List.mem_range.mpr hk)
  rw [Bool.and_eq_true, decide_eq_true_eq] at h
  exact h⟩
theorem cls_3 : CLS 3 (RX3, TX3, 3) tyX3 := ⟨rfl, rfl, uin_3, tyX3_ok, nmX3, rfl, fun k hk => by
  have h := List.all_eq_true.mp tyk_3 k (List.mem_range.mpr hk)
  rw [Bool.and_eq_true, decide_eq_true_eq] at h
  exact h⟩
theorem cls_4 : CLS 4 (RX4, TX4, 4) tyX4 := ⟨rfl, rfl, uin_4, tyX4_ok, nmX4, rfl, fun k hk => by
  have h := List.all_eq_true.mp tyk_4 k (List.mem_range.mpr hk)
  rw [Bool.and_eq_true, decide_eq_true_eq] at h
  exact h⟩
theorem cls_5 : CLS 5 (RX5, TX5, 15) tyX5 := ⟨rfl, rfl, uin_5, tyX5_ok, nmX5, rfl, fun k hk => by
  have h := List.all_eq_true.mp tyk_5 k (List.mem_range.mpr hk)
  rw [Bool.and_eq_true, decide_eq_true_eq] at h
  exact h⟩
theorem cls_6 : CLS 6 (RX6, TX6, 9) tyX6 := ⟨rfl, rfl, uin_6, tyX6_ok, nmX6, rfl, fun k hk => by
  have h := List.all_eq_true.mp tyk_6 k (List.mem_range.mpr hk)
  rw [Bool.and_eq_true, decide_eq_true_eq] at h
  exact h⟩
theorem cls_7 : CLS 7 (RX7, TX7, 15) tyX7 := ⟨rfl, rfl, uin_7, tyX7_ok, nmX7, rfl, fun k hk => by
  have h := List.all_eq_true.mp tyk_7 k (List.mem_range.mpr hk)
  rw [Bool.and_eq_true, decide_eq_true_eq] at h
  exact h⟩
theorem cls_8 : CLS 8 (RX8, TX8, 9) tyX8 := ⟨rfl, rfl, uin_8, tyX8_ok, nmX8, rfl, fun k hk => by
  have h := List.all_eq_true.mp tyk_8 k (List.mem_range.mpr hk)
  rw [Bool.and_eq_true, decide_eq_true_eq] at h
  exact h⟩
theorem cls_9 : CLS 9 (RX9, TX9, 4) tyX9 := ⟨rfl, rfl, uin_9, tyX9_ok, nmX9, rfl, fun k hk => by
  have h := List.all_eq_true.mp tyk_9 k (List.mem_range.mpr hk)
  rw [Bool.and_eq_true, decide_eq_true_eq] at h
  exact h⟩
theorem cls_10 : CLS 10 (RX10, TX10, 5) tyX10 := ⟨rfl, rfl, uin_10, tyX10_ok, nmX10, rfl, fun k hk => by
  have h := List.all_eq_true.mp tyk_10 k (List.mem_range.mpr hk)
  rw [Bool.and_eq_true, decide_eq_true_eq] at h
  exact h⟩
theorem cls_11 : CLS 11 (RX11, TX11, 19) tyX11 := ⟨rfl, rfl, uin_11, tyX11_ok, nmX11, rfl, fun k hk => by
  have h := List.all_eq_true.mp tyk_11 k (List.mem_range.mpr hk)
  rw [Bool.and_eq_true, decide_eq_true_eq] at h
  exact h⟩
theorem cls_12 : CLS 12 (RX12, TX12, 61) tyX12 := ⟨rfl, rfl, uin_12, tyX12_ok, nmX12, rfl, fun k hk => by
  have h := List.all_eq_true.mp tyk_12 k (List.mem_range.mpr hk)
  rw [Bool.and_eq_true, decide_eq_true_eq] at h
  exact h⟩
theorem cls_all : ∀ ci, ci ≤ 12 → ∃ (q : vw_C) (ty : Nat → FieldType), CLS ci q ty := by
  intro ci h
  match ci, h with
  | 0, _ => exact ⟨_, _, cls_0⟩
  | 1, _ => exact ⟨_, _, cls_1⟩
  | 2, _ => exact ⟨_, _, cls_2⟩
  | 3, _ => exact ⟨_, _, cls_3⟩
  | 4, _ => exact ⟨_, _, cls_4⟩
  | 5, _ => exact ⟨_, _, cls_5⟩
  | 6, _ => exact ⟨_, _, cls_6⟩
  | 7, _ => exact ⟨_, _, cls_7⟩
  | 8, _ => exact ⟨_, _, cls_8⟩
  | 9, _ => exact ⟨_, _, cls_9⟩
  | 10, _ => exact ⟨_, _, cls_10⟩
  | 11, _ => exact ⟨_, _, cls_11⟩
  | 12, _ => exact ⟨_, _, cls_12⟩
  | n + 13, h => exact absurd h (by omega)
set_option maxRecDepth 100000 in
theorem inst_ok : (List.range 13).all (fun ci => decide (tbw ([2180, 2137, 2109, 1169, 1163, 1219, 2039, 1030, 2073, 1200, 1130, 1022, 6131].getD ci 0) = some (Cond.instantiable (rnm ci) (ftb ci).length)) && decide (tbw ([1012, 1011, 1010, 1005, 1004, 1007, 1008, 1002, 1009, 1006, 1003, 1001, 1013].getD ci 0) = some (Cond.initialized (rnm ci)))) = true := by decide +kernel
theorem acI : Cond.arrayClass .int ∈ TB := tbg (z := 1128) (by decide +kernel) rfl
theorem acJ : Cond.arrayClass .long ∈ TB := tbg (z := 7101) (by decide +kernel) rfl
theorem acZ : Cond.arrayClass .boolean ∈ TB := tbg (z := 2036) (by decide +kernel) rfl
theorem aoS : Cond.arrayOver (.object RX7) ∈ lw_tbl := tbw_mem (z := 2037) (by decide +kernel)
theorem aoT : Cond.arrayOver (.object RX10) ∈ lw_tbl := tbw_mem (z := 1036) (by decide +kernel)
theorem natC : Cond.native arraycopyName ∈ TB := tbg (z := 4034) (by decide +kernel) rfl
theorem statC : Cond.static arraycopyName ∈ TB := tbg (z := 4033) (by decide +kernel) rfl
theorem iniC : Cond.initialized "java/lang/System" ∈ TB := tbg (z := 1019) (by decide +kernel) rfl
theorem objI : Cond.instanceMethod objectInit ∈ TB := tbg (z := 1027) (by decide +kernel) rfl
theorem objC : Cond.code objectInit ⟨#[0xb1]⟩ 1 none ∈ TB := tbg (z := 1028) (by decide +kernel) rfl
theorem mS_max : Cond.static Lib.Math.max.name ∈ TB := tbg (z := 4163) (by decide +kernel) rfl
theorem mC_max : Cond.code Lib.Math.max.name Lib.Math.max.code 2 (some .int) ∈ TB := tbg (z := 4164) (by rfl) rfl
theorem mS_min : Cond.static Lib.Math.min.name ∈ TB := tbg (z := 3113) (by decide +kernel) rfl
theorem mC_min : Cond.code Lib.Math.min.name Lib.Math.min.code 2 (some .int) ∈ TB := tbg (z := 3114) (by rfl) rfl
theorem mS_abs : Cond.static Lib.Math.abs.name ∈ TB := tbg (z := 4099) (by decide +kernel) rfl
theorem mC_abs : Cond.code Lib.Math.abs.name Lib.Math.abs.code 1 (some .int) ∈ TB := tbg (z := 4100) (by rfl) rfl
theorem mI : Cond.initialized "java/lang/Math" ∈ TB := tbg (z := 1014) (by decide +kernel) rfl
/-- every store lies within the locals, every constant within its kind -/
def oks (n : Nat) (i : Ins) : Bool := match i.1 with
  | 0 => match i.2.1 with
    | 1 => decide (-128 ≤ i.2.2.2 ∧ i.2.2.2 < 128)
    | 2 => decide (-32768 ≤ i.2.2.2 ∧ i.2.2.2 < 32768)
    | _ => decide (-2147483648 ≤ i.2.2.2 ∧ i.2.2.2 < 2147483648)
  | 1 => decide (-9223372036854775808 ≤ i.2.2.2 ∧ i.2.2.2 < 9223372036854775808)
  | 4 => Nat.ble (i.2.1 + 1 + (bif Nat.beq i.2.2.1 1 then 1 else 0)) n
  | 5 => Nat.ble (i.2.1 + 1) n
  | _ => true
set_option maxRecDepth 100000 in
theorem oks_ok : (List.range 357).all (fun m => (inf m).2.2.all (fun b => b.2.2.all (oks (inf m).1))) = true := by decide +kernel

/-! decided: the code of every method, 1 (own work) -/
set_option maxRecDepth 100000 in
theorem kc_40 : chkM 40 = true := by decide +kernel
set_option maxRecDepth 100000 in
theorem kc_41 : chkM 41 = true := by decide +kernel
set_option maxRecDepth 100000 in
theorem kc_42 : chkM 42 = true := by decide +kernel
set_option maxRecDepth 100000 in
theorem kc_43 : chkM 43 = true := by decide +kernel
set_option maxRecDepth 100000 in
theorem kc_44 : chkM 44 = true := by decide +kernel
set_option maxRecDepth 100000 in
theorem kc_45 : chkM 45 = true := by decide +kernel
set_option maxRecDepth 100000 in
theorem kc_46 : chkM 46 = true := by decide +kernel
set_option maxRecDepth 100000 in
theorem kc_47 : chkM 47 = true := by decide +kernel
set_option maxRecDepth 100000 in
theorem kc_48 : chkM 48 = true := by decide +kernel
set_option maxRecDepth 100000 in
theorem kc_49 : chkM 49 = true := by decide +kernel
set_option maxRecDepth 100000 in
theorem kc_50 : chkM 50 = true := by decide +kernel
set_option maxRecDepth 100000 in
theorem kc_51 : chkM 51 = true := by decide +kernel
set_option maxRecDepth 100000 in
theorem kc_52 : chkM 52 = true := by decide +kernel
set_option maxRecDepth 100000 in
theorem kc_53 : chkM 53 = true := by decide +kernel
set_option maxRecDepth 100000 in
theorem kc_54 : chkM 54 = true := by decide +kernel
set_option maxRecDepth 100000 in
theorem kc_55 : chkM 55 = true := by decide +kernel
set_option maxRecDepth 100000 in
theorem kc_56 : chkM 56 = true := by decide +kernel
set_option maxRecDepth 100000 in
theorem kc_57 : chkM 57 = true := by decide +kernel
set_option maxRecDepth 100000 in
theorem kc_58 : chkM 58 = true := by decide +kernel
set_option maxRecDepth 100000 in
theorem kc_59 : chkM 59 = true := by decide +kernel
set_option maxRecDepth 100000 in
theorem kc_60 : chkM 60 = true := by decide +kernel
set_option maxRecDepth 100000 in
theorem kc_61 : chkM 61 = true := by decide +kernel
set_option maxRecDepth 100000 in
theorem kc_62 : chkM 62 = true := by decide +kernel
set_option maxRecDepth 100000 in
theorem kc_63 : chkM 63 = true := by decide +kernel
set_option maxRecDepth 100000 in
theorem kc_64 : chkM 64 = true := by decide +kernel
set_option maxRecDepth 100000 in
theorem kc_65 : chkM 65 = true := by decide +kernel
set_option maxRecDepth 100000 in
theorem kc_66 : chkM 66 = true := by decide +kernel
set_option maxRecDepth 100000 in
theorem kc_67 : chkM 67 = true := by decide +kernel
set_option maxRecDepth 100000 in
theorem kc_68 : chkM 68 = true := by decide +kernel
set_option maxRecDepth 100000 in
theorem kc_69 : chkM 69 = true := by decide +kernel
set_option maxRecDepth 100000 in
theorem kc_70 : chkM 70 = true := by decide +kernel
set_option maxRecDepth 100000 in
theorem kc_71 : chkM 71 = true := by decide +kernel
set_option maxRecDepth 100000 in
theorem kc_72 : chkM 72 = true := by decide +kernel
set_option maxRecDepth 100000 in
theorem kc_73 : chkM 73 = true := by decide +kernel
set_option maxRecDepth 100000 in
theorem kc_74 : chkM 74 = true := by decide +kernel
set_option maxRecDepth 100000 in
theorem kc_75 : chkM 75 = true := by decide +kernel
set_option maxRecDepth 100000 in
theorem kc_76 : chkM 76 = true := by decide +kernel
set_option maxRecDepth 100000 in
theorem kc_77 : chkM 77 = true := by decide +kernel
set_option maxRecDepth 100000 in
theorem kc_78 : chkM 78 = true := by decide +kernel
set_option maxRecDepth 100000 in
theorem kc_79 : chkM 79 = true := by decide +kernel
theorem kcr_1 : ∀ m, 40 ≤ m → m < 80 → chkM m = true := by
  intro m h1 h2
  obtain ⟨k, rfl⟩ := Nat.exists_eq_add_of_le h1
  match k, h2 with
  | 0, _ => exact kc_40
  | 1, _ => exact kc_41
  | 2, _ => exact kc_42
  | 3, _ => exact kc_43
  | 4, _ => exact kc_44
  | 5, _ => exact kc_45
  | 6, _ => exact kc_46
  | 7, _ => exact kc_47
  | 8, _ => exact kc_48
  | 9, _ => exact kc_49
  | 10, _ => exact kc_50
  | 11, _ => exact kc_51
  | 12, _ => exact kc_52
  | 13, _ => exact kc_53
  | 14, _ => exact kc_54
  | 15, _ => exact kc_55
  | 16, _ => exact kc_56
  | 17, _ => exact kc_57
  | 18, _ => exact kc_58
  | 19, _ => exact kc_59
  | 20, _ => exact kc_60
  | 21, _ => exact kc_61
  | 22, _ => exact kc_62
  | 23, _ => exact kc_63
  | 24, _ => exact kc_64
  | 25, _ => exact kc_65
  | 26, _ => exact kc_66
  | 27, _ => exact kc_67
  | 28, _ => exact kc_68
  | 29, _ => exact kc_69
  | 30, _ => exact kc_70
  | 31, _ => exact kc_71
  | 32, _ => exact kc_72
  | 33, _ => exact kc_73
  | 34, _ => exact kc_74
  | 35, _ => exact kc_75
  | 36, _ => exact kc_76
  | 37, _ => exact kc_77
  | 38, _ => exact kc_78
  | 39, _ => exact kc_79
  | k + 40, h => exact absurd h (by omega)

/-! decided: the code of every method, 2 (own work) -/
set_option maxRecDepth 100000 in
theorem kc_80 : chkM 80 = true := by decide +kernel
set_option maxRecDepth 100000 in
theorem kc_81 : chkM 81 = true := by decide +kernel
set_option maxRecDepth 100000 in
theorem kc_82 : chkM 82 = true := by decide +kernel
set_option maxRecDepth 100000 in
theorem kc_83 : chkM 83 = true := by decide +kernel
set_option maxRecDepth 100000 in
theorem kc_84 : chkM 84 = true := by decide +kernel
set_option maxRecDepth 100000 in
theorem kc_85 : chkM 85 = true := by decide +kernel
set_option maxRecDepth 100000 in
theorem kc_86 : chkM 86 = true := by decide +kernel
set_option maxRecDepth 100000 in
theorem kc_87 : chkM 87 = true := by decide +kernel
set_option maxRecDepth 100000 in
theorem kc_88 : chkM 88 = true := by decide +kernel
set_option maxRecDepth 100000 in
theorem kc_89 : chkM 89 = true := by decide +kernel
set_option maxRecDepth 100000 in
theorem kc_90 : chkM 90 = true := by decide +kernel
set_option maxRecDepth 100000 in
theorem kc_91 : chkM 91 = true := by decide +kernel
set_option maxRecDepth 100000 in
theorem kc_92 : chkM 92 = true := by decide +kernel
set_option maxRecDepth 100000 in
theorem kc_93 : chkM 93 = true := by decide +kernel
set_option maxRecDepth 100000 in
theorem kc_94 : chkM 94 = true := by decide +kernel
set_option maxRecDepth 100000 in
theorem kc_95 : chkM 95 = true := by decide +kernel
set_option maxRecDepth 100000 in
theorem kc_96 : chkM 96 = true := by decide +kernel
set_option maxRecDepth 100000 in
theorem kc_97 : chkM 97 = true := by decide +kernel
set_option maxRecDepth 100000 in
theorem kc_98 : chkM 98 = true := by decide +kernel
set_option maxRecDepth 100000 in
theorem kc_99 : chkM 99 = true := by decide +kernel
set_option maxRecDepth 100000 in
theorem kc_100 : chkM 100 = true := by decide +kernel
set_option maxRecDepth 100000 in
theorem kc_101 : chkM 101 = true := by decide +kernel
set_option maxRecDepth 100000 in
theorem kc_102 : chkM 102 = true := by decide +kernel
set_option maxRecDepth 100000 in
theorem kc_103 : chkM 103 = true := by decide +kernel
set_option maxRecDepth 100000 in
theorem kc_104 : chkM 104 = true := by decide +kernel
set_option maxRecDepth 100000 in
theorem kc_105 : chkM 105 = true := by decide +kernel
set_option maxRecDepth 100000 in
theorem kc_106 : chkM 106 = true := by decide +kernel
set_option maxRecDepth 100000 in
theorem kc_107 : chkM 107 = true := by decide +kernel
set_option maxRecDepth 100000 in
theorem kc_108 : chkM 108 = true := by decide +kernel
set_option maxRecDepth 100000 in
theorem kc_109 : chkM 109 = true := by decide +kernel
set_option maxRecDepth 100000 in
theorem kc_110 : chkM 110 = true := by decide +kernel
set_option maxRecDepth 100000 in
theorem kc_111 : chkM 111 = true := by decide +kernel
set_option maxRecDepth 100000 in
theorem kc_112 : chkM 112 = true := by decide +kernel
set_option maxRecDepth 100000 in
theorem kc_113 : chkM 113 = true := by decide +kernel
set_option maxRecDepth 100000 in
theorem kc_114 : chkM 114 = true := by decide +kernel
set_option maxRecDepth 100000 in
theorem kc_115 : chkM 115 = true := by decide +kernel
set_option maxRecDepth 100000 in
theorem kc_116 : chkM 116 = true := by decide +kernel
set_option maxRecDepth 100000 in
theorem kc_117 : chkM 117 = true := by decide +kernel
set_option maxRecDepth 100000 in
theorem kc_118 : chkM 118 = true := by decide +kernel
set_option maxRecDepth 100000 in
theorem kc_119 : chkM 119 = true := by decide +kernel
theorem kcr_2 : ∀ m, 80 ≤ m → m < 120 → chkM m = true := by
  intro m h1 h2
  obtain ⟨k, rfl⟩ := Nat.exists_eq_add_of_le h1
  match k, h2 with
  | 0, _ => exact kc_80
  | 1, _ => exact kc_81
  | 2, _ => exact kc_82
  | 3, _ => exact kc_83
  | 4, _ => exact kc_84
  | 5, _ => exact kc_85
  | 6, _ => exact kc_86
  | 7, _ => exact kc_87
  | 8, _ => exact kc_88
  | 9, _ => exact kc_89
  | 10, _ => exact kc_90
  | 11, _ => exact kc_91
  | 12, _ => exact kc_92
  | 13, _ => exact kc_93
  | 14, _ => exact kc_94
  | 15, _ => exact kc_95
  | 16, _ => exact kc_96
  | 17, _ => exact kc_97
  | 18, _ => exact kc_98
  | 19, _ => exact kc_99
  | 20, _ => exact kc_100
  | 21, _ => exact kc_101
  | 22, _ => exact kc_102
  | 23, _ => exact kc_103
  | 24, _ => exact kc_104
  | 25, _ => exact kc_105
  | 26, _ => exact kc_106
  | 27, _ => exact kc_107
  | 28, _ => exact kc_108
  | 29, _ => exact kc_109
  | 30, _ => exact kc_110
  | 31, _ => exact kc_111
  | 32, _ => exact kc_112
  | 33, _ => exact kc_113
  | 34, _ => exact kc_114
  | 35, _ => exact kc_115
  | 36, _ => exact kc_116
  | 37, _ => exact kc_117
  | 38, _ => exact kc_118
  | 39, _ => exact kc_119
  | k + 40, h => exact absurd h (by omega)

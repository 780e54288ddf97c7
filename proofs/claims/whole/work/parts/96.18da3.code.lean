/-! decided: the code of every method, 3 (own work) -/
set_option maxRecDepth 100000 in
theorem kc_120 : chkM 120 = true := by decide +kernel
set_option maxRecDepth 100000 in
theorem kc_121 : chkM 121 = true := by decide +kernel
set_option maxRecDepth 100000 in
theorem kc_122 : chkM 122 = true := by decide +kernel
set_option maxRecDepth 100000 in
theorem kc_123 : chkM 123 = true := by decide +kernel
set_option maxRecDepth 100000 in
theorem kc_124 : chkM 124 = true := by decide +kernel
set_option maxRecDepth 100000 in
theorem kc_125 : chkM 125 = true := by decide +kernel
set_option maxRecDepth 100000 in
theorem kc_126 : chkM 126 = true := by decide +kernel
set_option maxRecDepth 100000 in
theorem kc_127 : chkM 127 = true := by decide +kernel
set_option maxRecDepth 100000 in
theorem kc_128 : chkM 128 = true := by decide +kernel
set_option maxRecDepth 100000 in
theorem kc_129 : chkM 129 = true := by decide +kernel
set_option maxRecDepth 100000 in
theorem kc_130 : chkM 130 = true := by decide +kernel
set_option maxRecDepth 100000 in
theorem kc_131 : chkM 131 = true := by decide +kernel
set_option maxRecDepth 100000 in
theorem kc_132 : chkM 132 = true := by decide +kernel
set_option maxRecDepth 100000 in
theorem kc_133 : chkM 133 = true := by decide +kernel
set_option maxRecDepth 100000 in
theorem kc_134 : chkM 134 = true := by decide +kernel
set_option maxRecDepth 100000 in
theorem kc_135 : chkM 135 = true := by decide +kernel
set_option maxRecDepth 100000 in
theorem kc_136 : chkM 136 = true := by decide +kernel
set_option maxRecDepth 100000 in
theorem kc_137 : chkM 137 = true := by decide +kernel
set_option maxRecDepth 100000 in
theorem kc_138 : chkM 138 = true := by decide +kernel
set_option maxRecDepth 100000 in
theorem kc_139 : chkM 139 = true := by decide +kernel
set_option maxRecDepth 100000 in
theorem kc_140 : chkM 140 = true := by decide +kernel
set_option maxRecDepth 100000 in
theorem kc_141 : chkM 141 = true := by decide +kernel
set_option maxRecDepth 100000 in
theorem kc_142 : chkM 142 = true := by decide +kernel
set_option maxRecDepth 100000 in
theorem kc_143 : chkM 143 = true := by decide +kernel
set_option maxRecDepth 100000 in
theorem kc_144 : chkM 144 = true := by decide +kernel
set_option maxRecDepth 100000 in
theorem kc_145 : chkM 145 = true := by decide +kernel
set_option maxRecDepth 100000 in
theorem kc_146 : chkM 146 = true := by decide +kernel
set_option maxRecDepth 100000 in
theorem kc_147 : chkM 147 = true := by decide +kernel
set_option maxRecDepth 100000 in
theorem kc_148 : chkM 148 = true := by decide +kernel
set_option maxRecDepth 100000 in
theorem kc_149 : chkM 149 = true := by decide +kernel
set_option maxRecDepth 100000 in
theorem kc_150 : chkM 150 = true := by decide +kernel
set_option maxRecDepth 100000 in
theorem kc_151 : chkM 151 = true := by decide +kernel
set_option maxRecDepth 100000 in
theorem kc_152 : chkM 152 = true := by decide +kernel
set_option maxRecDepth 100000 in
theorem kc_153 : chkM 153 = true := by decide +kernel
set_option maxRecDepth 100000 in
theorem kc_154 : chkM 154 = true := by decide +kernel
set_option maxRecDepth 100000 in
theorem kc_155 : chkM 155 = true := by decide +kernel
set_option maxRecDepth 100000 in
theorem kc_156 : chkM 156 = true := by decide +kernel
set_option maxRecDepth 100000 in
theorem kc_157 : chkM 157 = true := by decide +kernel
set_option maxRecDepth 100000 in
theorem kc_158 : chkM 158 = true := by decide +kernel
set_option maxRecDepth 100000 in
theorem kc_159 : chkM 159 = true := by decide +kernel
theorem kcr_3 : ∀ m, 120 ≤ m → m < 160 → chkM m = true := by
  intro m h1 h2
  obtain ⟨k, rfl⟩ := Nat.exists_eq_add_of_le h1
  match k, h2 with
  | 0, _ => exact kc_120
  | 1, _ => exact kc_121
  | 2, _ => exact kc_122
  | 3, _ => exact kc_123
  | 4, _ => exact kc_124
  | 5, _ => exact kc_125
  | 6, _ => exact kc_126
  | 7, _ => exact kc_127
  | 8, _ => exact kc_128
  | 9, _ => exact kc_129
  | 10, _ => exact kc_130
  | 11, _ => exact kc_131
  | 12, _ => exact kc_132
  | 13, _ => exact kc_133
  | 14, _ => exact kc_134
  | 15, _ => exact kc_135
  | 16, _ => exact kc_136
  | 17, _ => exact kc_137
  | 18, _ => exact kc_138
  | 19, _ => exact kc_139
  | 20, _ => exact kc_140
  | 21, _ => exact kc_141
  | 22, _ => exact kc_142
  | 23, _ => exact kc_143
  | 24, _ => exact kc_144
  | 25, _ => exact kc_145
  | 26, _ => exact kc_146
  | 27, _ => exact kc_147
  | 28, _ => exact kc_148
  | 29, _ => exact kc_149
  | 30, _ => exact kc_150
  | 31, _ => exact kc_151
  | 32, _ => exact kc_152
  | 33, _ => exact kc_153
  | 34, _ => exact kc_154
  | 35, _ => exact kc_155
  | 36, _ => exact kc_156
  | 37, _ => exact kc_157
  | 38, _ => exact kc_158
  | 39, _ => exact kc_159
  | k + 40, h => exact absurd h (by omega)

/-! the tables hold, method by method -/
set_option maxRecDepth 100000 in
theorem ai_k120 : ai_mk am_120 = true := by decide +kernel
set_option maxRecDepth 100000 in
theorem ai_k121 : ai_mk am_121 = true := by decide +kernel
set_option maxRecDepth 100000 in
theorem ai_k122 : ai_mk am_122 = true := by decide +kernel
set_option maxRecDepth 100000 in
theorem ai_k123 : ai_mk am_123 = true := by decide +kernel
set_option maxRecDepth 100000 in
theorem ai_k124 : ai_mk am_124 = true := by decide +kernel
set_option maxRecDepth 100000 in
theorem ai_k125 : ai_mk am_125 = true := by decide +kernel
set_option maxRecDepth 100000 in
theorem ai_k126 : ai_mk am_126 = true := by decide +kernel
set_option maxRecDepth 100000 in
theorem ai_k127 : ai_mk am_127 = true := by decide +kernel
set_option maxRecDepth 100000 in
theorem ai_k128 : ai_mk am_128 = true := by decide +kernel
set_option maxRecDepth 100000 in
theorem ai_k129 : ai_mk am_129 = true := by decide +kernel
set_option maxRecDepth 100000 in
theorem ai_k130 : ai_mk am_130 = true := by decide +kernel
set_option maxRecDepth 100000 in
theorem ai_k131 : ai_mk am_131 = true := by decide +kernel
set_option maxRecDepth 100000 in
theorem ai_k132 : ai_mk am_132 = true := by decide +kernel
set_option maxRecDepth 100000 in
theorem ai_k133 : ai_mk am_133 = true := by decide +kernel
set_option maxRecDepth 100000 in
theorem ai_k134 : ai_mk am_134 = true := by decide +kernel
set_option maxRecDepth 100000 in
theorem ai_k135 : ai_mk am_135 = true := by decide +kernel
set_option maxRecDepth 100000 in
theorem ai_k136 : ai_mk am_136 = true := by decide +kernel
set_option maxRecDepth 100000 in
theorem ai_k137 : ai_mk am_137 = true := by decide +kernel
set_option maxRecDepth 100000 in
theorem ai_k138 : ai_mk am_138 = true := by decide +kernel
set_option maxRecDepth 100000 in
theorem ai_k139 : ai_mk am_139 = true := by decide +kernel
set_option maxRecDepth 100000 in
theorem ai_k140 : ai_mk am_140 = true := by decide +kernel
set_option maxRecDepth 100000 in
theorem ai_k141 : ai_mk am_141 = true := by decide +kernel
set_option maxRecDepth 100000 in
theorem ai_k142 : ai_mk am_142 = true := by decide +kernel
set_option maxRecDepth 100000 in
theorem ai_k143 : ai_mk am_143 = true := by decide +kernel
set_option maxRecDepth 100000 in
theorem ai_k144 : ai_mk am_144 = true := by decide +kernel
set_option maxRecDepth 100000 in
theorem ai_k145 : ai_mk am_145 = true := by decide +kernel
set_option maxRecDepth 100000 in
theorem ai_k146 : ai_mk am_146 = true := by decide +kernel
set_option maxRecDepth 100000 in
theorem ai_k147 : ai_mk am_147 = true := by decide +kernel
set_option maxRecDepth 100000 in
theorem ai_k148 : ai_mk am_148 = true := by decide +kernel
set_option maxRecDepth 100000 in
theorem ai_k149 : ai_mk am_149 = true := by decide +kernel
set_option maxRecDepth 100000 in
theorem ai_k150 : ai_mk am_150 = true := by decide +kernel
set_option maxRecDepth 100000 in
theorem ai_k151 : ai_mk am_151 = true := by decide +kernel
set_option maxRecDepth 100000 in
theorem ai_k152 : ai_mk am_152 = true := by decide +kernel
set_option maxRecDepth 100000 in
theorem ai_k153 : ai_mk am_153 = true := by decide +kernel
set_option maxRecDepth 100000 in
theorem ai_k154 : ai_mk am_154 = true := by decide +kernel
set_option maxRecDepth 100000 in
theorem ai_k155 : ai_mk am_155 = true := by decide +kernel
set_option maxRecDepth 100000 in
theorem ai_k156 : ai_mk am_156 = true := by decide +kernel
set_option maxRecDepth 100000 in
theorem ai_k157 : ai_mk am_157 = true := by decide +kernel
set_option maxRecDepth 100000 in
theorem ai_k158 : ai_mk am_158 = true := by decide +kernel
set_option maxRecDepth 100000 in
theorem ai_k159 : ai_mk am_159 = true := by decide +kernel
set_option maxRecDepth 100000 in
theorem ai_k160 : ai_mk am_160 = true := by decide +kernel
set_option maxRecDepth 100000 in
theorem ai_k161 : ai_mk am_161 = true := by decide +kernel
set_option maxRecDepth 100000 in
theorem ai_k162 : ai_mk am_162 = true := by decide +kernel
set_option maxRecDepth 100000 in
theorem ai_k163 : ai_mk am_163 = true := by decide +kernel
set_option maxRecDepth 100000 in
theorem ai_k164 : ai_mk am_164 = true := by decide +kernel
set_option maxRecDepth 100000 in
theorem ai_k165 : ai_mk am_165 = true := by decide +kernel
set_option maxRecDepth 100000 in
theorem ai_k166 : ai_mk am_166 = true := by decide +kernel
set_option maxRecDepth 100000 in
theorem ai_k167 : ai_mk am_167 = true := by decide +kernel
set_option maxRecDepth 100000 in
theorem ai_k168 : ai_mk am_168 = true := by decide +kernel
set_option maxRecDepth 100000 in
theorem ai_k169 : ai_mk am_169 = true := by decide +kernel
set_option maxRecDepth 100000 in
theorem ai_k170 : ai_mk am_170 = true := by decide +kernel
set_option maxRecDepth 100000 in
theorem ai_k171 : ai_mk am_171 = true := by decide +kernel
set_option maxRecDepth 100000 in
theorem ai_k172 : ai_mk am_172 = true := by decide +kernel
set_option maxRecDepth 100000 in
theorem ai_k173 : ai_mk am_173 = true := by decide +kernel
set_option maxRecDepth 100000 in
theorem ai_k174 : ai_mk am_174 = true := by decide +kernel
set_option maxRecDepth 100000 in
theorem ai_k175 : ai_mk am_175 = true := by decide +kernel
set_option maxRecDepth 100000 in
theorem ai_k176 : ai_mk am_176 = true := by decide +kernel
set_option maxRecDepth 100000 in
theorem ai_k177 : ai_mk am_177 = true := by decide +kernel
set_option maxRecDepth 100000 in
theorem ai_k178 : ai_mk am_178 = true := by decide +kernel
set_option maxRecDepth 100000 in
theorem ai_k179 : ai_mk am_179 = true := by decide +kernel

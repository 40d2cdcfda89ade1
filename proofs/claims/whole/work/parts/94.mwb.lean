set_option maxRecDepth 20000 in
theorem mw_110 : g_mwk 110 = true := by decide +kernel
set_option maxRecDepth 20000 in
theorem mw_111 : g_mwk 111 = true := by decide +kernel
set_option maxRecDepth 20000 in
theorem mw_112 : g_mwk 112 = true := by decide +kernel
set_option maxRecDepth 20000 in
theorem mw_113 : g_mwk 113 = true := by decide +kernel
set_option maxRecDepth 20000 in
theorem mw_114 : g_mwk 114 = true := by decide +kernel
set_option maxRecDepth 20000 in
theorem mw_115 : g_mwk 115 = true := by decide +kernel
set_option maxRecDepth 20000 in
theorem mw_116 : g_mwk 116 = true := by decide +kernel
set_option maxRecDepth 20000 in
theorem mw_117 : g_mwk 117 = true := by decide +kernel
set_option maxRecDepth 20000 in
theorem mw_118 : g_mwk 118 = true := by decide +kernel
set_option maxRecDepth 20000 in
theorem mw_119 : g_mwk 119 = true := by decide +kernel
set_option maxRecDepth 20000 in
theorem mw_120 : g_mwk 120 = true := by decide +kernel
set_option maxRecDepth 20000 in
theorem mw_121 : g_mwk 121 = true := by decide +kernel
set_option maxRecDepth 20000 in
theorem mw_122 : g_mwk 122 = true := by decide +kernel
set_option maxRecDepth 20000 in
theorem mw_123 : g_mwk 123 = true := by decide +kernel
set_option maxRecDepth 20000 in
theorem mw_124 : g_mwk 124 = true := by decide +kernel
set_option maxRecDepth 20000 in
theorem mw_125 : g_mwk 125 = true := by decide +kernel
set_option maxRecDepth 20000 in
theorem mw_126 : g_mwk 126 = true := by decide +kernel
set_option maxRecDepth 20000 in
theorem mw_127 : g_mwk 127 = true := by decide +kernel
set_option maxRecDepth 20000 in
theorem mw_128 : g_mwk 128 = true := by decide +kernel
set_option maxRecDepth 20000 in
theorem mw_129 : g_mwk 129 = true := by decide +kernel
set_option maxRecDepth 20000 in
theorem mw_130 : g_mwk 130 = true := by decide +kernel
set_option maxRecDepth 20000 in
theorem mw_131 : g_mwk 131 = true := by decide +kernel
set_option maxRecDepth 20000 in
theorem mw_132 : g_mwk 132 = true := by decide +kernel
set_option maxRecDepth 20000 in
theorem mw_133 : g_mwk 133 = true := by decide +kernel
set_option maxRecDepth 20000 in
theorem mw_134 : g_mwk 134 = true := by decide +kernel
set_option maxRecDepth 20000 in
theorem mw_135 : g_mwk 135 = true := by decide +kernel
set_option maxRecDepth 20000 in
theorem mw_136 : g_mwk 136 = true := by decide +kernel
set_option maxRecDepth 20000 in
theorem mw_137 : g_mwk 137 = true := by decide +kernel
set_option maxRecDepth 20000 in
theorem mw_138 : g_mwk 138 = true := by decide +kernel
set_option maxRecDepth 20000 in
theorem mw_139 : g_mwk 139 = true := by decide +kernel
set_option maxRecDepth 20000 in
theorem mw_140 : g_mwk 140 = true := by decide +kernel
set_option maxRecDepth 20000 in
theorem mw_141 : g_mwk 141 = true := by decide +kernel
set_option maxRecDepth 20000 in
theorem mw_142 : g_mwk 142 = true := by decide +kernel
set_option maxRecDepth 20000 in
theorem mw_143 : g_mwk 143 = true := by decide +kernel
set_option maxRecDepth 20000 in
theorem mw_144 : g_mwk 144 = true := by decide +kernel
set_option maxRecDepth 20000 in
theorem mw_145 : g_mwk 145 = true := by decide +kernel
set_option maxRecDepth 20000 in
theorem mw_146 : g_mwk 146 = true := by decide +kernel
set_option maxRecDepth 20000 in
theorem mw_147 : g_mwk 147 = true := by decide +kernel
set_option maxRecDepth 20000 in
theorem mw_148 : g_mwk 148 = true := by decide +kernel
set_option maxRecDepth 20000 in
theorem mw_149 : g_mwk 149 = true := by decide +kernel
set_option maxRecDepth 20000 in
theorem mw_150 : g_mwk 150 = true := by decide +kernel
set_option maxRecDepth 20000 in
theorem mw_151 : g_mwk 151 = true := by decide +kernel
set_option maxRecDepth 20000 in
theorem mw_152 : g_mwk 152 = true := by decide +kernel
set_option maxRecDepth 20000 in
theorem mw_153 : g_mwk 153 = true := by decide +kernel
set_option maxRecDepth 20000 in
theorem mw_154 : g_mwk 154 = true := by decide +kernel
set_option maxRecDepth 20000 in
theorem mw_155 : g_mwk 155 = true := by decide +kernel
set_option maxRecDepth 20000 in
theorem mw_156 : g_mwk 156 = true := by decide +kernel
set_option maxRecDepth 20000 in
theorem mw_157 : g_mwk 157 = true := by decide +kernel
set_option maxRecDepth 20000 in
theorem mw_158 : g_mwk 158 = true := by decide +kernel
set_option maxRecDepth 20000 in
theorem mw_159 : g_mwk 159 = true := by decide +kernel
set_option maxRecDepth 20000 in
theorem mw_160 : g_mwk 160 = true := by decide +kernel
set_option maxRecDepth 20000 in
theorem mw_161 : g_mwk 161 = true := by decide +kernel
set_option maxRecDepth 20000 in
theorem mw_162 : g_mwk 162 = true := by decide +kernel
set_option maxRecDepth 20000 in
theorem mw_163 : g_mwk 163 = true := by decide +kernel
set_option maxRecDepth 20000 in
theorem mw_164 : g_mwk 164 = true := by decide +kernel
set_option maxRecDepth 20000 in
theorem mw_165 : g_mwk 165 = true := by decide +kernel
set_option maxRecDepth 20000 in
theorem mw_166 : g_mwk 166 = true := by decide +kernel
set_option maxRecDepth 20000 in
theorem mw_167 : g_mwk 167 = true := by decide +kernel
set_option maxRecDepth 20000 in
theorem mw_168 : g_mwk 168 = true := by decide +kernel
set_option maxRecDepth 20000 in
theorem mw_169 : g_mwk 169 = true := by decide +kernel
set_option maxRecDepth 20000 in
theorem mw_170 : g_mwk 170 = true := by decide +kernel
set_option maxRecDepth 20000 in
theorem mw_171 : g_mwk 171 = true := by decide +kernel
set_option maxRecDepth 20000 in
theorem mw_172 : g_mwk 172 = true := by decide +kernel
set_option maxRecDepth 20000 in
theorem mw_173 : g_mwk 173 = true := by decide +kernel
set_option maxRecDepth 20000 in
theorem mw_174 : g_mwk 174 = true := by decide +kernel
set_option maxRecDepth 20000 in
theorem mw_175 : g_mwk 175 = true := by decide +kernel
set_option maxRecDepth 20000 in
theorem mw_176 : g_mwk 176 = true := by decide +kernel
set_option maxRecDepth 20000 in
theorem mw_177 : g_mwk 177 = true := by decide +kernel
set_option maxRecDepth 20000 in
theorem mw_178 : g_mwk 178 = true := by decide +kernel
set_option maxRecDepth 20000 in
theorem mw_179 : g_mwk 179 = true := by decide +kernel
set_option maxRecDepth 20000 in
theorem mw_180 : g_mwk 180 = true := by decide +kernel
set_option maxRecDepth 20000 in
theorem mw_181 : g_mwk 181 = true := by decide +kernel
set_option maxRecDepth 20000 in
theorem mw_182 : g_mwk 182 = true := by decide +kernel
set_option maxRecDepth 20000 in
theorem mw_183 : g_mwk 183 = true := by decide +kernel
set_option maxRecDepth 20000 in
theorem mw_184 : g_mwk 184 = true := by decide +kernel
set_option maxRecDepth 20000 in
theorem mw_185 : g_mwk 185 = true := by decide +kernel
set_option maxRecDepth 20000 in
theorem mw_186 : g_mwk 186 = true := by decide +kernel
set_option maxRecDepth 20000 in
theorem mw_187 : g_mwk 187 = true := by decide +kernel
set_option maxRecDepth 20000 in
theorem mw_188 : g_mwk 188 = true := by decide +kernel
set_option maxRecDepth 20000 in
theorem mw_189 : g_mwk 189 = true := by decide +kernel
set_option maxRecDepth 20000 in
theorem mw_190 : g_mwk 190 = true := by decide +kernel
set_option maxRecDepth 20000 in
theorem mw_191 : g_mwk 191 = true := by decide +kernel
set_option maxRecDepth 20000 in
theorem mw_192 : g_mwk 192 = true := by decide +kernel
set_option maxRecDepth 20000 in
theorem mw_193 : g_mwk 193 = true := by decide +kernel
set_option maxRecDepth 20000 in
theorem mw_194 : g_mwk 194 = true := by decide +kernel
set_option maxRecDepth 20000 in
theorem mw_195 : g_mwk 195 = true := by decide +kernel
set_option maxRecDepth 20000 in
theorem mw_196 : g_mwk 196 = true := by decide +kernel
set_option maxRecDepth 20000 in
theorem mw_197 : g_mwk 197 = true := by decide +kernel
set_option maxRecDepth 20000 in
theorem mw_198 : g_mwk 198 = true := by decide +kernel
set_option maxRecDepth 20000 in
theorem mw_199 : g_mwk 199 = true := by decide +kernel
set_option maxRecDepth 20000 in
theorem mw_200 : g_mwk 200 = true := by decide +kernel
set_option maxRecDepth 20000 in
theorem mw_201 : g_mwk 201 = true := by decide +kernel
set_option maxRecDepth 20000 in
theorem mw_202 : g_mwk 202 = true := by decide +kernel
set_option maxRecDepth 20000 in
theorem mw_203 : g_mwk 203 = true := by decide +kernel
set_option maxRecDepth 20000 in
theorem mw_204 : g_mwk 204 = true := by decide +kernel
set_option maxRecDepth 20000 in
theorem mw_205 : g_mwk 205 = true := by decide +kernel
set_option maxRecDepth 20000 in
theorem mw_206 : g_mwk 206 = true := by decide +kernel
set_option maxRecDepth 20000 in
theorem mw_207 : g_mwk 207 = true := by decide +kernel
set_option maxRecDepth 20000 in
theorem mw_208 : g_mwk 208 = true := by decide +kernel
set_option maxRecDepth 20000 in
theorem mw_209 : g_mwk 209 = true := by decide +kernel
set_option maxRecDepth 20000 in
theorem mw_210 : g_mwk 210 = true := by decide +kernel
set_option maxRecDepth 20000 in
theorem mw_211 : g_mwk 211 = true := by decide +kernel
set_option maxRecDepth 20000 in
theorem mw_212 : g_mwk 212 = true := by decide +kernel
set_option maxRecDepth 20000 in
theorem mw_213 : g_mwk 213 = true := by decide +kernel
set_option maxRecDepth 20000 in
theorem mw_214 : g_mwk 214 = true := by decide +kernel
set_option maxRecDepth 20000 in
theorem mw_215 : g_mwk 215 = true := by decide +kernel
set_option maxRecDepth 20000 in
theorem mw_216 : g_mwk 216 = true := by decide +kernel
set_option maxRecDepth 20000 in
theorem mw_217 : g_mwk 217 = true := by decide +kernel
set_option maxRecDepth 20000 in
theorem mw_218 : g_mwk 218 = true := by decide +kernel
set_option maxRecDepth 20000 in
theorem mw_219 : g_mwk 219 = true := by decide +kernel
set_option maxRecDepth 20000 in
theorem mw_220 : g_mwk 220 = true := by decide +kernel

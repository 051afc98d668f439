/-- what the pure part gives: every call of both sides answers, alike, and the tie J holds on -/
def JStp (J : Mem → Mem → Prop) : Prop :=
  (∀ (μ ν : Mem) (a1 a2 a3 : Int32), J μ ν → ∃ (r : Int32) (μ' : Mem) (ν' : Mem), f_LR_strip μ a1 a2 a3 = some (r, μ') ∧ f_MO_strip ν a1 a2 a3 = some (r, ν') ∧ J μ' ν') ∧
  (∀ (μ ν : Mem) (a1 a2 a3 : Int32), J μ ν → ∃ (r : Int32) (μ' : Mem) (ν' : Mem), f_LR_put μ a1 a2 a3 = some (r, μ') ∧ f_MO_put ν a1 a2 a3 = some (r, ν') ∧ J μ' ν') ∧
  (∀ (μ ν : Mem) (a1 a2 a3 a4 a5 : Int32), J μ ν → ∃ (r : Int32) (μ' : Mem) (ν' : Mem), f_LR_copy μ a1 a2 a3 a4 a5 = some (r, μ') ∧ f_MO_copy ν a1 a2 a3 a4 a5 = some (r, ν') ∧ J μ' ν') ∧
  (∀ (μ ν : Mem) (a1 a2 : Int32), J μ ν → ∃ (r : Int64), f_LR_told μ a1 a2 = some r ∧ f_MO_told ν a1 a2 = some r ∧ J μ ν) ∧
  (∀ (μ ν : Mem) (a1 a2 : Int32), J μ ν → ∃ (r : Int32) (μ' : Mem) (ν' : Mem), f_LR_lay μ a1 a2 = some (r, μ') ∧ f_MO_lay ν a1 a2 = some (r, ν') ∧ J μ' ν') ∧
  (∀ (μ ν : Mem) (a1 a2 : Int32), J μ ν → ∃ (r : Int32), f_LR_field μ a1 a2 = some r ∧ f_MO_field ν a1 a2 = some r ∧ J μ ν) ∧
  (∀ (μ ν : Mem) (a1 : Int32), J μ ν → ∃ (r : Int32), f_LR_hollow μ a1 = some r ∧ f_MO_hollow ν a1 = some r ∧ J μ ν) ∧
  (∀ (μ ν : Mem) (a1 a2 : Int32), J μ ν → ∃ (r : Int32), f_LR_lake μ a1 a2 = some r ∧ f_MO_lake ν a1 a2 = some r ∧ J μ ν) ∧
  (∀ (μ ν : Mem) (a1 a2 : Int32), J μ ν → ∃ (r : Int32), f_LR_ground μ a1 a2 = some r ∧ f_MO_ground ν a1 a2 = some r ∧ J μ ν) ∧
  (∀ (μ ν : Mem) (a1 a2 : Int32), J μ ν → ∃ (r : Int32), f_LR_holds μ a1 a2 = some r ∧ f_MO_holds ν a1 a2 = some r ∧ J μ ν) ∧
  (∀ (μ ν : Mem) (a1 a2 : Int32), J μ ν → ∃ (r : Int32), f_LR_area μ a1 a2 = some r ∧ f_MO_area ν a1 a2 = some r ∧ J μ ν) ∧
  (∀ (μ ν : Mem) (a1 a2 : Int32), J μ ν → ∃ (r : Int32) (μ' : Mem) (ν' : Mem), f_LR_pour μ a1 a2 = some (r, μ') ∧ f_MO_pour ν a1 a2 = some (r, ν') ∧ J μ' ν') ∧
  (∀ (μ ν : Mem) (a1 a2 : Int32), J μ ν → ∃ (r : Int32) (ν' : Mem), f_LR_level μ a1 a2 = some r ∧ f_MO_level ν a1 a2 = some (r, ν') ∧ J μ ν') ∧
  (∀ (μ ν : Mem) (a1 : Int32), J μ ν → ∃ (r : Int32), f_LR_rise μ a1 = some r ∧ f_MO_rise ν a1 = some r ∧ J μ ν) ∧
  (∀ (μ ν : Mem) (a1 : Int32), J μ ν → ∃ (r : Int32) (μ' : Mem) (ν' : Mem), f_LR_islands μ a1 = some (r, μ') ∧ f_MO_islands ν a1 = some (r, ν') ∧ J μ' ν') ∧
  (∀ (μ ν : Mem) (a1 : Int32), J μ ν → ∃ (r : Int64), f_LR_count μ a1 = some r ∧ f_MO_count ν a1 = some r ∧ J μ ν)
theorem d_law_0 : decode code 0 = .ok (.new 7, 3) := by decide +kernel
theorem d_law_3 : decode code 3 = .ok (.dup, 1) := by decide +kernel
theorem d_law_4 : decode code 4 = .ok (.invokespecial 9, 3) := by decide +kernel
theorem d_law_7 : decode code 7 = .ok (.astore_n 1, 1) := by decide +kernel
theorem d_law_8 : decode code 8 = .ok (.new 10, 3) := by decide +kernel
theorem d_law_11 : decode code 11 = .ok (.dup, 1) := by decide +kernel
theorem d_law_12 : decode code 12 = .ok (.invokespecial 12, 3) := by decide +kernel
theorem d_law_15 : decode code 15 = .ok (.astore_n 2, 1) := by decide +kernel
theorem d_law_16 : decode code 16 = .ok (.iconst 0, 1) := by decide +kernel
theorem d_law_17 : decode code 17 = .ok (.istore_n 3, 1) := by decide +kernel
theorem d_law_18 : decode code 18 = .ok (.iload_n 3, 1) := by decide +kernel
theorem d_law_19 : decode code 19 = .ok (.aload_n 0, 1) := by decide +kernel
theorem d_law_20 : decode code 20 = .ok (.arraylength, 1) := by decide +kernel
theorem d_law_21 : decode code 21 = .ok (.bipush 6, 2) := by decide +kernel
theorem d_law_23 : decode code 23 = .ok (.isub, 1) := by decide +kernel
theorem d_law_24 : decode code 24 = .ok (.if_icmp .gt 634, 3) := by decide +kernel
theorem d_law_27 : decode code 27 = .ok (.aload_n 0, 1) := by decide +kernel
theorem d_law_28 : decode code 28 = .ok (.iload_n 3, 1) := by decide +kernel
theorem d_law_29 : decode code 29 = .ok (.iaload, 1) := by decide +kernel
theorem d_law_30 : decode code 30 = .ok (.bipush 15, 2) := by decide +kernel
theorem d_law_32 : decode code 32 = .ok (.iand, 1) := by decide +kernel
theorem d_law_33 : decode code 33 = .ok (.tableswitch 619 0 15 #[79, 122, 165, 228, 262, 295, 328, 351, 384, 417, 450, 483, 516, 549, 572, 595], 79) := by decide +kernel
theorem d_law_112 : decode code 112 = .ok (.aload_n 1, 1) := by decide +kernel
theorem d_law_113 : decode code 113 = .ok (.aload_n 0, 1) := by decide +kernel
theorem d_law_114 : decode code 114 = .ok (.iload_n 3, 1) := by decide +kernel
theorem d_law_115 : decode code 115 = .ok (.iconst 1, 1) := by decide +kernel
theorem d_law_116 : decode code 116 = .ok (.iadd, 1) := by decide +kernel
theorem d_law_117 : decode code 117 = .ok (.iaload, 1) := by decide +kernel
theorem d_law_118 : decode code 118 = .ok (.aload_n 0, 1) := by decide +kernel
theorem d_law_119 : decode code 119 = .ok (.iload_n 3, 1) := by decide +kernel
theorem d_law_120 : decode code 120 = .ok (.iconst 2, 1) := by decide +kernel
theorem d_law_121 : decode code 121 = .ok (.iadd, 1) := by decide +kernel
theorem d_law_122 : decode code 122 = .ok (.iaload, 1) := by decide +kernel
theorem d_law_123 : decode code 123 = .ok (.aload_n 0, 1) := by decide +kernel
theorem d_law_124 : decode code 124 = .ok (.iload_n 3, 1) := by decide +kernel
theorem d_law_125 : decode code 125 = .ok (.iconst 3, 1) := by decide +kernel
theorem d_law_126 : decode code 126 = .ok (.iadd, 1) := by decide +kernel
theorem d_law_127 : decode code 127 = .ok (.iaload, 1) := by decide +kernel
theorem d_law_128 : decode code 128 = .ok (.invokevirtual 13, 3) := by decide +kernel
theorem d_law_131 : decode code 131 = .ok (.aload_n 2, 1) := by decide +kernel
theorem d_law_132 : decode code 132 = .ok (.aload_n 0, 1) := by decide +kernel
theorem d_law_133 : decode code 133 = .ok (.iload_n 3, 1) := by decide +kernel
theorem d_law_134 : decode code 134 = .ok (.iconst 1, 1) := by decide +kernel
theorem d_law_135 : decode code 135 = .ok (.iadd, 1) := by decide +kernel
theorem d_law_136 : decode code 136 = .ok (.iaload, 1) := by decide +kernel
theorem d_law_137 : decode code 137 = .ok (.aload_n 0, 1) := by decide +kernel
theorem d_law_138 : decode code 138 = .ok (.iload_n 3, 1) := by decide +kernel
theorem d_law_139 : decode code 139 = .ok (.iconst 2, 1) := by decide +kernel
theorem d_law_140 : decode code 140 = .ok (.iadd, 1) := by decide +kernel
theorem d_law_141 : decode code 141 = .ok (.iaload, 1) := by decide +kernel
theorem d_law_142 : decode code 142 = .ok (.aload_n 0, 1) := by decide +kernel
theorem d_law_143 : decode code 143 = .ok (.iload_n 3, 1) := by decide +kernel
theorem d_law_144 : decode code 144 = .ok (.iconst 3, 1) := by decide +kernel
theorem d_law_145 : decode code 145 = .ok (.iadd, 1) := by decide +kernel
theorem d_law_146 : decode code 146 = .ok (.iaload, 1) := by decide +kernel
theorem d_law_147 : decode code 147 = .ok (.invokevirtual 17, 3) := by decide +kernel
theorem d_law_150 : decode code 150 = .ok (.if_icmp .eq 502, 3) := by decide +kernel
theorem d_law_153 : decode code 153 = .ok (.iconst 0, 1) := by decide +kernel
theorem d_law_154 : decode code 154 = .ok (.ireturn, 1) := by decide +kernel
theorem d_law_155 : decode code 155 = .ok (.aload_n 1, 1) := by decide +kernel
theorem d_law_156 : decode code 156 = .ok (.aload_n 0, 1) := by decide +kernel
theorem d_law_157 : decode code 157 = .ok (.iload_n 3, 1) := by decide +kernel
theorem d_law_158 : decode code 158 = .ok (.iconst 1, 1) := by decide +kernel
theorem d_law_159 : decode code 159 = .ok (.iadd, 1) := by decide +kernel
theorem d_law_160 : decode code 160 = .ok (.iaload, 1) := by decide +kernel
theorem d_law_161 : decode code 161 = .ok (.aload_n 0, 1) := by decide +kernel
theorem d_law_162 : decode code 162 = .ok (.iload_n 3, 1) := by decide +kernel
theorem d_law_163 : decode code 163 = .ok (.iconst 2, 1) := by decide +kernel
theorem d_law_164 : decode code 164 = .ok (.iadd, 1) := by decide +kernel
theorem d_law_165 : decode code 165 = .ok (.iaload, 1) := by decide +kernel
theorem d_law_166 : decode code 166 = .ok (.aload_n 0, 1) := by decide +kernel
theorem d_law_167 : decode code 167 = .ok (.iload_n 3, 1) := by decide +kernel
theorem d_law_168 : decode code 168 = .ok (.iconst 3, 1) := by decide +kernel
theorem d_law_169 : decode code 169 = .ok (.iadd, 1) := by decide +kernel
theorem d_law_170 : decode code 170 = .ok (.iaload, 1) := by decide +kernel
theorem d_law_171 : decode code 171 = .ok (.invokevirtual 18, 3) := by decide +kernel
theorem d_law_174 : decode code 174 = .ok (.aload_n 2, 1) := by decide +kernel
theorem d_law_175 : decode code 175 = .ok (.aload_n 0, 1) := by decide +kernel
theorem d_law_176 : decode code 176 = .ok (.iload_n 3, 1) := by decide +kernel
theorem d_law_177 : decode code 177 = .ok (.iconst 1, 1) := by decide +kernel
theorem d_law_178 : decode code 178 = .ok (.iadd, 1) := by decide +kernel
theorem d_law_179 : decode code 179 = .ok (.iaload, 1) := by decide +kernel
theorem d_law_180 : decode code 180 = .ok (.aload_n 0, 1) := by decide +kernel
theorem d_law_181 : decode code 181 = .ok (.iload_n 3, 1) := by decide +kernel
theorem d_law_182 : decode code 182 = .ok (.iconst 2, 1) := by decide +kernel
theorem d_law_183 : decode code 183 = .ok (.iadd, 1) := by decide +kernel
theorem d_law_184 : decode code 184 = .ok (.iaload, 1) := by decide +kernel
theorem d_law_185 : decode code 185 = .ok (.aload_n 0, 1) := by decide +kernel
theorem d_law_186 : decode code 186 = .ok (.iload_n 3, 1) := by decide +kernel
theorem d_law_187 : decode code 187 = .ok (.iconst 3, 1) := by decide +kernel
theorem d_law_188 : decode code 188 = .ok (.iadd, 1) := by decide +kernel
theorem d_law_189 : decode code 189 = .ok (.iaload, 1) := by decide +kernel
theorem d_law_190 : decode code 190 = .ok (.invokevirtual 21, 3) := by decide +kernel
theorem d_law_193 : decode code 193 = .ok (.if_icmp .eq 459, 3) := by decide +kernel
theorem d_law_196 : decode code 196 = .ok (.iconst 0, 1) := by decide +kernel
theorem d_law_197 : decode code 197 = .ok (.ireturn, 1) := by decide +kernel
theorem d_law_198 : decode code 198 = .ok (.aload_n 1, 1) := by decide +kernel
theorem d_law_199 : decode code 199 = .ok (.aload_n 0, 1) := by decide +kernel
theorem d_law_200 : decode code 200 = .ok (.iload_n 3, 1) := by decide +kernel
theorem d_law_201 : decode code 201 = .ok (.iconst 1, 1) := by decide +kernel
theorem d_law_202 : decode code 202 = .ok (.iadd, 1) := by decide +kernel
theorem d_law_203 : decode code 203 = .ok (.iaload, 1) := by decide +kernel
theorem d_law_204 : decode code 204 = .ok (.aload_n 0, 1) := by decide +kernel
theorem d_law_205 : decode code 205 = .ok (.iload_n 3, 1) := by decide +kernel
theorem d_law_206 : decode code 206 = .ok (.iconst 2, 1) := by decide +kernel
theorem d_law_207 : decode code 207 = .ok (.iadd, 1) := by decide +kernel
theorem d_law_208 : decode code 208 = .ok (.iaload, 1) := by decide +kernel
theorem d_law_209 : decode code 209 = .ok (.aload_n 0, 1) := by decide +kernel
theorem d_law_210 : decode code 210 = .ok (.iload_n 3, 1) := by decide +kernel
theorem d_law_211 : decode code 211 = .ok (.iconst 3, 1) := by decide +kernel
theorem d_law_212 : decode code 212 = .ok (.iadd, 1) := by decide +kernel
theorem d_law_213 : decode code 213 = .ok (.iaload, 1) := by decide +kernel
theorem d_law_214 : decode code 214 = .ok (.aload_n 0, 1) := by decide +kernel
theorem d_law_215 : decode code 215 = .ok (.iload_n 3, 1) := by decide +kernel
theorem d_law_216 : decode code 216 = .ok (.iconst 4, 1) := by decide +kernel
theorem d_law_217 : decode code 217 = .ok (.iadd, 1) := by decide +kernel
theorem d_law_218 : decode code 218 = .ok (.iaload, 1) := by decide +kernel
theorem d_law_219 : decode code 219 = .ok (.aload_n 0, 1) := by decide +kernel
theorem d_law_220 : decode code 220 = .ok (.iload_n 3, 1) := by decide +kernel
theorem d_law_221 : decode code 221 = .ok (.iconst 5, 1) := by decide +kernel
theorem d_law_222 : decode code 222 = .ok (.iadd, 1) := by decide +kernel
theorem d_law_223 : decode code 223 = .ok (.iaload, 1) := by decide +kernel
theorem d_law_224 : decode code 224 = .ok (.invokevirtual 22, 3) := by decide +kernel
theorem d_law_227 : decode code 227 = .ok (.aload_n 2, 1) := by decide +kernel
theorem d_law_228 : decode code 228 = .ok (.aload_n 0, 1) := by decide +kernel
theorem d_law_229 : decode code 229 = .ok (.iload_n 3, 1) := by decide +kernel
theorem d_law_230 : decode code 230 = .ok (.iconst 1, 1) := by decide +kernel
theorem d_law_231 : decode code 231 = .ok (.iadd, 1) := by decide +kernel
theorem d_law_232 : decode code 232 = .ok (.iaload, 1) := by decide +kernel
theorem d_law_233 : decode code 233 = .ok (.aload_n 0, 1) := by decide +kernel
theorem d_law_234 : decode code 234 = .ok (.iload_n 3, 1) := by decide +kernel
theorem d_law_235 : decode code 235 = .ok (.iconst 2, 1) := by decide +kernel
theorem d_law_236 : decode code 236 = .ok (.iadd, 1) := by decide +kernel
theorem d_law_237 : decode code 237 = .ok (.iaload, 1) := by decide +kernel
theorem d_law_238 : decode code 238 = .ok (.aload_n 0, 1) := by decide +kernel
theorem d_law_239 : decode code 239 = .ok (.iload_n 3, 1) := by decide +kernel
theorem d_law_240 : decode code 240 = .ok (.iconst 3, 1) := by decide +kernel
theorem d_law_241 : decode code 241 = .ok (.iadd, 1) := by decide +kernel
theorem d_law_242 : decode code 242 = .ok (.iaload, 1) := by decide +kernel
theorem d_law_243 : decode code 243 = .ok (.aload_n 0, 1) := by decide +kernel
theorem d_law_244 : decode code 244 = .ok (.iload_n 3, 1) := by decide +kernel
theorem d_law_245 : decode code 245 = .ok (.iconst 4, 1) := by decide +kernel
theorem d_law_246 : decode code 246 = .ok (.iadd, 1) := by decide +kernel
theorem d_law_247 : decode code 247 = .ok (.iaload, 1) := by decide +kernel
theorem d_law_248 : decode code 248 = .ok (.aload_n 0, 1) := by decide +kernel
theorem d_law_249 : decode code 249 = .ok (.iload_n 3, 1) := by decide +kernel
theorem d_law_250 : decode code 250 = .ok (.iconst 5, 1) := by decide +kernel
theorem d_law_251 : decode code 251 = .ok (.iadd, 1) := by decide +kernel
theorem d_law_252 : decode code 252 = .ok (.iaload, 1) := by decide +kernel
theorem d_law_253 : decode code 253 = .ok (.invokevirtual 26, 3) := by decide +kernel
theorem d_law_256 : decode code 256 = .ok (.if_icmp .eq 396, 3) := by decide +kernel
theorem d_law_259 : decode code 259 = .ok (.iconst 0, 1) := by decide +kernel
theorem d_law_260 : decode code 260 = .ok (.ireturn, 1) := by decide +kernel
theorem d_law_261 : decode code 261 = .ok (.aload_n 1, 1) := by decide +kernel
theorem d_law_262 : decode code 262 = .ok (.aload_n 0, 1) := by decide +kernel
theorem d_law_263 : decode code 263 = .ok (.iload_n 3, 1) := by decide +kernel
theorem d_law_264 : decode code 264 = .ok (.iconst 1, 1) := by decide +kernel
theorem d_law_265 : decode code 265 = .ok (.iadd, 1) := by decide +kernel
theorem d_law_266 : decode code 266 = .ok (.iaload, 1) := by decide +kernel
theorem d_law_267 : decode code 267 = .ok (.aload_n 0, 1) := by decide +kernel
theorem d_law_268 : decode code 268 = .ok (.iload_n 3, 1) := by decide +kernel
theorem d_law_269 : decode code 269 = .ok (.iconst 2, 1) := by decide +kernel
theorem d_law_270 : decode code 270 = .ok (.iadd, 1) := by decide +kernel
theorem d_law_271 : decode code 271 = .ok (.iaload, 1) := by decide +kernel
theorem d_law_272 : decode code 272 = .ok (.invokevirtual 27, 3) := by decide +kernel
theorem d_law_275 : decode code 275 = .ok (.aload_n 2, 1) := by decide +kernel
theorem d_law_276 : decode code 276 = .ok (.aload_n 0, 1) := by decide +kernel
theorem d_law_277 : decode code 277 = .ok (.iload_n 3, 1) := by decide +kernel
theorem d_law_278 : decode code 278 = .ok (.iconst 1, 1) := by decide +kernel
theorem d_law_279 : decode code 279 = .ok (.iadd, 1) := by decide +kernel
theorem d_law_280 : decode code 280 = .ok (.iaload, 1) := by decide +kernel
theorem d_law_281 : decode code 281 = .ok (.aload_n 0, 1) := by decide +kernel
theorem d_law_282 : decode code 282 = .ok (.iload_n 3, 1) := by decide +kernel
theorem d_law_283 : decode code 283 = .ok (.iconst 2, 1) := by decide +kernel
theorem d_law_284 : decode code 284 = .ok (.iadd, 1) := by decide +kernel
theorem d_law_285 : decode code 285 = .ok (.iaload, 1) := by decide +kernel
theorem d_law_286 : decode code 286 = .ok (.invokevirtual 31, 3) := by decide +kernel
theorem d_law_289 : decode code 289 = .ok (.lcmp, 1) := by decide +kernel
theorem d_law_290 : decode code 290 = .ok (.ifCond .eq 362, 3) := by decide +kernel
theorem d_law_293 : decode code 293 = .ok (.iconst 0, 1) := by decide +kernel
theorem d_law_294 : decode code 294 = .ok (.ireturn, 1) := by decide +kernel
theorem d_law_295 : decode code 295 = .ok (.aload_n 1, 1) := by decide +kernel
theorem d_law_296 : decode code 296 = .ok (.aload_n 0, 1) := by decide +kernel
theorem d_law_297 : decode code 297 = .ok (.iload_n 3, 1) := by decide +kernel
theorem d_law_298 : decode code 298 = .ok (.iconst 1, 1) := by decide +kernel
theorem d_law_299 : decode code 299 = .ok (.iadd, 1) := by decide +kernel
theorem d_law_300 : decode code 300 = .ok (.iaload, 1) := by decide +kernel
theorem d_law_301 : decode code 301 = .ok (.aload_n 0, 1) := by decide +kernel
theorem d_law_302 : decode code 302 = .ok (.iload_n 3, 1) := by decide +kernel
theorem d_law_303 : decode code 303 = .ok (.iconst 2, 1) := by decide +kernel
theorem d_law_304 : decode code 304 = .ok (.iadd, 1) := by decide +kernel
theorem d_law_305 : decode code 305 = .ok (.iaload, 1) := by decide +kernel
theorem d_law_306 : decode code 306 = .ok (.invokevirtual 32, 3) := by decide +kernel
theorem d_law_309 : decode code 309 = .ok (.aload_n 2, 1) := by decide +kernel
theorem d_law_310 : decode code 310 = .ok (.aload_n 0, 1) := by decide +kernel
theorem d_law_311 : decode code 311 = .ok (.iload_n 3, 1) := by decide +kernel
theorem d_law_312 : decode code 312 = .ok (.iconst 1, 1) := by decide +kernel
theorem d_law_313 : decode code 313 = .ok (.iadd, 1) := by decide +kernel
theorem d_law_314 : decode code 314 = .ok (.iaload, 1) := by decide +kernel
theorem d_law_315 : decode code 315 = .ok (.aload_n 0, 1) := by decide +kernel
theorem d_law_316 : decode code 316 = .ok (.iload_n 3, 1) := by decide +kernel
theorem d_law_317 : decode code 317 = .ok (.iconst 2, 1) := by decide +kernel
theorem d_law_318 : decode code 318 = .ok (.iadd, 1) := by decide +kernel
theorem d_law_319 : decode code 319 = .ok (.iaload, 1) := by decide +kernel
theorem d_law_320 : decode code 320 = .ok (.invokevirtual 36, 3) := by decide +kernel
theorem d_law_323 : decode code 323 = .ok (.if_icmp .eq 329, 3) := by decide +kernel
theorem d_law_326 : decode code 326 = .ok (.iconst 0, 1) := by decide +kernel
theorem d_law_327 : decode code 327 = .ok (.ireturn, 1) := by decide +kernel
theorem d_law_328 : decode code 328 = .ok (.aload_n 1, 1) := by decide +kernel
theorem d_law_329 : decode code 329 = .ok (.aload_n 0, 1) := by decide +kernel
theorem d_law_330 : decode code 330 = .ok (.iload_n 3, 1) := by decide +kernel
theorem d_law_331 : decode code 331 = .ok (.iconst 1, 1) := by decide +kernel
theorem d_law_332 : decode code 332 = .ok (.iadd, 1) := by decide +kernel
theorem d_law_333 : decode code 333 = .ok (.iaload, 1) := by decide +kernel
theorem d_law_334 : decode code 334 = .ok (.aload_n 0, 1) := by decide +kernel
theorem d_law_335 : decode code 335 = .ok (.iload_n 3, 1) := by decide +kernel
theorem d_law_336 : decode code 336 = .ok (.iconst 2, 1) := by decide +kernel
theorem d_law_337 : decode code 337 = .ok (.iadd, 1) := by decide +kernel
theorem d_law_338 : decode code 338 = .ok (.iaload, 1) := by decide +kernel
theorem d_law_339 : decode code 339 = .ok (.invokevirtual 37, 3) := by decide +kernel
theorem d_law_342 : decode code 342 = .ok (.aload_n 2, 1) := by decide +kernel
theorem d_law_343 : decode code 343 = .ok (.aload_n 0, 1) := by decide +kernel
theorem d_law_344 : decode code 344 = .ok (.iload_n 3, 1) := by decide +kernel
theorem d_law_345 : decode code 345 = .ok (.iconst 1, 1) := by decide +kernel
theorem d_law_346 : decode code 346 = .ok (.iadd, 1) := by decide +kernel
theorem d_law_347 : decode code 347 = .ok (.iaload, 1) := by decide +kernel
theorem d_law_348 : decode code 348 = .ok (.aload_n 0, 1) := by decide +kernel
theorem d_law_349 : decode code 349 = .ok (.iload_n 3, 1) := by decide +kernel
theorem d_law_350 : decode code 350 = .ok (.iconst 2, 1) := by decide +kernel
theorem d_law_351 : decode code 351 = .ok (.iadd, 1) := by decide +kernel
theorem d_law_352 : decode code 352 = .ok (.iaload, 1) := by decide +kernel
theorem d_law_353 : decode code 353 = .ok (.invokevirtual 40, 3) := by decide +kernel
theorem d_law_356 : decode code 356 = .ok (.if_icmp .eq 296, 3) := by decide +kernel
theorem d_law_359 : decode code 359 = .ok (.iconst 0, 1) := by decide +kernel
theorem d_law_360 : decode code 360 = .ok (.ireturn, 1) := by decide +kernel
theorem d_law_361 : decode code 361 = .ok (.aload_n 1, 1) := by decide +kernel
theorem d_law_362 : decode code 362 = .ok (.aload_n 0, 1) := by decide +kernel
theorem d_law_363 : decode code 363 = .ok (.iload_n 3, 1) := by decide +kernel
theorem d_law_364 : decode code 364 = .ok (.iconst 1, 1) := by decide +kernel
theorem d_law_365 : decode code 365 = .ok (.iadd, 1) := by decide +kernel
theorem d_law_366 : decode code 366 = .ok (.iaload, 1) := by decide +kernel
theorem d_law_367 : decode code 367 = .ok (.invokevirtual 41, 3) := by decide +kernel
theorem d_law_370 : decode code 370 = .ok (.aload_n 2, 1) := by decide +kernel
theorem d_law_371 : decode code 371 = .ok (.aload_n 0, 1) := by decide +kernel
theorem d_law_372 : decode code 372 = .ok (.iload_n 3, 1) := by decide +kernel
theorem d_law_373 : decode code 373 = .ok (.iconst 1, 1) := by decide +kernel
theorem d_law_374 : decode code 374 = .ok (.iadd, 1) := by decide +kernel
theorem d_law_375 : decode code 375 = .ok (.iaload, 1) := by decide +kernel
theorem d_law_376 : decode code 376 = .ok (.invokevirtual 45, 3) := by decide +kernel
theorem d_law_379 : decode code 379 = .ok (.if_icmp .eq 273, 3) := by decide +kernel
theorem d_law_382 : decode code 382 = .ok (.iconst 0, 1) := by decide +kernel
theorem d_law_383 : decode code 383 = .ok (.ireturn, 1) := by decide +kernel
theorem d_law_384 : decode code 384 = .ok (.aload_n 1, 1) := by decide +kernel
theorem d_law_385 : decode code 385 = .ok (.aload_n 0, 1) := by decide +kernel
theorem d_law_386 : decode code 386 = .ok (.iload_n 3, 1) := by decide +kernel
theorem d_law_387 : decode code 387 = .ok (.iconst 1, 1) := by decide +kernel
theorem d_law_388 : decode code 388 = .ok (.iadd, 1) := by decide +kernel
theorem d_law_389 : decode code 389 = .ok (.iaload, 1) := by decide +kernel
theorem d_law_390 : decode code 390 = .ok (.aload_n 0, 1) := by decide +kernel
theorem d_law_391 : decode code 391 = .ok (.iload_n 3, 1) := by decide +kernel
theorem d_law_392 : decode code 392 = .ok (.iconst 2, 1) := by decide +kernel
theorem d_law_393 : decode code 393 = .ok (.iadd, 1) := by decide +kernel
theorem d_law_394 : decode code 394 = .ok (.iaload, 1) := by decide +kernel
theorem d_law_395 : decode code 395 = .ok (.invokevirtual 46, 3) := by decide +kernel
theorem d_law_398 : decode code 398 = .ok (.aload_n 2, 1) := by decide +kernel
theorem d_law_399 : decode code 399 = .ok (.aload_n 0, 1) := by decide +kernel
theorem d_law_400 : decode code 400 = .ok (.iload_n 3, 1) := by decide +kernel
theorem d_law_401 : decode code 401 = .ok (.iconst 1, 1) := by decide +kernel
theorem d_law_402 : decode code 402 = .ok (.iadd, 1) := by decide +kernel
theorem d_law_403 : decode code 403 = .ok (.iaload, 1) := by decide +kernel
theorem d_law_404 : decode code 404 = .ok (.aload_n 0, 1) := by decide +kernel
theorem d_law_405 : decode code 405 = .ok (.iload_n 3, 1) := by decide +kernel
theorem d_law_406 : decode code 406 = .ok (.iconst 2, 1) := by decide +kernel
theorem d_law_407 : decode code 407 = .ok (.iadd, 1) := by decide +kernel
theorem d_law_408 : decode code 408 = .ok (.iaload, 1) := by decide +kernel
theorem d_law_409 : decode code 409 = .ok (.invokevirtual 49, 3) := by decide +kernel
theorem d_law_412 : decode code 412 = .ok (.if_icmp .eq 240, 3) := by decide +kernel
theorem d_law_415 : decode code 415 = .ok (.iconst 0, 1) := by decide +kernel
theorem d_law_416 : decode code 416 = .ok (.ireturn, 1) := by decide +kernel
theorem d_law_417 : decode code 417 = .ok (.aload_n 1, 1) := by decide +kernel
theorem d_law_418 : decode code 418 = .ok (.aload_n 0, 1) := by decide +kernel
theorem d_law_419 : decode code 419 = .ok (.iload_n 3, 1) := by decide +kernel
theorem d_law_420 : decode code 420 = .ok (.iconst 1, 1) := by decide +kernel
theorem d_law_421 : decode code 421 = .ok (.iadd, 1) := by decide +kernel
theorem d_law_422 : decode code 422 = .ok (.iaload, 1) := by decide +kernel
theorem d_law_423 : decode code 423 = .ok (.aload_n 0, 1) := by decide +kernel
theorem d_law_424 : decode code 424 = .ok (.iload_n 3, 1) := by decide +kernel
theorem d_law_425 : decode code 425 = .ok (.iconst 2, 1) := by decide +kernel
theorem d_law_426 : decode code 426 = .ok (.iadd, 1) := by decide +kernel
theorem d_law_427 : decode code 427 = .ok (.iaload, 1) := by decide +kernel
theorem d_law_428 : decode code 428 = .ok (.invokevirtual 50, 3) := by decide +kernel
theorem d_law_431 : decode code 431 = .ok (.aload_n 2, 1) := by decide +kernel
theorem d_law_432 : decode code 432 = .ok (.aload_n 0, 1) := by decide +kernel
theorem d_law_433 : decode code 433 = .ok (.iload_n 3, 1) := by decide +kernel
theorem d_law_434 : decode code 434 = .ok (.iconst 1, 1) := by decide +kernel
theorem d_law_435 : decode code 435 = .ok (.iadd, 1) := by decide +kernel
theorem d_law_436 : decode code 436 = .ok (.iaload, 1) := by decide +kernel
theorem d_law_437 : decode code 437 = .ok (.aload_n 0, 1) := by decide +kernel
theorem d_law_438 : decode code 438 = .ok (.iload_n 3, 1) := by decide +kernel
theorem d_law_439 : decode code 439 = .ok (.iconst 2, 1) := by decide +kernel
theorem d_law_440 : decode code 440 = .ok (.iadd, 1) := by decide +kernel
theorem d_law_441 : decode code 441 = .ok (.iaload, 1) := by decide +kernel
theorem d_law_442 : decode code 442 = .ok (.invokevirtual 53, 3) := by decide +kernel
theorem d_law_445 : decode code 445 = .ok (.if_icmp .eq 207, 3) := by decide +kernel
theorem d_law_448 : decode code 448 = .ok (.iconst 0, 1) := by decide +kernel
theorem d_law_449 : decode code 449 = .ok (.ireturn, 1) := by decide +kernel
theorem d_law_450 : decode code 450 = .ok (.aload_n 1, 1) := by decide +kernel
theorem d_law_451 : decode code 451 = .ok (.aload_n 0, 1) := by decide +kernel
theorem d_law_452 : decode code 452 = .ok (.iload_n 3, 1) := by decide +kernel
theorem d_law_453 : decode code 453 = .ok (.iconst 1, 1) := by decide +kernel
theorem d_law_454 : decode code 454 = .ok (.iadd, 1) := by decide +kernel
theorem d_law_455 : decode code 455 = .ok (.iaload, 1) := by decide +kernel
theorem d_law_456 : decode code 456 = .ok (.aload_n 0, 1) := by decide +kernel
theorem d_law_457 : decode code 457 = .ok (.iload_n 3, 1) := by decide +kernel
theorem d_law_458 : decode code 458 = .ok (.iconst 2, 1) := by decide +kernel
theorem d_law_459 : decode code 459 = .ok (.iadd, 1) := by decide +kernel
theorem d_law_460 : decode code 460 = .ok (.iaload, 1) := by decide +kernel
theorem d_law_461 : decode code 461 = .ok (.invokevirtual 54, 3) := by decide +kernel
theorem d_law_464 : decode code 464 = .ok (.aload_n 2, 1) := by decide +kernel
theorem d_law_465 : decode code 465 = .ok (.aload_n 0, 1) := by decide +kernel
theorem d_law_466 : decode code 466 = .ok (.iload_n 3, 1) := by decide +kernel
theorem d_law_467 : decode code 467 = .ok (.iconst 1, 1) := by decide +kernel
theorem d_law_468 : decode code 468 = .ok (.iadd, 1) := by decide +kernel
theorem d_law_469 : decode code 469 = .ok (.iaload, 1) := by decide +kernel
theorem d_law_470 : decode code 470 = .ok (.aload_n 0, 1) := by decide +kernel
theorem d_law_471 : decode code 471 = .ok (.iload_n 3, 1) := by decide +kernel
theorem d_law_472 : decode code 472 = .ok (.iconst 2, 1) := by decide +kernel
theorem d_law_473 : decode code 473 = .ok (.iadd, 1) := by decide +kernel
theorem d_law_474 : decode code 474 = .ok (.iaload, 1) := by decide +kernel
theorem d_law_475 : decode code 475 = .ok (.invokevirtual 57, 3) := by decide +kernel
theorem d_law_478 : decode code 478 = .ok (.if_icmp .eq 174, 3) := by decide +kernel
theorem d_law_481 : decode code 481 = .ok (.iconst 0, 1) := by decide +kernel
theorem d_law_482 : decode code 482 = .ok (.ireturn, 1) := by decide +kernel
theorem d_law_483 : decode code 483 = .ok (.aload_n 1, 1) := by decide +kernel
theorem d_law_484 : decode code 484 = .ok (.aload_n 0, 1) := by decide +kernel
theorem d_law_485 : decode code 485 = .ok (.iload_n 3, 1) := by decide +kernel
theorem d_law_486 : decode code 486 = .ok (.iconst 1, 1) := by decide +kernel
theorem d_law_487 : decode code 487 = .ok (.iadd, 1) := by decide +kernel
theorem d_law_488 : decode code 488 = .ok (.iaload, 1) := by decide +kernel
theorem d_law_489 : decode code 489 = .ok (.aload_n 0, 1) := by decide +kernel
theorem d_law_490 : decode code 490 = .ok (.iload_n 3, 1) := by decide +kernel
theorem d_law_491 : decode code 491 = .ok (.iconst 2, 1) := by decide +kernel
theorem d_law_492 : decode code 492 = .ok (.iadd, 1) := by decide +kernel
theorem d_law_493 : decode code 493 = .ok (.iaload, 1) := by decide +kernel
theorem d_law_494 : decode code 494 = .ok (.invokevirtual 58, 3) := by decide +kernel
theorem d_law_497 : decode code 497 = .ok (.aload_n 2, 1) := by decide +kernel
theorem d_law_498 : decode code 498 = .ok (.aload_n 0, 1) := by decide +kernel
theorem d_law_499 : decode code 499 = .ok (.iload_n 3, 1) := by decide +kernel
theorem d_law_500 : decode code 500 = .ok (.iconst 1, 1) := by decide +kernel
theorem d_law_501 : decode code 501 = .ok (.iadd, 1) := by decide +kernel
theorem d_law_502 : decode code 502 = .ok (.iaload, 1) := by decide +kernel
theorem d_law_503 : decode code 503 = .ok (.aload_n 0, 1) := by decide +kernel
theorem d_law_504 : decode code 504 = .ok (.iload_n 3, 1) := by decide +kernel
theorem d_law_505 : decode code 505 = .ok (.iconst 2, 1) := by decide +kernel
theorem d_law_506 : decode code 506 = .ok (.iadd, 1) := by decide +kernel
theorem d_law_507 : decode code 507 = .ok (.iaload, 1) := by decide +kernel
theorem d_law_508 : decode code 508 = .ok (.invokevirtual 61, 3) := by decide +kernel
theorem d_law_511 : decode code 511 = .ok (.if_icmp .eq 141, 3) := by decide +kernel
theorem d_law_514 : decode code 514 = .ok (.iconst 0, 1) := by decide +kernel
theorem d_law_515 : decode code 515 = .ok (.ireturn, 1) := by decide +kernel
theorem d_law_516 : decode code 516 = .ok (.aload_n 1, 1) := by decide +kernel
theorem d_law_517 : decode code 517 = .ok (.aload_n 0, 1) := by decide +kernel
theorem d_law_518 : decode code 518 = .ok (.iload_n 3, 1) := by decide +kernel
theorem d_law_519 : decode code 519 = .ok (.iconst 1, 1) := by decide +kernel
theorem d_law_520 : decode code 520 = .ok (.iadd, 1) := by decide +kernel
theorem d_law_521 : decode code 521 = .ok (.iaload, 1) := by decide +kernel
theorem d_law_522 : decode code 522 = .ok (.aload_n 0, 1) := by decide +kernel
theorem d_law_523 : decode code 523 = .ok (.iload_n 3, 1) := by decide +kernel
theorem d_law_524 : decode code 524 = .ok (.iconst 2, 1) := by decide +kernel
theorem d_law_525 : decode code 525 = .ok (.iadd, 1) := by decide +kernel
theorem d_law_526 : decode code 526 = .ok (.iaload, 1) := by decide +kernel
theorem d_law_527 : decode code 527 = .ok (.invokevirtual 62, 3) := by decide +kernel
theorem d_law_530 : decode code 530 = .ok (.aload_n 2, 1) := by decide +kernel
theorem d_law_531 : decode code 531 = .ok (.aload_n 0, 1) := by decide +kernel
theorem d_law_532 : decode code 532 = .ok (.iload_n 3, 1) := by decide +kernel
theorem d_law_533 : decode code 533 = .ok (.iconst 1, 1) := by decide +kernel
theorem d_law_534 : decode code 534 = .ok (.iadd, 1) := by decide +kernel
theorem d_law_535 : decode code 535 = .ok (.iaload, 1) := by decide +kernel
theorem d_law_536 : decode code 536 = .ok (.aload_n 0, 1) := by decide +kernel
theorem d_law_537 : decode code 537 = .ok (.iload_n 3, 1) := by decide +kernel
theorem d_law_538 : decode code 538 = .ok (.iconst 2, 1) := by decide +kernel
theorem d_law_539 : decode code 539 = .ok (.iadd, 1) := by decide +kernel
theorem d_law_540 : decode code 540 = .ok (.iaload, 1) := by decide +kernel
theorem d_law_541 : decode code 541 = .ok (.invokevirtual 65, 3) := by decide +kernel
theorem d_law_544 : decode code 544 = .ok (.if_icmp .eq 108, 3) := by decide +kernel
theorem d_law_547 : decode code 547 = .ok (.iconst 0, 1) := by decide +kernel
theorem d_law_548 : decode code 548 = .ok (.ireturn, 1) := by decide +kernel
theorem d_law_549 : decode code 549 = .ok (.aload_n 1, 1) := by decide +kernel
theorem d_law_550 : decode code 550 = .ok (.aload_n 0, 1) := by decide +kernel
theorem d_law_551 : decode code 551 = .ok (.iload_n 3, 1) := by decide +kernel
theorem d_law_552 : decode code 552 = .ok (.iconst 1, 1) := by decide +kernel
theorem d_law_553 : decode code 553 = .ok (.iadd, 1) := by decide +kernel
theorem d_law_554 : decode code 554 = .ok (.iaload, 1) := by decide +kernel
theorem d_law_555 : decode code 555 = .ok (.aload_n 0, 1) := by decide +kernel
theorem d_law_556 : decode code 556 = .ok (.iload_n 3, 1) := by decide +kernel
theorem d_law_557 : decode code 557 = .ok (.iconst 2, 1) := by decide +kernel
theorem d_law_558 : decode code 558 = .ok (.iadd, 1) := by decide +kernel
theorem d_law_559 : decode code 559 = .ok (.iaload, 1) := by decide +kernel
theorem d_law_560 : decode code 560 = .ok (.invokevirtual 66, 3) := by decide +kernel
theorem d_law_563 : decode code 563 = .ok (.aload_n 2, 1) := by decide +kernel
theorem d_law_564 : decode code 564 = .ok (.aload_n 0, 1) := by decide +kernel
theorem d_law_565 : decode code 565 = .ok (.iload_n 3, 1) := by decide +kernel
theorem d_law_566 : decode code 566 = .ok (.iconst 1, 1) := by decide +kernel
theorem d_law_567 : decode code 567 = .ok (.iadd, 1) := by decide +kernel
theorem d_law_568 : decode code 568 = .ok (.iaload, 1) := by decide +kernel
theorem d_law_569 : decode code 569 = .ok (.aload_n 0, 1) := by decide +kernel
theorem d_law_570 : decode code 570 = .ok (.iload_n 3, 1) := by decide +kernel
theorem d_law_571 : decode code 571 = .ok (.iconst 2, 1) := by decide +kernel
theorem d_law_572 : decode code 572 = .ok (.iadd, 1) := by decide +kernel
theorem d_law_573 : decode code 573 = .ok (.iaload, 1) := by decide +kernel
theorem d_law_574 : decode code 574 = .ok (.invokevirtual 69, 3) := by decide +kernel
theorem d_law_577 : decode code 577 = .ok (.if_icmp .eq 75, 3) := by decide +kernel
theorem d_law_580 : decode code 580 = .ok (.iconst 0, 1) := by decide +kernel
theorem d_law_581 : decode code 581 = .ok (.ireturn, 1) := by decide +kernel
theorem d_law_582 : decode code 582 = .ok (.aload_n 1, 1) := by decide +kernel
theorem d_law_583 : decode code 583 = .ok (.aload_n 0, 1) := by decide +kernel
theorem d_law_584 : decode code 584 = .ok (.iload_n 3, 1) := by decide +kernel
theorem d_law_585 : decode code 585 = .ok (.iconst 1, 1) := by decide +kernel
theorem d_law_586 : decode code 586 = .ok (.iadd, 1) := by decide +kernel
theorem d_law_587 : decode code 587 = .ok (.iaload, 1) := by decide +kernel
theorem d_law_588 : decode code 588 = .ok (.invokevirtual 70, 3) := by decide +kernel
theorem d_law_591 : decode code 591 = .ok (.aload_n 2, 1) := by decide +kernel
theorem d_law_592 : decode code 592 = .ok (.aload_n 0, 1) := by decide +kernel
theorem d_law_593 : decode code 593 = .ok (.iload_n 3, 1) := by decide +kernel
theorem d_law_594 : decode code 594 = .ok (.iconst 1, 1) := by decide +kernel
theorem d_law_595 : decode code 595 = .ok (.iadd, 1) := by decide +kernel
theorem d_law_596 : decode code 596 = .ok (.iaload, 1) := by decide +kernel
theorem d_law_597 : decode code 597 = .ok (.invokevirtual 73, 3) := by decide +kernel
theorem d_law_600 : decode code 600 = .ok (.if_icmp .eq 52, 3) := by decide +kernel
theorem d_law_603 : decode code 603 = .ok (.iconst 0, 1) := by decide +kernel
theorem d_law_604 : decode code 604 = .ok (.ireturn, 1) := by decide +kernel
theorem d_law_605 : decode code 605 = .ok (.aload_n 1, 1) := by decide +kernel
theorem d_law_606 : decode code 606 = .ok (.aload_n 0, 1) := by decide +kernel
theorem d_law_607 : decode code 607 = .ok (.iload_n 3, 1) := by decide +kernel
theorem d_law_608 : decode code 608 = .ok (.iconst 1, 1) := by decide +kernel
theorem d_law_609 : decode code 609 = .ok (.iadd, 1) := by decide +kernel
theorem d_law_610 : decode code 610 = .ok (.iaload, 1) := by decide +kernel
theorem d_law_611 : decode code 611 = .ok (.invokevirtual 74, 3) := by decide +kernel
theorem d_law_614 : decode code 614 = .ok (.aload_n 2, 1) := by decide +kernel
theorem d_law_615 : decode code 615 = .ok (.aload_n 0, 1) := by decide +kernel
theorem d_law_616 : decode code 616 = .ok (.iload_n 3, 1) := by decide +kernel
theorem d_law_617 : decode code 617 = .ok (.iconst 1, 1) := by decide +kernel
theorem d_law_618 : decode code 618 = .ok (.iadd, 1) := by decide +kernel
theorem d_law_619 : decode code 619 = .ok (.iaload, 1) := by decide +kernel
theorem d_law_620 : decode code 620 = .ok (.invokevirtual 77, 3) := by decide +kernel
theorem d_law_623 : decode code 623 = .ok (.if_icmp .eq 29, 3) := by decide +kernel
theorem d_law_626 : decode code 626 = .ok (.iconst 0, 1) := by decide +kernel
theorem d_law_627 : decode code 627 = .ok (.ireturn, 1) := by decide +kernel
theorem d_law_628 : decode code 628 = .ok (.aload_n 1, 1) := by decide +kernel
theorem d_law_629 : decode code 629 = .ok (.aload_n 0, 1) := by decide +kernel
theorem d_law_630 : decode code 630 = .ok (.iload_n 3, 1) := by decide +kernel
theorem d_law_631 : decode code 631 = .ok (.iconst 1, 1) := by decide +kernel
theorem d_law_632 : decode code 632 = .ok (.iadd, 1) := by decide +kernel
theorem d_law_633 : decode code 633 = .ok (.iaload, 1) := by decide +kernel
theorem d_law_634 : decode code 634 = .ok (.invokevirtual 78, 3) := by decide +kernel
theorem d_law_637 : decode code 637 = .ok (.aload_n 2, 1) := by decide +kernel
theorem d_law_638 : decode code 638 = .ok (.aload_n 0, 1) := by decide +kernel
theorem d_law_639 : decode code 639 = .ok (.iload_n 3, 1) := by decide +kernel
theorem d_law_640 : decode code 640 = .ok (.iconst 1, 1) := by decide +kernel
theorem d_law_641 : decode code 641 = .ok (.iadd, 1) := by decide +kernel
theorem d_law_642 : decode code 642 = .ok (.iaload, 1) := by decide +kernel
theorem d_law_643 : decode code 643 = .ok (.invokevirtual 82, 3) := by decide +kernel
theorem d_law_646 : decode code 646 = .ok (.lcmp, 1) := by decide +kernel
theorem d_law_647 : decode code 647 = .ok (.ifCond .eq 5, 3) := by decide +kernel
theorem d_law_650 : decode code 650 = .ok (.iconst 0, 1) := by decide +kernel
theorem d_law_651 : decode code 651 = .ok (.ireturn, 1) := by decide +kernel
theorem d_law_652 : decode code 652 = .ok (.iinc 3 6, 3) := by decide +kernel
theorem d_law_655 : decode code 655 = .ok (.goto (-637), 3) := by decide +kernel
theorem d_law_658 : decode code 658 = .ok (.iconst 1, 1) := by decide +kernel
theorem d_law_659 : decode code 659 = .ok (.ireturn, 1) := by decide +kernel
theorem lg_self (r : Int64) : lg_cmp r r = 0 := by unfold lg_cmp; rw [if_neg (by exact Int64.lt_irrefl), if_pos rfl]
section LAW
variable {p : Program} {l : Launch} {e : Env} {R : Room} {s : State} {m : MethodId} {args : Array Value} {below : List Frame} {meth : Method} {c : Code} {H : Heap} {locs : List Loc} {cells slots : Nat} {Q : State → Prop}
variable {cc : ByteArray} {pc : Nat} {ls : Array Slot} {rest : List Value} {D : va_G} {adr : Nat → Nat} {cA : Nat → ClassId} {μ ν μ' ν' : Mem} {H0 : Heap} {own : String} {index : Nat} {A : Nat → Prop}
variable {y : MethodName} {bytes : ByteArray} {maxL nL n : Nat} {ret : Option FieldType} {ws : List Cond} {rm : Room} {C : String} {b : Nat} {As : List Value} {Qc : Array Value → State → Outcome → State → Prop}
theorem kvA (S : CallFix p m c cc nL s args lw_ok own) (cw : CallW R s args own C index y bytes maxL ret ws rm 0 0 n) (hM : Met l y ws rm (va_Pc (.ref b :: As) (Wd D adr cA μ ν)) Qc 0 0 (AA adr)) (hG : Geo D adr cA s) (hP : va_P D cls (wld adr cA μ ν) H) (hr : ∃ cell : Cell, H[b]? = some cell ∧ cell.vm.isStatics = false ∧ s.vm.findClass C = some cell.cls)
    (hn : As.length = n) (hsize : ls.size = nL) (hW : (rest.map fun v => v.category).sum ≤ 8) (hf : cells + 0 ≤ R.cells ∧ slots + 0 ≤ R.slots) (hdg : decode cc pc = .ok (.invokevirtual index, 3)) : va_Run p l e R s m args below meth c H locs cells slots 0 0 (F0 m pc ls (As.reverse ++ .ref b :: rest)) rest (Qc (Value.ref b :: As).toArray) (AA adr) :=
  va_runV S hM cw ⟨Wd.blind, hr, fun U hU hW => ⟨rfl, by rw [hU]; exact hP, hG.warm hW⟩⟩ rfl hn hsize rfl (lv_room hW) hdg hf
theorem kiA {st : List Value} {av : List Value} {r0 : Int32} (hr : va_Run p l e R s m args below meth c H locs cells slots 0 0 (F0 m pc ls st) rest (QI D adr cA r0 μ' ν' av.toArray) (AA adr)) (hS : va_S A H0 H locs) (hA : ∀ q, AA adr q → A q)
    (kk : ∀ (H1 : Heap) (locs1 : List Loc), va_P D cls (wld adr cA μ' ν') H1 → va_S A H0 H1 locs1 → W p l e R s m args below meth c H1 locs1 cells slots Q (F0 m (pc + 3) ls (.int r0 :: rest))) : W p l e R s m args below meth c H locs cells slots Q (F0 m pc ls st) := by
  refine va_calli hr hS (fun q _ h => hA q h) hA (fun r u t H1 locs1 ht hvm hp hB _ _ hS1 => ?_)
  obtain ⟨rfl, rfl⟩ := hp
  exact kk H1 locs1 (by rw [← ht]; exact hB.1) hS1
theorem klA {st : List Value} {av : List Value} {r0 : Int64} (hr : va_Run p l e R s m args below meth c H locs cells slots 0 0 (F0 m pc ls st) rest (QL D adr cA r0 μ' ν' av.toArray) (AA adr)) (hS : va_S A H0 H locs) (hA : ∀ q, AA adr q → A q)
    (kk : ∀ (H1 : Heap) (locs1 : List Loc), va_P D cls (wld adr cA μ' ν') H1 → va_S A H0 H1 locs1 → W p l e R s m args below meth c H1 locs1 cells slots Q (F0 m (pc + 3) ls (.long r0 :: rest))) : W p l e R s m args below meth c H locs cells slots Q (F0 m pc ls st) := by
  refine va_calll hr hS (fun q _ h => hA q h) hA (fun r u t H1 locs1 ht hvm hp hB _ _ hS1 => ?_)
  obtain ⟨rfl, rfl⟩ := hp
  exact kk H1 locs1 (by rw [← ht]; exact hB.1) hS1
/-- what holds all through the law's loop -/
def Lx (p : Program) (s : State) (m : MethodId) (args : Array Value) (c : Code) (D : va_G) (adr : Nat → Nat) (cA : Nat → ClassId) (b L : Nat) (xs : Nat → Int32) : Prop := p.tables.exec = Jvm.exec ∧ c.code = code ∧ c.maxLocals = 4 ∧ s.vm.findClass "LakeReliefLaw" = some m.cls ∧ (∀ w ∈ lw_ok, w.before args s = true) ∧ Geo D adr cA s ∧ va_X b L xs s s.heap ∧ b < s.heap.size ∧ L ≤ 3072 ∧ ∀ q, AA adr q → s.heap.size ≤ q
theorem in_off {L k : Nat} (hL : L ≤ 3072) (h : k + 5 < L) (j : Nat) (hj : j ≤ 5) : vp_in (nI k + nI j) L := by
  rw [nI_add]
  exact vp_in_nI (by omega) (by omega)
set_option maxHeartbeats 4000000 in
set_option maxRecDepth 100000 in
theorem law_strip {b L : Nat} {xs : Nat → Int32} {J : Mem → Mem → Prop} (hJ : JStp J) (X : Lx p s m args c D adr cA b L xs) {k : Nat} (hk : k + 5 < L)
    (hE : ∀ (μ ν : Mem) (H : Heap) (locs : List Loc) (ls : Array Slot), J μ ν → va_P D cls (wld adr cA μ ν) H → va_S (fun q : Nat => s.heap.size ≤ q) s.heap H locs → lv_has ls 4 [(0, .ref b), (1, .ref (adr 0)), (2, .ref (adr 63)), (3, .int (nI k))] → W p l e room_1 s m args below meth c H locs 600000 7302250 Q (F0 m 652 ls []))
    {H : Heap} {locs : List Loc} {ls : Array Slot} (h0 : J μ ν) (hP : va_P D cls (wld adr cA μ ν) H) (hS : va_S (fun q : Nat => s.heap.size ≤ q) s.heap H locs) (hl : lv_has ls 4 [(0, .ref b), (1, .ref (adr 0)), (2, .ref (adr 63)), (3, .int (nI k))]) : W p l e room_1 s m args below meth c H locs 600000 7302250 Q (F0 m 112 ls []) := by
  obtain ⟨hx, hb, hml, hown, hts, hG, hX, hbl, hL, hAA⟩ := id X
  have hbA : ¬ (fun q : Nat => s.heap.size ≤ q) b := Nat.not_le.mpr hbl
  obtain ⟨r, μ', ν', hc1, hc2, hJ2⟩ := hJ.1 μ ν (xs (nI k + 1).toNatClampNeg) (xs (nI k + 2).toNatClampNeg) (xs (nI k + 3).toNatClampNeg) h0
  refine lv_aload_n hx hb d_law_112 rfl (lv_at hl 1 rfl) ?_
  refine lv_aload_n hx hb d_law_113 rfl (lv_at hl 0 rfl) ?_
  refine lv_iload_n hx hb d_law_114 rfl (lv_at hl 3 rfl) ?_
  refine lv_iconst (v := 1) hx hb d_law_115 (by decide) ?_
  refine lv_iadd hx hb d_law_116 ?_
  refine va_sld hx hb hX hbl hbA hS (in_off hL hk 1 (by decide)) d_law_117 ?_
  refine lv_aload_n hx hb d_law_118 rfl (lv_at hl 0 rfl) ?_
  refine lv_iload_n hx hb d_law_119 rfl (lv_at hl 3 rfl) ?_
  refine lv_iconst (v := 2) hx hb d_law_120 (by decide) ?_
  refine lv_iadd hx hb d_law_121 ?_
  refine va_sld hx hb hX hbl hbA hS (in_off hL hk 2 (by decide)) d_law_122 ?_
  refine lv_aload_n hx hb d_law_123 rfl (lv_at hl 0 rfl) ?_
  refine lv_iload_n hx hb d_law_124 rfl (lv_at hl 3 rfl) ?_
  refine lv_iconst (v := 3) hx hb d_law_125 (by decide) ?_
  refine lv_iadd hx hb d_law_126 ?_
  refine va_sld hx hb hX hbl hbA hS (in_off hL hk 3 (by decide)) d_law_127 ?_
  refine kiA (kvA (As := [.int (xs (nI k + 1).toNatClampNeg), .int (xs (nI k + 2).toNatClampNeg), .int (xs (nI k + 3).toNatClampNeg)]) (rest := []) ⟨hx, hb, hml, hown, hts⟩ (cw_LG_13 hts ⟨Nat.le_of_ble_eq_true rfl, Nat.le_of_ble_eq_true rfl⟩) (c_LR_strip l D adr cA μ ν (xs (nI k + 1).toNatClampNeg) (xs (nI k + 2).toNatClampNeg) (xs (nI k + 3).toNatClampNeg) hc1) hG hP (rc_o (q := 0) (ci := 4) hG hP (by decide) (wc_C (by decide) rfl) rfl) rfl hl.1 (Nat.le_of_ble_eq_true rfl) ⟨Nat.le_refl _, Nat.le_refl _⟩ d_law_128) hS hAA (fun H locs hP hS => ?_)
  refine lv_aload_n hx hb d_law_131 rfl (lv_at hl 2 rfl) ?_
  refine lv_aload_n hx hb d_law_132 rfl (lv_at hl 0 rfl) ?_
  refine lv_iload_n hx hb d_law_133 rfl (lv_at hl 3 rfl) ?_
  refine lv_iconst (v := 1) hx hb d_law_134 (by decide) ?_
  refine lv_iadd hx hb d_law_135 ?_
  refine va_sld hx hb hX hbl hbA hS (in_off hL hk 1 (by decide)) d_law_136 ?_
  refine lv_aload_n hx hb d_law_137 rfl (lv_at hl 0 rfl) ?_
  refine lv_iload_n hx hb d_law_138 rfl (lv_at hl 3 rfl) ?_
  refine lv_iconst (v := 2) hx hb d_law_139 (by decide) ?_
  refine lv_iadd hx hb d_law_140 ?_
  refine va_sld hx hb hX hbl hbA hS (in_off hL hk 2 (by decide)) d_law_141 ?_
  refine lv_aload_n hx hb d_law_142 rfl (lv_at hl 0 rfl) ?_
  refine lv_iload_n hx hb d_law_143 rfl (lv_at hl 3 rfl) ?_
  refine lv_iconst (v := 3) hx hb d_law_144 (by decide) ?_
  refine lv_iadd hx hb d_law_145 ?_
  refine va_sld hx hb hX hbl hbA hS (in_off hL hk 3 (by decide)) d_law_146 ?_
  refine kiA (kvA (As := [.int (xs (nI k + 1).toNatClampNeg), .int (xs (nI k + 2).toNatClampNeg), .int (xs (nI k + 3).toNatClampNeg)]) (rest := [.int r]) ⟨hx, hb, hml, hown, hts⟩ (cw_LG_17 hts ⟨Nat.le_of_ble_eq_true rfl, Nat.le_of_ble_eq_true rfl⟩) (c_MO_strip l D adr cA μ' ν (xs (nI k + 1).toNatClampNeg) (xs (nI k + 2).toNatClampNeg) (xs (nI k + 3).toNatClampNeg) hc2) hG hP (rc_o (q := 63) (ci := 5) hG hP (by decide) (wc_M (by decide) rfl) rfl) rfl hl.1 (Nat.le_of_ble_eq_true rfl) ⟨Nat.le_refl _, Nat.le_refl _⟩ d_law_147) hS hAA (fun H locs hP hS => ?_)
  refine lv_icmp_eq (tgt := 652) hx hb d_law_150 (by decide) (fun hc => ?_) (fun hc => ?_)
  · exact hE μ' ν' _ _ _ hJ2 hP hS hl
  · exact absurd rfl hc
set_option maxHeartbeats 4000000 in
set_option maxRecDepth 100000 in
theorem law_put {b L : Nat} {xs : Nat → Int32} {J : Mem → Mem → Prop} (hJ : JStp J) (X : Lx p s m args c D adr cA b L xs) {k : Nat} (hk : k + 5 < L)
    (hE : ∀ (μ ν : Mem) (H : Heap) (locs : List Loc) (ls : Array Slot), J μ ν → va_P D cls (wld adr cA μ ν) H → va_S (fun q : Nat => s.heap.size ≤ q) s.heap H locs → lv_has ls 4 [(0, .ref b), (1, .ref (adr 0)), (2, .ref (adr 63)), (3, .int (nI k))] → W p l e room_1 s m args below meth c H locs 600000 7302250 Q (F0 m 652 ls []))
    {H : Heap} {locs : List Loc} {ls : Array Slot} (h0 : J μ ν) (hP : va_P D cls (wld adr cA μ ν) H) (hS : va_S (fun q : Nat => s.heap.size ≤ q) s.heap H locs) (hl : lv_has ls 4 [(0, .ref b), (1, .ref (adr 0)), (2, .ref (adr 63)), (3, .int (nI k))]) : W p l e room_1 s m args below meth c H locs 600000 7302250 Q (F0 m 155 ls []) := by
  obtain ⟨hx, hb, hml, hown, hts, hG, hX, hbl, hL, hAA⟩ := id X
  have hbA : ¬ (fun q : Nat => s.heap.size ≤ q) b := Nat.not_le.mpr hbl
  obtain ⟨r, μ', ν', hc1, hc2, hJ2⟩ := hJ.2.1 μ ν (xs (nI k + 1).toNatClampNeg) (xs (nI k + 2).toNatClampNeg) (xs (nI k + 3).toNatClampNeg) h0
  refine lv_aload_n hx hb d_law_155 rfl (lv_at hl 1 rfl) ?_
  refine lv_aload_n hx hb d_law_156 rfl (lv_at hl 0 rfl) ?_
  refine lv_iload_n hx hb d_law_157 rfl (lv_at hl 3 rfl) ?_
  refine lv_iconst (v := 1) hx hb d_law_158 (by decide) ?_
  refine lv_iadd hx hb d_law_159 ?_
  refine va_sld hx hb hX hbl hbA hS (in_off hL hk 1 (by decide)) d_law_160 ?_
  refine lv_aload_n hx hb d_law_161 rfl (lv_at hl 0 rfl) ?_
  refine lv_iload_n hx hb d_law_162 rfl (lv_at hl 3 rfl) ?_
  refine lv_iconst (v := 2) hx hb d_law_163 (by decide) ?_
  refine lv_iadd hx hb d_law_164 ?_
  refine va_sld hx hb hX hbl hbA hS (in_off hL hk 2 (by decide)) d_law_165 ?_
  refine lv_aload_n hx hb d_law_166 rfl (lv_at hl 0 rfl) ?_
  refine lv_iload_n hx hb d_law_167 rfl (lv_at hl 3 rfl) ?_
  refine lv_iconst (v := 3) hx hb d_law_168 (by decide) ?_
  refine lv_iadd hx hb d_law_169 ?_
  refine va_sld hx hb hX hbl hbA hS (in_off hL hk 3 (by decide)) d_law_170 ?_
  refine kiA (kvA (As := [.int (xs (nI k + 1).toNatClampNeg), .int (xs (nI k + 2).toNatClampNeg), .int (xs (nI k + 3).toNatClampNeg)]) (rest := []) ⟨hx, hb, hml, hown, hts⟩ (cw_LG_18 hts ⟨Nat.le_of_ble_eq_true rfl, Nat.le_of_ble_eq_true rfl⟩) (c_LR_put l D adr cA μ ν (xs (nI k + 1).toNatClampNeg) (xs (nI k + 2).toNatClampNeg) (xs (nI k + 3).toNatClampNeg) hc1) hG hP (rc_o (q := 0) (ci := 4) hG hP (by decide) (wc_C (by decide) rfl) rfl) rfl hl.1 (Nat.le_of_ble_eq_true rfl) ⟨Nat.le_refl _, Nat.le_refl _⟩ d_law_171) hS hAA (fun H locs hP hS => ?_)
  refine lv_aload_n hx hb d_law_174 rfl (lv_at hl 2 rfl) ?_
  refine lv_aload_n hx hb d_law_175 rfl (lv_at hl 0 rfl) ?_
  refine lv_iload_n hx hb d_law_176 rfl (lv_at hl 3 rfl) ?_
  refine lv_iconst (v := 1) hx hb d_law_177 (by decide) ?_
  refine lv_iadd hx hb d_law_178 ?_
  refine va_sld hx hb hX hbl hbA hS (in_off hL hk 1 (by decide)) d_law_179 ?_
  refine lv_aload_n hx hb d_law_180 rfl (lv_at hl 0 rfl) ?_
  refine lv_iload_n hx hb d_law_181 rfl (lv_at hl 3 rfl) ?_
  refine lv_iconst (v := 2) hx hb d_law_182 (by decide) ?_
  refine lv_iadd hx hb d_law_183 ?_
  refine va_sld hx hb hX hbl hbA hS (in_off hL hk 2 (by decide)) d_law_184 ?_
  refine lv_aload_n hx hb d_law_185 rfl (lv_at hl 0 rfl) ?_
  refine lv_iload_n hx hb d_law_186 rfl (lv_at hl 3 rfl) ?_
  refine lv_iconst (v := 3) hx hb d_law_187 (by decide) ?_
  refine lv_iadd hx hb d_law_188 ?_
  refine va_sld hx hb hX hbl hbA hS (in_off hL hk 3 (by decide)) d_law_189 ?_
  refine kiA (kvA (As := [.int (xs (nI k + 1).toNatClampNeg), .int (xs (nI k + 2).toNatClampNeg), .int (xs (nI k + 3).toNatClampNeg)]) (rest := [.int r]) ⟨hx, hb, hml, hown, hts⟩ (cw_LG_21 hts ⟨Nat.le_of_ble_eq_true rfl, Nat.le_of_ble_eq_true rfl⟩) (c_MO_put l D adr cA μ' ν (xs (nI k + 1).toNatClampNeg) (xs (nI k + 2).toNatClampNeg) (xs (nI k + 3).toNatClampNeg) hc2) hG hP (rc_o (q := 63) (ci := 5) hG hP (by decide) (wc_M (by decide) rfl) rfl) rfl hl.1 (Nat.le_of_ble_eq_true rfl) ⟨Nat.le_refl _, Nat.le_refl _⟩ d_law_190) hS hAA (fun H locs hP hS => ?_)
  refine lv_icmp_eq (tgt := 652) hx hb d_law_193 (by decide) (fun hc => ?_) (fun hc => ?_)
  · exact hE μ' ν' _ _ _ hJ2 hP hS hl
  · exact absurd rfl hc
set_option maxHeartbeats 4000000 in
set_option maxRecDepth 100000 in
theorem law_copy {b L : Nat} {xs : Nat → Int32} {J : Mem → Mem → Prop} (hJ : JStp J) (X : Lx p s m args c D adr cA b L xs) {k : Nat} (hk : k + 5 < L)
    (hE : ∀ (μ ν : Mem) (H : Heap) (locs : List Loc) (ls : Array Slot), J μ ν → va_P D cls (wld adr cA μ ν) H → va_S (fun q : Nat => s.heap.size ≤ q) s.heap H locs → lv_has ls 4 [(0, .ref b), (1, .ref (adr 0)), (2, .ref (adr 63)), (3, .int (nI k))] → W p l e room_1 s m args below meth c H locs 600000 7302250 Q (F0 m 652 ls []))
    {H : Heap} {locs : List Loc} {ls : Array Slot} (h0 : J μ ν) (hP : va_P D cls (wld adr cA μ ν) H) (hS : va_S (fun q : Nat => s.heap.size ≤ q) s.heap H locs) (hl : lv_has ls 4 [(0, .ref b), (1, .ref (adr 0)), (2, .ref (adr 63)), (3, .int (nI k))]) : W p l e room_1 s m args below meth c H locs 600000 7302250 Q (F0 m 198 ls []) := by
  obtain ⟨hx, hb, hml, hown, hts, hG, hX, hbl, hL, hAA⟩ := id X
  have hbA : ¬ (fun q : Nat => s.heap.size ≤ q) b := Nat.not_le.mpr hbl
  obtain ⟨r, μ', ν', hc1, hc2, hJ2⟩ := hJ.2.2.1 μ ν (xs (nI k + 1).toNatClampNeg) (xs (nI k + 2).toNatClampNeg) (xs (nI k + 3).toNatClampNeg) (xs (nI k + 4).toNatClampNeg) (xs (nI k + 5).toNatClampNeg) h0
  refine lv_aload_n hx hb d_law_198 rfl (lv_at hl 1 rfl) ?_
  refine lv_aload_n hx hb d_law_199 rfl (lv_at hl 0 rfl) ?_
  refine lv_iload_n hx hb d_law_200 rfl (lv_at hl 3 rfl) ?_
  refine lv_iconst (v := 1) hx hb d_law_201 (by decide) ?_
  refine lv_iadd hx hb d_law_202 ?_
  refine va_sld hx hb hX hbl hbA hS (in_off hL hk 1 (by decide)) d_law_203 ?_
  refine lv_aload_n hx hb d_law_204 rfl (lv_at hl 0 rfl) ?_
  refine lv_iload_n hx hb d_law_205 rfl (lv_at hl 3 rfl) ?_
  refine lv_iconst (v := 2) hx hb d_law_206 (by decide) ?_
  refine lv_iadd hx hb d_law_207 ?_
  refine va_sld hx hb hX hbl hbA hS (in_off hL hk 2 (by decide)) d_law_208 ?_
  refine lv_aload_n hx hb d_law_209 rfl (lv_at hl 0 rfl) ?_
  refine lv_iload_n hx hb d_law_210 rfl (lv_at hl 3 rfl) ?_
  refine lv_iconst (v := 3) hx hb d_law_211 (by decide) ?_
  refine lv_iadd hx hb d_law_212 ?_
  refine va_sld hx hb hX hbl hbA hS (in_off hL hk 3 (by decide)) d_law_213 ?_
  refine lv_aload_n hx hb d_law_214 rfl (lv_at hl 0 rfl) ?_
  refine lv_iload_n hx hb d_law_215 rfl (lv_at hl 3 rfl) ?_
  refine lv_iconst (v := 4) hx hb d_law_216 (by decide) ?_
  refine lv_iadd hx hb d_law_217 ?_
  refine va_sld hx hb hX hbl hbA hS (in_off hL hk 4 (by decide)) d_law_218 ?_
  refine lv_aload_n hx hb d_law_219 rfl (lv_at hl 0 rfl) ?_
  refine lv_iload_n hx hb d_law_220 rfl (lv_at hl 3 rfl) ?_
  refine lv_iconst (v := 5) hx hb d_law_221 (by decide) ?_
  refine lv_iadd hx hb d_law_222 ?_
  refine va_sld hx hb hX hbl hbA hS (in_off hL hk 5 (by decide)) d_law_223 ?_
  refine kiA (kvA (As := [.int (xs (nI k + 1).toNatClampNeg), .int (xs (nI k + 2).toNatClampNeg), .int (xs (nI k + 3).toNatClampNeg), .int (xs (nI k + 4).toNatClampNeg), .int (xs (nI k + 5).toNatClampNeg)]) (rest := []) ⟨hx, hb, hml, hown, hts⟩ (cw_LG_22 hts ⟨Nat.le_of_ble_eq_true rfl, Nat.le_of_ble_eq_true rfl⟩) (c_LR_copy l D adr cA μ ν (xs (nI k + 1).toNatClampNeg) (xs (nI k + 2).toNatClampNeg) (xs (nI k + 3).toNatClampNeg) (xs (nI k + 4).toNatClampNeg) (xs (nI k + 5).toNatClampNeg) hc1) hG hP (rc_o (q := 0) (ci := 4) hG hP (by decide) (wc_C (by decide) rfl) rfl) rfl hl.1 (Nat.le_of_ble_eq_true rfl) ⟨Nat.le_refl _, Nat.le_refl _⟩ d_law_224) hS hAA (fun H locs hP hS => ?_)
  refine lv_aload_n hx hb d_law_227 rfl (lv_at hl 2 rfl) ?_
  refine lv_aload_n hx hb d_law_228 rfl (lv_at hl 0 rfl) ?_
  refine lv_iload_n hx hb d_law_229 rfl (lv_at hl 3 rfl) ?_
  refine lv_iconst (v := 1) hx hb d_law_230 (by decide) ?_
  refine lv_iadd hx hb d_law_231 ?_
  refine va_sld hx hb hX hbl hbA hS (in_off hL hk 1 (by decide)) d_law_232 ?_
  refine lv_aload_n hx hb d_law_233 rfl (lv_at hl 0 rfl) ?_
  refine lv_iload_n hx hb d_law_234 rfl (lv_at hl 3 rfl) ?_
  refine lv_iconst (v := 2) hx hb d_law_235 (by decide) ?_
  refine lv_iadd hx hb d_law_236 ?_
  refine va_sld hx hb hX hbl hbA hS (in_off hL hk 2 (by decide)) d_law_237 ?_
  refine lv_aload_n hx hb d_law_238 rfl (lv_at hl 0 rfl) ?_
  refine lv_iload_n hx hb d_law_239 rfl (lv_at hl 3 rfl) ?_
  refine lv_iconst (v := 3) hx hb d_law_240 (by decide) ?_
  refine lv_iadd hx hb d_law_241 ?_
  refine va_sld hx hb hX hbl hbA hS (in_off hL hk 3 (by decide)) d_law_242 ?_
  refine lv_aload_n hx hb d_law_243 rfl (lv_at hl 0 rfl) ?_
  refine lv_iload_n hx hb d_law_244 rfl (lv_at hl 3 rfl) ?_
  refine lv_iconst (v := 4) hx hb d_law_245 (by decide) ?_
  refine lv_iadd hx hb d_law_246 ?_
  refine va_sld hx hb hX hbl hbA hS (in_off hL hk 4 (by decide)) d_law_247 ?_
  refine lv_aload_n hx hb d_law_248 rfl (lv_at hl 0 rfl) ?_
  refine lv_iload_n hx hb d_law_249 rfl (lv_at hl 3 rfl) ?_
  refine lv_iconst (v := 5) hx hb d_law_250 (by decide) ?_
  refine lv_iadd hx hb d_law_251 ?_
  refine va_sld hx hb hX hbl hbA hS (in_off hL hk 5 (by decide)) d_law_252 ?_
  refine kiA (kvA (As := [.int (xs (nI k + 1).toNatClampNeg), .int (xs (nI k + 2).toNatClampNeg), .int (xs (nI k + 3).toNatClampNeg), .int (xs (nI k + 4).toNatClampNeg), .int (xs (nI k + 5).toNatClampNeg)]) (rest := [.int r]) ⟨hx, hb, hml, hown, hts⟩ (cw_LG_26 hts ⟨Nat.le_of_ble_eq_true rfl, Nat.le_of_ble_eq_true rfl⟩) (c_MO_copy l D adr cA μ' ν (xs (nI k + 1).toNatClampNeg) (xs (nI k + 2).toNatClampNeg) (xs (nI k + 3).toNatClampNeg) (xs (nI k + 4).toNatClampNeg) (xs (nI k + 5).toNatClampNeg) hc2) hG hP (rc_o (q := 63) (ci := 5) hG hP (by decide) (wc_M (by decide) rfl) rfl) rfl hl.1 (Nat.le_of_ble_eq_true rfl) ⟨Nat.le_refl _, Nat.le_refl _⟩ d_law_253) hS hAA (fun H locs hP hS => ?_)
  refine lv_icmp_eq (tgt := 652) hx hb d_law_256 (by decide) (fun hc => ?_) (fun hc => ?_)
  · exact hE μ' ν' _ _ _ hJ2 hP hS hl
  · exact absurd rfl hc
set_option maxHeartbeats 4000000 in
set_option maxRecDepth 100000 in
theorem law_told {b L : Nat} {xs : Nat → Int32} {J : Mem → Mem → Prop} (hJ : JStp J) (X : Lx p s m args c D adr cA b L xs) {k : Nat} (hk : k + 5 < L)
    (hE : ∀ (μ ν : Mem) (H : Heap) (locs : List Loc) (ls : Array Slot), J μ ν → va_P D cls (wld adr cA μ ν) H → va_S (fun q : Nat => s.heap.size ≤ q) s.heap H locs → lv_has ls 4 [(0, .ref b), (1, .ref (adr 0)), (2, .ref (adr 63)), (3, .int (nI k))] → W p l e room_1 s m args below meth c H locs 600000 7302250 Q (F0 m 652 ls []))
    {H : Heap} {locs : List Loc} {ls : Array Slot} (h0 : J μ ν) (hP : va_P D cls (wld adr cA μ ν) H) (hS : va_S (fun q : Nat => s.heap.size ≤ q) s.heap H locs) (hl : lv_has ls 4 [(0, .ref b), (1, .ref (adr 0)), (2, .ref (adr 63)), (3, .int (nI k))]) : W p l e room_1 s m args below meth c H locs 600000 7302250 Q (F0 m 261 ls []) := by
  obtain ⟨hx, hb, hml, hown, hts, hG, hX, hbl, hL, hAA⟩ := id X
  have hbA : ¬ (fun q : Nat => s.heap.size ≤ q) b := Nat.not_le.mpr hbl
  obtain ⟨r, hc1, hc2, hJ2⟩ := hJ.2.2.2.1 μ ν (xs (nI k + 1).toNatClampNeg) (xs (nI k + 2).toNatClampNeg) h0
  refine lv_aload_n hx hb d_law_261 rfl (lv_at hl 1 rfl) ?_
  refine lv_aload_n hx hb d_law_262 rfl (lv_at hl 0 rfl) ?_
  refine lv_iload_n hx hb d_law_263 rfl (lv_at hl 3 rfl) ?_
  refine lv_iconst (v := 1) hx hb d_law_264 (by decide) ?_
  refine lv_iadd hx hb d_law_265 ?_
  refine va_sld hx hb hX hbl hbA hS (in_off hL hk 1 (by decide)) d_law_266 ?_
  refine lv_aload_n hx hb d_law_267 rfl (lv_at hl 0 rfl) ?_
  refine lv_iload_n hx hb d_law_268 rfl (lv_at hl 3 rfl) ?_
  refine lv_iconst (v := 2) hx hb d_law_269 (by decide) ?_
  refine lv_iadd hx hb d_law_270 ?_
  refine va_sld hx hb hX hbl hbA hS (in_off hL hk 2 (by decide)) d_law_271 ?_
  refine klA (kvA (As := [.int (xs (nI k + 1).toNatClampNeg), .int (xs (nI k + 2).toNatClampNeg)]) (rest := []) ⟨hx, hb, hml, hown, hts⟩ (cw_LG_27 hts ⟨Nat.le_of_ble_eq_true rfl, Nat.le_of_ble_eq_true rfl⟩) (c_LR_told l D adr cA μ ν (xs (nI k + 1).toNatClampNeg) (xs (nI k + 2).toNatClampNeg) hc1) hG hP (rc_o (q := 0) (ci := 4) hG hP (by decide) (wc_C (by decide) rfl) rfl) rfl hl.1 (Nat.le_of_ble_eq_true rfl) ⟨Nat.le_refl _, Nat.le_refl _⟩ d_law_272) hS hAA (fun H locs hP hS => ?_)
  refine lv_aload_n hx hb d_law_275 rfl (lv_at hl 2 rfl) ?_
  refine lv_aload_n hx hb d_law_276 rfl (lv_at hl 0 rfl) ?_
  refine lv_iload_n hx hb d_law_277 rfl (lv_at hl 3 rfl) ?_
  refine lv_iconst (v := 1) hx hb d_law_278 (by decide) ?_
  refine lv_iadd hx hb d_law_279 ?_
  refine va_sld hx hb hX hbl hbA hS (in_off hL hk 1 (by decide)) d_law_280 ?_
  refine lv_aload_n hx hb d_law_281 rfl (lv_at hl 0 rfl) ?_
  refine lv_iload_n hx hb d_law_282 rfl (lv_at hl 3 rfl) ?_
  refine lv_iconst (v := 2) hx hb d_law_283 (by decide) ?_
  refine lv_iadd hx hb d_law_284 ?_
  refine va_sld hx hb hX hbl hbA hS (in_off hL hk 2 (by decide)) d_law_285 ?_
  refine klA (kvA (As := [.int (xs (nI k + 1).toNatClampNeg), .int (xs (nI k + 2).toNatClampNeg)]) (rest := [.long r]) ⟨hx, hb, hml, hown, hts⟩ (cw_LG_31 hts ⟨Nat.le_of_ble_eq_true rfl, Nat.le_of_ble_eq_true rfl⟩) (c_MO_told l D adr cA μ ν (xs (nI k + 1).toNatClampNeg) (xs (nI k + 2).toNatClampNeg) hc2) hG hP (rc_o (q := 63) (ci := 5) hG hP (by decide) (wc_M (by decide) rfl) rfl) rfl hl.1 (Nat.le_of_ble_eq_true rfl) ⟨Nat.le_refl _, Nat.le_refl _⟩ d_law_286) hS hAA (fun H locs hP hS => ?_)
  refine W.lcmp hx hb d_law_289 ?_
  refine lv_if_eq (tgt := 652) hx hb d_law_290 (by decide) (fun hc => ?_) (fun hc => ?_)
  · exact hE μ ν _ _ _ hJ2 hP hS hl
  · exact absurd (lg_self r) hc
set_option maxHeartbeats 4000000 in
set_option maxRecDepth 100000 in
theorem law_lay {b L : Nat} {xs : Nat → Int32} {J : Mem → Mem → Prop} (hJ : JStp J) (X : Lx p s m args c D adr cA b L xs) {k : Nat} (hk : k + 5 < L)
    (hE : ∀ (μ ν : Mem) (H : Heap) (locs : List Loc) (ls : Array Slot), J μ ν → va_P D cls (wld adr cA μ ν) H → va_S (fun q : Nat => s.heap.size ≤ q) s.heap H locs → lv_has ls 4 [(0, .ref b), (1, .ref (adr 0)), (2, .ref (adr 63)), (3, .int (nI k))] → W p l e room_1 s m args below meth c H locs 600000 7302250 Q (F0 m 652 ls []))
    {H : Heap} {locs : List Loc} {ls : Array Slot} (h0 : J μ ν) (hP : va_P D cls (wld adr cA μ ν) H) (hS : va_S (fun q : Nat => s.heap.size ≤ q) s.heap H locs) (hl : lv_has ls 4 [(0, .ref b), (1, .ref (adr 0)), (2, .ref (adr 63)), (3, .int (nI k))]) : W p l e room_1 s m args below meth c H locs 600000 7302250 Q (F0 m 295 ls []) := by
  obtain ⟨hx, hb, hml, hown, hts, hG, hX, hbl, hL, hAA⟩ := id X
  have hbA : ¬ (fun q : Nat => s.heap.size ≤ q) b := Nat.not_le.mpr hbl
  obtain ⟨r, μ', ν', hc1, hc2, hJ2⟩ := hJ.2.2.2.2.1 μ ν (xs (nI k + 1).toNatClampNeg) (xs (nI k + 2).toNatClampNeg) h0
  refine lv_aload_n hx hb d_law_295 rfl (lv_at hl 1 rfl) ?_
  refine lv_aload_n hx hb d_law_296 rfl (lv_at hl 0 rfl) ?_
  refine lv_iload_n hx hb d_law_297 rfl (lv_at hl 3 rfl) ?_
  refine lv_iconst (v := 1) hx hb d_law_298 (by decide) ?_
  refine lv_iadd hx hb d_law_299 ?_
  refine va_sld hx hb hX hbl hbA hS (in_off hL hk 1 (by decide)) d_law_300 ?_
  refine lv_aload_n hx hb d_law_301 rfl (lv_at hl 0 rfl) ?_
  refine lv_iload_n hx hb d_law_302 rfl (lv_at hl 3 rfl) ?_
  refine lv_iconst (v := 2) hx hb d_law_303 (by decide) ?_
  refine lv_iadd hx hb d_law_304 ?_
  refine va_sld hx hb hX hbl hbA hS (in_off hL hk 2 (by decide)) d_law_305 ?_
  refine kiA (kvA (As := [.int (xs (nI k + 1).toNatClampNeg), .int (xs (nI k + 2).toNatClampNeg)]) (rest := []) ⟨hx, hb, hml, hown, hts⟩ (cw_LG_32 hts ⟨Nat.le_of_ble_eq_true rfl, Nat.le_of_ble_eq_true rfl⟩) (c_LR_lay l D adr cA μ ν (xs (nI k + 1).toNatClampNeg) (xs (nI k + 2).toNatClampNeg) hc1) hG hP (rc_o (q := 0) (ci := 4) hG hP (by decide) (wc_C (by decide) rfl) rfl) rfl hl.1 (Nat.le_of_ble_eq_true rfl) ⟨Nat.le_refl _, Nat.le_refl _⟩ d_law_306) hS hAA (fun H locs hP hS => ?_)
  refine lv_aload_n hx hb d_law_309 rfl (lv_at hl 2 rfl) ?_
  refine lv_aload_n hx hb d_law_310 rfl (lv_at hl 0 rfl) ?_
  refine lv_iload_n hx hb d_law_311 rfl (lv_at hl 3 rfl) ?_
  refine lv_iconst (v := 1) hx hb d_law_312 (by decide) ?_
  refine lv_iadd hx hb d_law_313 ?_
  refine va_sld hx hb hX hbl hbA hS (in_off hL hk 1 (by decide)) d_law_314 ?_
  refine lv_aload_n hx hb d_law_315 rfl (lv_at hl 0 rfl) ?_
  refine lv_iload_n hx hb d_law_316 rfl (lv_at hl 3 rfl) ?_
  refine lv_iconst (v := 2) hx hb d_law_317 (by decide) ?_
  refine lv_iadd hx hb d_law_318 ?_
  refine va_sld hx hb hX hbl hbA hS (in_off hL hk 2 (by decide)) d_law_319 ?_
  refine kiA (kvA (As := [.int (xs (nI k + 1).toNatClampNeg), .int (xs (nI k + 2).toNatClampNeg)]) (rest := [.int r]) ⟨hx, hb, hml, hown, hts⟩ (cw_LG_36 hts ⟨Nat.le_of_ble_eq_true rfl, Nat.le_of_ble_eq_true rfl⟩) (c_MO_lay l D adr cA μ' ν (xs (nI k + 1).toNatClampNeg) (xs (nI k + 2).toNatClampNeg) hc2) hG hP (rc_o (q := 63) (ci := 5) hG hP (by decide) (wc_M (by decide) rfl) rfl) rfl hl.1 (Nat.le_of_ble_eq_true rfl) ⟨Nat.le_refl _, Nat.le_refl _⟩ d_law_320) hS hAA (fun H locs hP hS => ?_)
  refine lv_icmp_eq (tgt := 652) hx hb d_law_323 (by decide) (fun hc => ?_) (fun hc => ?_)
  · exact hE μ' ν' _ _ _ hJ2 hP hS hl
  · exact absurd rfl hc
set_option maxHeartbeats 4000000 in
set_option maxRecDepth 100000 in
theorem law_field {b L : Nat} {xs : Nat → Int32} {J : Mem → Mem → Prop} (hJ : JStp J) (X : Lx p s m args c D adr cA b L xs) {k : Nat} (hk : k + 5 < L)
    (hE : ∀ (μ ν : Mem) (H : Heap) (locs : List Loc) (ls : Array Slot), J μ ν → va_P D cls (wld adr cA μ ν) H → va_S (fun q : Nat => s.heap.size ≤ q) s.heap H locs → lv_has ls 4 [(0, .ref b), (1, .ref (adr 0)), (2, .ref (adr 63)), (3, .int (nI k))] → W p l e room_1 s m args below meth c H locs 600000 7302250 Q (F0 m 652 ls []))
    {H : Heap} {locs : List Loc} {ls : Array Slot} (h0 : J μ ν) (hP : va_P D cls (wld adr cA μ ν) H) (hS : va_S (fun q : Nat => s.heap.size ≤ q) s.heap H locs) (hl : lv_has ls 4 [(0, .ref b), (1, .ref (adr 0)), (2, .ref (adr 63)), (3, .int (nI k))]) : W p l e room_1 s m args below meth c H locs 600000 7302250 Q (F0 m 328 ls []) := by
  obtain ⟨hx, hb, hml, hown, hts, hG, hX, hbl, hL, hAA⟩ := id X
  have hbA : ¬ (fun q : Nat => s.heap.size ≤ q) b := Nat.not_le.mpr hbl
  obtain ⟨r, hc1, hc2, hJ2⟩ := hJ.2.2.2.2.2.1 μ ν (xs (nI k + 1).toNatClampNeg) (xs (nI k + 2).toNatClampNeg) h0
  refine lv_aload_n hx hb d_law_328 rfl (lv_at hl 1 rfl) ?_
  refine lv_aload_n hx hb d_law_329 rfl (lv_at hl 0 rfl) ?_
  refine lv_iload_n hx hb d_law_330 rfl (lv_at hl 3 rfl) ?_
  refine lv_iconst (v := 1) hx hb d_law_331 (by decide) ?_
  refine lv_iadd hx hb d_law_332 ?_
  refine va_sld hx hb hX hbl hbA hS (in_off hL hk 1 (by decide)) d_law_333 ?_
  refine lv_aload_n hx hb d_law_334 rfl (lv_at hl 0 rfl) ?_
  refine lv_iload_n hx hb d_law_335 rfl (lv_at hl 3 rfl) ?_
  refine lv_iconst (v := 2) hx hb d_law_336 (by decide) ?_
  refine lv_iadd hx hb d_law_337 ?_
  refine va_sld hx hb hX hbl hbA hS (in_off hL hk 2 (by decide)) d_law_338 ?_
  refine kiA (kvA (As := [.int (xs (nI k + 1).toNatClampNeg), .int (xs (nI k + 2).toNatClampNeg)]) (rest := []) ⟨hx, hb, hml, hown, hts⟩ (cw_LG_37 hts ⟨Nat.le_of_ble_eq_true rfl, Nat.le_of_ble_eq_true rfl⟩) (c_LR_field l D adr cA μ ν (xs (nI k + 1).toNatClampNeg) (xs (nI k + 2).toNatClampNeg) hc1) hG hP (rc_o (q := 0) (ci := 4) hG hP (by decide) (wc_C (by decide) rfl) rfl) rfl hl.1 (Nat.le_of_ble_eq_true rfl) ⟨Nat.le_refl _, Nat.le_refl _⟩ d_law_339) hS hAA (fun H locs hP hS => ?_)
  refine lv_aload_n hx hb d_law_342 rfl (lv_at hl 2 rfl) ?_
  refine lv_aload_n hx hb d_law_343 rfl (lv_at hl 0 rfl) ?_
  refine lv_iload_n hx hb d_law_344 rfl (lv_at hl 3 rfl) ?_
  refine lv_iconst (v := 1) hx hb d_law_345 (by decide) ?_
  refine lv_iadd hx hb d_law_346 ?_
  refine va_sld hx hb hX hbl hbA hS (in_off hL hk 1 (by decide)) d_law_347 ?_
  refine lv_aload_n hx hb d_law_348 rfl (lv_at hl 0 rfl) ?_
  refine lv_iload_n hx hb d_law_349 rfl (lv_at hl 3 rfl) ?_
  refine lv_iconst (v := 2) hx hb d_law_350 (by decide) ?_
  refine lv_iadd hx hb d_law_351 ?_
  refine va_sld hx hb hX hbl hbA hS (in_off hL hk 2 (by decide)) d_law_352 ?_
  refine kiA (kvA (As := [.int (xs (nI k + 1).toNatClampNeg), .int (xs (nI k + 2).toNatClampNeg)]) (rest := [.int r]) ⟨hx, hb, hml, hown, hts⟩ (cw_LG_40 hts ⟨Nat.le_of_ble_eq_true rfl, Nat.le_of_ble_eq_true rfl⟩) (c_MO_field l D adr cA μ ν (xs (nI k + 1).toNatClampNeg) (xs (nI k + 2).toNatClampNeg) hc2) hG hP (rc_o (q := 63) (ci := 5) hG hP (by decide) (wc_M (by decide) rfl) rfl) rfl hl.1 (Nat.le_of_ble_eq_true rfl) ⟨Nat.le_refl _, Nat.le_refl _⟩ d_law_353) hS hAA (fun H locs hP hS => ?_)
  refine lv_icmp_eq (tgt := 652) hx hb d_law_356 (by decide) (fun hc => ?_) (fun hc => ?_)
  · exact hE μ ν _ _ _ hJ2 hP hS hl
  · exact absurd rfl hc
set_option maxHeartbeats 4000000 in
set_option maxRecDepth 100000 in
theorem law_hollow {b L : Nat} {xs : Nat → Int32} {J : Mem → Mem → Prop} (hJ : JStp J) (X : Lx p s m args c D adr cA b L xs) {k : Nat} (hk : k + 5 < L)
    (hE : ∀ (μ ν : Mem) (H : Heap) (locs : List Loc) (ls : Array Slot), J μ ν → va_P D cls (wld adr cA μ ν) H → va_S (fun q : Nat => s.heap.size ≤ q) s.heap H locs → lv_has ls 4 [(0, .ref b), (1, .ref (adr 0)), (2, .ref (adr 63)), (3, .int (nI k))] → W p l e room_1 s m args below meth c H locs 600000 7302250 Q (F0 m 652 ls []))
    {H : Heap} {locs : List Loc} {ls : Array Slot} (h0 : J μ ν) (hP : va_P D cls (wld adr cA μ ν) H) (hS : va_S (fun q : Nat => s.heap.size ≤ q) s.heap H locs) (hl : lv_has ls 4 [(0, .ref b), (1, .ref (adr 0)), (2, .ref (adr 63)), (3, .int (nI k))]) : W p l e room_1 s m args below meth c H locs 600000 7302250 Q (F0 m 361 ls []) := by
  obtain ⟨hx, hb, hml, hown, hts, hG, hX, hbl, hL, hAA⟩ := id X
  have hbA : ¬ (fun q : Nat => s.heap.size ≤ q) b := Nat.not_le.mpr hbl
  obtain ⟨r, hc1, hc2, hJ2⟩ := hJ.2.2.2.2.2.2.1 μ ν (xs (nI k + 1).toNatClampNeg) h0
  refine lv_aload_n hx hb d_law_361 rfl (lv_at hl 1 rfl) ?_
  refine lv_aload_n hx hb d_law_362 rfl (lv_at hl 0 rfl) ?_
  refine lv_iload_n hx hb d_law_363 rfl (lv_at hl 3 rfl) ?_
  refine lv_iconst (v := 1) hx hb d_law_364 (by decide) ?_
  refine lv_iadd hx hb d_law_365 ?_
  refine va_sld hx hb hX hbl hbA hS (in_off hL hk 1 (by decide)) d_law_366 ?_
  refine kiA (kvA (As := [.int (xs (nI k + 1).toNatClampNeg)]) (rest := []) ⟨hx, hb, hml, hown, hts⟩ (cw_LG_41 hts ⟨Nat.le_of_ble_eq_true rfl, Nat.le_of_ble_eq_true rfl⟩) (c_LR_hollow l D adr cA μ ν (xs (nI k + 1).toNatClampNeg) hc1) hG hP (rc_o (q := 0) (ci := 4) hG hP (by decide) (wc_C (by decide) rfl) rfl) rfl hl.1 (Nat.le_of_ble_eq_true rfl) ⟨Nat.le_refl _, Nat.le_refl _⟩ d_law_367) hS hAA (fun H locs hP hS => ?_)
  refine lv_aload_n hx hb d_law_370 rfl (lv_at hl 2 rfl) ?_
  refine lv_aload_n hx hb d_law_371 rfl (lv_at hl 0 rfl) ?_
  refine lv_iload_n hx hb d_law_372 rfl (lv_at hl 3 rfl) ?_
  refine lv_iconst (v := 1) hx hb d_law_373 (by decide) ?_
  refine lv_iadd hx hb d_law_374 ?_
  refine va_sld hx hb hX hbl hbA hS (in_off hL hk 1 (by decide)) d_law_375 ?_
  refine kiA (kvA (As := [.int (xs (nI k + 1).toNatClampNeg)]) (rest := [.int r]) ⟨hx, hb, hml, hown, hts⟩ (cw_LG_45 hts ⟨Nat.le_of_ble_eq_true rfl, Nat.le_of_ble_eq_true rfl⟩) (c_MO_hollow l D adr cA μ ν (xs (nI k + 1).toNatClampNeg) hc2) hG hP (rc_o (q := 63) (ci := 5) hG hP (by decide) (wc_M (by decide) rfl) rfl) rfl hl.1 (Nat.le_of_ble_eq_true rfl) ⟨Nat.le_refl _, Nat.le_refl _⟩ d_law_376) hS hAA (fun H locs hP hS => ?_)
  refine lv_icmp_eq (tgt := 652) hx hb d_law_379 (by decide) (fun hc => ?_) (fun hc => ?_)
  · exact hE μ ν _ _ _ hJ2 hP hS hl
  · exact absurd rfl hc
set_option maxHeartbeats 4000000 in
set_option maxRecDepth 100000 in
theorem law_lake {b L : Nat} {xs : Nat → Int32} {J : Mem → Mem → Prop} (hJ : JStp J) (X : Lx p s m args c D adr cA b L xs) {k : Nat} (hk : k + 5 < L)
    (hE : ∀ (μ ν : Mem) (H : Heap) (locs : List Loc) (ls : Array Slot), J μ ν → va_P D cls (wld adr cA μ ν) H → va_S (fun q : Nat => s.heap.size ≤ q) s.heap H locs → lv_has ls 4 [(0, .ref b), (1, .ref (adr 0)), (2, .ref (adr 63)), (3, .int (nI k))] → W p l e room_1 s m args below meth c H locs 600000 7302250 Q (F0 m 652 ls []))
    {H : Heap} {locs : List Loc} {ls : Array Slot} (h0 : J μ ν) (hP : va_P D cls (wld adr cA μ ν) H) (hS : va_S (fun q : Nat => s.heap.size ≤ q) s.heap H locs) (hl : lv_has ls 4 [(0, .ref b), (1, .ref (adr 0)), (2, .ref (adr 63)), (3, .int (nI k))]) : W p l e room_1 s m args below meth c H locs 600000 7302250 Q (F0 m 384 ls []) := by
  obtain ⟨hx, hb, hml, hown, hts, hG, hX, hbl, hL, hAA⟩ := id X
  have hbA : ¬ (fun q : Nat => s.heap.size ≤ q) b := Nat.not_le.mpr hbl
  obtain ⟨r, hc1, hc2, hJ2⟩ := hJ.2.2.2.2.2.2.2.1 μ ν (xs (nI k + 1).toNatClampNeg) (xs (nI k + 2).toNatClampNeg) h0
  refine lv_aload_n hx hb d_law_384 rfl (lv_at hl 1 rfl) ?_
  refine lv_aload_n hx hb d_law_385 rfl (lv_at hl 0 rfl) ?_
  refine lv_iload_n hx hb d_law_386 rfl (lv_at hl 3 rfl) ?_
  refine lv_iconst (v := 1) hx hb d_law_387 (by decide) ?_
  refine lv_iadd hx hb d_law_388 ?_
  refine va_sld hx hb hX hbl hbA hS (in_off hL hk 1 (by decide)) d_law_389 ?_
  refine lv_aload_n hx hb d_law_390 rfl (lv_at hl 0 rfl) ?_
  refine lv_iload_n hx hb d_law_391 rfl (lv_at hl 3 rfl) ?_
  refine lv_iconst (v := 2) hx hb d_law_392 (by decide) ?_
  refine lv_iadd hx hb d_law_393 ?_
  refine va_sld hx hb hX hbl hbA hS (in_off hL hk 2 (by decide)) d_law_394 ?_
  refine kiA (kvA (As := [.int (xs (nI k + 1).toNatClampNeg), .int (xs (nI k + 2).toNatClampNeg)]) (rest := []) ⟨hx, hb, hml, hown, hts⟩ (cw_LG_46 hts ⟨Nat.le_of_ble_eq_true rfl, Nat.le_of_ble_eq_true rfl⟩) (c_LR_lake l D adr cA μ ν (xs (nI k + 1).toNatClampNeg) (xs (nI k + 2).toNatClampNeg) hc1) hG hP (rc_o (q := 0) (ci := 4) hG hP (by decide) (wc_C (by decide) rfl) rfl) rfl hl.1 (Nat.le_of_ble_eq_true rfl) ⟨Nat.le_refl _, Nat.le_refl _⟩ d_law_395) hS hAA (fun H locs hP hS => ?_)
  refine lv_aload_n hx hb d_law_398 rfl (lv_at hl 2 rfl) ?_
  refine lv_aload_n hx hb d_law_399 rfl (lv_at hl 0 rfl) ?_
  refine lv_iload_n hx hb d_law_400 rfl (lv_at hl 3 rfl) ?_
  refine lv_iconst (v := 1) hx hb d_law_401 (by decide) ?_
  refine lv_iadd hx hb d_law_402 ?_
  refine va_sld hx hb hX hbl hbA hS (in_off hL hk 1 (by decide)) d_law_403 ?_
  refine lv_aload_n hx hb d_law_404 rfl (lv_at hl 0 rfl) ?_
  refine lv_iload_n hx hb d_law_405 rfl (lv_at hl 3 rfl) ?_
  refine lv_iconst (v := 2) hx hb d_law_406 (by decide) ?_
  refine lv_iadd hx hb d_law_407 ?_
  refine va_sld hx hb hX hbl hbA hS (in_off hL hk 2 (by decide)) d_law_408 ?_
  refine kiA (kvA (As := [.int (xs (nI k + 1).toNatClampNeg), .int (xs (nI k + 2).toNatClampNeg)]) (rest := [.int r]) ⟨hx, hb, hml, hown, hts⟩ (cw_LG_49 hts ⟨Nat.le_of_ble_eq_true rfl, Nat.le_of_ble_eq_true rfl⟩) (c_MO_lake l D adr cA μ ν (xs (nI k + 1).toNatClampNeg) (xs (nI k + 2).toNatClampNeg) hc2) hG hP (rc_o (q := 63) (ci := 5) hG hP (by decide) (wc_M (by decide) rfl) rfl) rfl hl.1 (Nat.le_of_ble_eq_true rfl) ⟨Nat.le_refl _, Nat.le_refl _⟩ d_law_409) hS hAA (fun H locs hP hS => ?_)
  refine lv_icmp_eq (tgt := 652) hx hb d_law_412 (by decide) (fun hc => ?_) (fun hc => ?_)
  · exact hE μ ν _ _ _ hJ2 hP hS hl
  · exact absurd rfl hc
set_option maxHeartbeats 4000000 in
set_option maxRecDepth 100000 in
theorem law_ground {b L : Nat} {xs : Nat → Int32} {J : Mem → Mem → Prop} (hJ : JStp J) (X : Lx p s m args c D adr cA b L xs) {k : Nat} (hk : k + 5 < L)
    (hE : ∀ (μ ν : Mem) (H : Heap) (locs : List Loc) (ls : Array Slot), J μ ν → va_P D cls (wld adr cA μ ν) H → va_S (fun q : Nat => s.heap.size ≤ q) s.heap H locs → lv_has ls 4 [(0, .ref b), (1, .ref (adr 0)), (2, .ref (adr 63)), (3, .int (nI k))] → W p l e room_1 s m args below meth c H locs 600000 7302250 Q (F0 m 652 ls []))
    {H : Heap} {locs : List Loc} {ls : Array Slot} (h0 : J μ ν) (hP : va_P D cls (wld adr cA μ ν) H) (hS : va_S (fun q : Nat => s.heap.size ≤ q) s.heap H locs) (hl : lv_has ls 4 [(0, .ref b), (1, .ref (adr 0)), (2, .ref (adr 63)), (3, .int (nI k))]) : W p l e room_1 s m args below meth c H locs 600000 7302250 Q (F0 m 417 ls []) := by
  obtain ⟨hx, hb, hml, hown, hts, hG, hX, hbl, hL, hAA⟩ := id X
  have hbA : ¬ (fun q : Nat => s.heap.size ≤ q) b := Nat.not_le.mpr hbl
  obtain ⟨r, hc1, hc2, hJ2⟩ := hJ.2.2.2.2.2.2.2.2.1 μ ν (xs (nI k + 1).toNatClampNeg) (xs (nI k + 2).toNatClampNeg) h0
  refine lv_aload_n hx hb d_law_417 rfl (lv_at hl 1 rfl) ?_
  refine lv_aload_n hx hb d_law_418 rfl (lv_at hl 0 rfl) ?_
  refine lv_iload_n hx hb d_law_419 rfl (lv_at hl 3 rfl) ?_
  refine lv_iconst (v := 1) hx hb d_law_420 (by decide) ?_
  refine lv_iadd hx hb d_law_421 ?_
  refine va_sld hx hb hX hbl hbA hS (in_off hL hk 1 (by decide)) d_law_422 ?_
  refine lv_aload_n hx hb d_law_423 rfl (lv_at hl 0 rfl) ?_
  refine lv_iload_n hx hb d_law_424 rfl (lv_at hl 3 rfl) ?_
  refine lv_iconst (v := 2) hx hb d_law_425 (by decide) ?_
  refine lv_iadd hx hb d_law_426 ?_
  refine va_sld hx hb hX hbl hbA hS (in_off hL hk 2 (by decide)) d_law_427 ?_
  refine kiA (kvA (As := [.int (xs (nI k + 1).toNatClampNeg), .int (xs (nI k + 2).toNatClampNeg)]) (rest := []) ⟨hx, hb, hml, hown, hts⟩ (cw_LG_50 hts ⟨Nat.le_of_ble_eq_true rfl, Nat.le_of_ble_eq_true rfl⟩) (c_LR_ground l D adr cA μ ν (xs (nI k + 1).toNatClampNeg) (xs (nI k + 2).toNatClampNeg) hc1) hG hP (rc_o (q := 0) (ci := 4) hG hP (by decide) (wc_C (by decide) rfl) rfl) rfl hl.1 (Nat.le_of_ble_eq_true rfl) ⟨Nat.le_refl _, Nat.le_refl _⟩ d_law_428) hS hAA (fun H locs hP hS => ?_)
  refine lv_aload_n hx hb d_law_431 rfl (lv_at hl 2 rfl) ?_
  refine lv_aload_n hx hb d_law_432 rfl (lv_at hl 0 rfl) ?_
  refine lv_iload_n hx hb d_law_433 rfl (lv_at hl 3 rfl) ?_
  refine lv_iconst (v := 1) hx hb d_law_434 (by decide) ?_
  refine lv_iadd hx hb d_law_435 ?_
  refine va_sld hx hb hX hbl hbA hS (in_off hL hk 1 (by decide)) d_law_436 ?_
  refine lv_aload_n hx hb d_law_437 rfl (lv_at hl 0 rfl) ?_
  refine lv_iload_n hx hb d_law_438 rfl (lv_at hl 3 rfl) ?_
  refine lv_iconst (v := 2) hx hb d_law_439 (by decide) ?_
  refine lv_iadd hx hb d_law_440 ?_
  refine va_sld hx hb hX hbl hbA hS (in_off hL hk 2 (by decide)) d_law_441 ?_
  refine kiA (kvA (As := [.int (xs (nI k + 1).toNatClampNeg), .int (xs (nI k + 2).toNatClampNeg)]) (rest := [.int r]) ⟨hx, hb, hml, hown, hts⟩ (cw_LG_53 hts ⟨Nat.le_of_ble_eq_true rfl, Nat.le_of_ble_eq_true rfl⟩) (c_MO_ground l D adr cA μ ν (xs (nI k + 1).toNatClampNeg) (xs (nI k + 2).toNatClampNeg) hc2) hG hP (rc_o (q := 63) (ci := 5) hG hP (by decide) (wc_M (by decide) rfl) rfl) rfl hl.1 (Nat.le_of_ble_eq_true rfl) ⟨Nat.le_refl _, Nat.le_refl _⟩ d_law_442) hS hAA (fun H locs hP hS => ?_)
  refine lv_icmp_eq (tgt := 652) hx hb d_law_445 (by decide) (fun hc => ?_) (fun hc => ?_)
  · exact hE μ ν _ _ _ hJ2 hP hS hl
  · exact absurd rfl hc
set_option maxHeartbeats 4000000 in
set_option maxRecDepth 100000 in
theorem law_holds {b L : Nat} {xs : Nat → Int32} {J : Mem → Mem → Prop} (hJ : JStp J) (X : Lx p s m args c D adr cA b L xs) {k : Nat} (hk : k + 5 < L)
    (hE : ∀ (μ ν : Mem) (H : Heap) (locs : List Loc) (ls : Array Slot), J μ ν → va_P D cls (wld adr cA μ ν) H → va_S (fun q : Nat => s.heap.size ≤ q) s.heap H locs → lv_has ls 4 [(0, .ref b), (1, .ref (adr 0)), (2, .ref (adr 63)), (3, .int (nI k))] → W p l e room_1 s m args below meth c H locs 600000 7302250 Q (F0 m 652 ls []))
    {H : Heap} {locs : List Loc} {ls : Array Slot} (h0 : J μ ν) (hP : va_P D cls (wld adr cA μ ν) H) (hS : va_S (fun q : Nat => s.heap.size ≤ q) s.heap H locs) (hl : lv_has ls 4 [(0, .ref b), (1, .ref (adr 0)), (2, .ref (adr 63)), (3, .int (nI k))]) : W p l e room_1 s m args below meth c H locs 600000 7302250 Q (F0 m 450 ls []) := by
  obtain ⟨hx, hb, hml, hown, hts, hG, hX, hbl, hL, hAA⟩ := id X
  have hbA : ¬ (fun q : Nat => s.heap.size ≤ q) b := Nat.not_le.mpr hbl
  obtain ⟨r, hc1, hc2, hJ2⟩ := hJ.2.2.2.2.2.2.2.2.2.1 μ ν (xs (nI k + 1).toNatClampNeg) (xs (nI k + 2).toNatClampNeg) h0
  refine lv_aload_n hx hb d_law_450 rfl (lv_at hl 1 rfl) ?_
  refine lv_aload_n hx hb d_law_451 rfl (lv_at hl 0 rfl) ?_
  refine lv_iload_n hx hb d_law_452 rfl (lv_at hl 3 rfl) ?_
  refine lv_iconst (v := 1) hx hb d_law_453 (by decide) ?_
  refine lv_iadd hx hb d_law_454 ?_
  refine va_sld hx hb hX hbl hbA hS (in_off hL hk 1 (by decide)) d_law_455 ?_
  refine lv_aload_n hx hb d_law_456 rfl (lv_at hl 0 rfl) ?_
  refine lv_iload_n hx hb d_law_457 rfl (lv_at hl 3 rfl) ?_
  refine lv_iconst (v := 2) hx hb d_law_458 (by decide) ?_
  refine lv_iadd hx hb d_law_459 ?_
  refine va_sld hx hb hX hbl hbA hS (in_off hL hk 2 (by decide)) d_law_460 ?_
  refine kiA (kvA (As := [.int (xs (nI k + 1).toNatClampNeg), .int (xs (nI k + 2).toNatClampNeg)]) (rest := []) ⟨hx, hb, hml, hown, hts⟩ (cw_LG_54 hts ⟨Nat.le_of_ble_eq_true rfl, Nat.le_of_ble_eq_true rfl⟩) (c_LR_holds l D adr cA μ ν (xs (nI k + 1).toNatClampNeg) (xs (nI k + 2).toNatClampNeg) hc1) hG hP (rc_o (q := 0) (ci := 4) hG hP (by decide) (wc_C (by decide) rfl) rfl) rfl hl.1 (Nat.le_of_ble_eq_true rfl) ⟨Nat.le_refl _, Nat.le_refl _⟩ d_law_461) hS hAA (fun H locs hP hS => ?_)
  refine lv_aload_n hx hb d_law_464 rfl (lv_at hl 2 rfl) ?_
  refine lv_aload_n hx hb d_law_465 rfl (lv_at hl 0 rfl) ?_
  refine lv_iload_n hx hb d_law_466 rfl (lv_at hl 3 rfl) ?_
  refine lv_iconst (v := 1) hx hb d_law_467 (by decide) ?_
  refine lv_iadd hx hb d_law_468 ?_
  refine va_sld hx hb hX hbl hbA hS (in_off hL hk 1 (by decide)) d_law_469 ?_
  refine lv_aload_n hx hb d_law_470 rfl (lv_at hl 0 rfl) ?_
  refine lv_iload_n hx hb d_law_471 rfl (lv_at hl 3 rfl) ?_
  refine lv_iconst (v := 2) hx hb d_law_472 (by decide) ?_
  refine lv_iadd hx hb d_law_473 ?_
  refine va_sld hx hb hX hbl hbA hS (in_off hL hk 2 (by decide)) d_law_474 ?_
  refine kiA (kvA (As := [.int (xs (nI k + 1).toNatClampNeg), .int (xs (nI k + 2).toNatClampNeg)]) (rest := [.int r]) ⟨hx, hb, hml, hown, hts⟩ (cw_LG_57 hts ⟨Nat.le_of_ble_eq_true rfl, Nat.le_of_ble_eq_true rfl⟩) (c_MO_holds l D adr cA μ ν (xs (nI k + 1).toNatClampNeg) (xs (nI k + 2).toNatClampNeg) hc2) hG hP (rc_o (q := 63) (ci := 5) hG hP (by decide) (wc_M (by decide) rfl) rfl) rfl hl.1 (Nat.le_of_ble_eq_true rfl) ⟨Nat.le_refl _, Nat.le_refl _⟩ d_law_475) hS hAA (fun H locs hP hS => ?_)
  refine lv_icmp_eq (tgt := 652) hx hb d_law_478 (by decide) (fun hc => ?_) (fun hc => ?_)
  · exact hE μ ν _ _ _ hJ2 hP hS hl
  · exact absurd rfl hc
set_option maxHeartbeats 4000000 in
set_option maxRecDepth 100000 in
theorem law_area {b L : Nat} {xs : Nat → Int32} {J : Mem → Mem → Prop} (hJ : JStp J) (X : Lx p s m args c D adr cA b L xs) {k : Nat} (hk : k + 5 < L)
    (hE : ∀ (μ ν : Mem) (H : Heap) (locs : List Loc) (ls : Array Slot), J μ ν → va_P D cls (wld adr cA μ ν) H → va_S (fun q : Nat => s.heap.size ≤ q) s.heap H locs → lv_has ls 4 [(0, .ref b), (1, .ref (adr 0)), (2, .ref (adr 63)), (3, .int (nI k))] → W p l e room_1 s m args below meth c H locs 600000 7302250 Q (F0 m 652 ls []))
    {H : Heap} {locs : List Loc} {ls : Array Slot} (h0 : J μ ν) (hP : va_P D cls (wld adr cA μ ν) H) (hS : va_S (fun q : Nat => s.heap.size ≤ q) s.heap H locs) (hl : lv_has ls 4 [(0, .ref b), (1, .ref (adr 0)), (2, .ref (adr 63)), (3, .int (nI k))]) : W p l e room_1 s m args below meth c H locs 600000 7302250 Q (F0 m 483 ls []) := by
  obtain ⟨hx, hb, hml, hown, hts, hG, hX, hbl, hL, hAA⟩ := id X
  have hbA : ¬ (fun q : Nat => s.heap.size ≤ q) b := Nat.not_le.mpr hbl
  obtain ⟨r, hc1, hc2, hJ2⟩ := hJ.2.2.2.2.2.2.2.2.2.2.1 μ ν (xs (nI k + 1).toNatClampNeg) (xs (nI k + 2).toNatClampNeg) h0
  refine lv_aload_n hx hb d_law_483 rfl (lv_at hl 1 rfl) ?_
  refine lv_aload_n hx hb d_law_484 rfl (lv_at hl 0 rfl) ?_
  refine lv_iload_n hx hb d_law_485 rfl (lv_at hl 3 rfl) ?_
  refine lv_iconst (v := 1) hx hb d_law_486 (by decide) ?_
  refine lv_iadd hx hb d_law_487 ?_
  refine va_sld hx hb hX hbl hbA hS (in_off hL hk 1 (by decide)) d_law_488 ?_
  refine lv_aload_n hx hb d_law_489 rfl (lv_at hl 0 rfl) ?_
  refine lv_iload_n hx hb d_law_490 rfl (lv_at hl 3 rfl) ?_
  refine lv_iconst (v := 2) hx hb d_law_491 (by decide) ?_
  refine lv_iadd hx hb d_law_492 ?_
  refine va_sld hx hb hX hbl hbA hS (in_off hL hk 2 (by decide)) d_law_493 ?_
  refine kiA (kvA (As := [.int (xs (nI k + 1).toNatClampNeg), .int (xs (nI k + 2).toNatClampNeg)]) (rest := []) ⟨hx, hb, hml, hown, hts⟩ (cw_LG_58 hts ⟨Nat.le_of_ble_eq_true rfl, Nat.le_of_ble_eq_true rfl⟩) (c_LR_area l D adr cA μ ν (xs (nI k + 1).toNatClampNeg) (xs (nI k + 2).toNatClampNeg) hc1) hG hP (rc_o (q := 0) (ci := 4) hG hP (by decide) (wc_C (by decide) rfl) rfl) rfl hl.1 (Nat.le_of_ble_eq_true rfl) ⟨Nat.le_refl _, Nat.le_refl _⟩ d_law_494) hS hAA (fun H locs hP hS => ?_)
  refine lv_aload_n hx hb d_law_497 rfl (lv_at hl 2 rfl) ?_
  refine lv_aload_n hx hb d_law_498 rfl (lv_at hl 0 rfl) ?_
  refine lv_iload_n hx hb d_law_499 rfl (lv_at hl 3 rfl) ?_
  refine lv_iconst (v := 1) hx hb d_law_500 (by decide) ?_
  refine lv_iadd hx hb d_law_501 ?_
  refine va_sld hx hb hX hbl hbA hS (in_off hL hk 1 (by decide)) d_law_502 ?_
  refine lv_aload_n hx hb d_law_503 rfl (lv_at hl 0 rfl) ?_
  refine lv_iload_n hx hb d_law_504 rfl (lv_at hl 3 rfl) ?_
  refine lv_iconst (v := 2) hx hb d_law_505 (by decide) ?_
  refine lv_iadd hx hb d_law_506 ?_
  refine va_sld hx hb hX hbl hbA hS (in_off hL hk 2 (by decide)) d_law_507 ?_
  refine kiA (kvA (As := [.int (xs (nI k + 1).toNatClampNeg), .int (xs (nI k + 2).toNatClampNeg)]) (rest := [.int r]) ⟨hx, hb, hml, hown, hts⟩ (cw_LG_61 hts ⟨Nat.le_of_ble_eq_true rfl, Nat.le_of_ble_eq_true rfl⟩) (c_MO_area l D adr cA μ ν (xs (nI k + 1).toNatClampNeg) (xs (nI k + 2).toNatClampNeg) hc2) hG hP (rc_o (q := 63) (ci := 5) hG hP (by decide) (wc_M (by decide) rfl) rfl) rfl hl.1 (Nat.le_of_ble_eq_true rfl) ⟨Nat.le_refl _, Nat.le_refl _⟩ d_law_508) hS hAA (fun H locs hP hS => ?_)
  refine lv_icmp_eq (tgt := 652) hx hb d_law_511 (by decide) (fun hc => ?_) (fun hc => ?_)
  · exact hE μ ν _ _ _ hJ2 hP hS hl
  · exact absurd rfl hc
set_option maxHeartbeats 4000000 in
set_option maxRecDepth 100000 in
theorem law_pour {b L : Nat} {xs : Nat → Int32} {J : Mem → Mem → Prop} (hJ : JStp J) (X : Lx p s m args c D adr cA b L xs) {k : Nat} (hk : k + 5 < L)
    (hE : ∀ (μ ν : Mem) (H : Heap) (locs : List Loc) (ls : Array Slot), J μ ν → va_P D cls (wld adr cA μ ν) H → va_S (fun q : Nat => s.heap.size ≤ q) s.heap H locs → lv_has ls 4 [(0, .ref b), (1, .ref (adr 0)), (2, .ref (adr 63)), (3, .int (nI k))] → W p l e room_1 s m args below meth c H locs 600000 7302250 Q (F0 m 652 ls []))
    {H : Heap} {locs : List Loc} {ls : Array Slot} (h0 : J μ ν) (hP : va_P D cls (wld adr cA μ ν) H) (hS : va_S (fun q : Nat => s.heap.size ≤ q) s.heap H locs) (hl : lv_has ls 4 [(0, .ref b), (1, .ref (adr 0)), (2, .ref (adr 63)), (3, .int (nI k))]) : W p l e room_1 s m args below meth c H locs 600000 7302250 Q (F0 m 516 ls []) := by
  obtain ⟨hx, hb, hml, hown, hts, hG, hX, hbl, hL, hAA⟩ := id X
  have hbA : ¬ (fun q : Nat => s.heap.size ≤ q) b := Nat.not_le.mpr hbl
  obtain ⟨r, μ', ν', hc1, hc2, hJ2⟩ := hJ.2.2.2.2.2.2.2.2.2.2.2.1 μ ν (xs (nI k + 1).toNatClampNeg) (xs (nI k + 2).toNatClampNeg) h0
  refine lv_aload_n hx hb d_law_516 rfl (lv_at hl 1 rfl) ?_
  refine lv_aload_n hx hb d_law_517 rfl (lv_at hl 0 rfl) ?_
  refine lv_iload_n hx hb d_law_518 rfl (lv_at hl 3 rfl) ?_
  refine lv_iconst (v := 1) hx hb d_law_519 (by decide) ?_
  refine lv_iadd hx hb d_law_520 ?_
  refine va_sld hx hb hX hbl hbA hS (in_off hL hk 1 (by decide)) d_law_521 ?_
  refine lv_aload_n hx hb d_law_522 rfl (lv_at hl 0 rfl) ?_
  refine lv_iload_n hx hb d_law_523 rfl (lv_at hl 3 rfl) ?_
  refine lv_iconst (v := 2) hx hb d_law_524 (by decide) ?_
  refine lv_iadd hx hb d_law_525 ?_
  refine va_sld hx hb hX hbl hbA hS (in_off hL hk 2 (by decide)) d_law_526 ?_
  refine kiA (kvA (As := [.int (xs (nI k + 1).toNatClampNeg), .int (xs (nI k + 2).toNatClampNeg)]) (rest := []) ⟨hx, hb, hml, hown, hts⟩ (cw_LG_62 hts ⟨Nat.le_of_ble_eq_true rfl, Nat.le_of_ble_eq_true rfl⟩) (c_LR_pour l D adr cA μ ν (xs (nI k + 1).toNatClampNeg) (xs (nI k + 2).toNatClampNeg) hc1) hG hP (rc_o (q := 0) (ci := 4) hG hP (by decide) (wc_C (by decide) rfl) rfl) rfl hl.1 (Nat.le_of_ble_eq_true rfl) ⟨Nat.le_refl _, Nat.le_refl _⟩ d_law_527) hS hAA (fun H locs hP hS => ?_)
  refine lv_aload_n hx hb d_law_530 rfl (lv_at hl 2 rfl) ?_
  refine lv_aload_n hx hb d_law_531 rfl (lv_at hl 0 rfl) ?_
  refine lv_iload_n hx hb d_law_532 rfl (lv_at hl 3 rfl) ?_
  refine lv_iconst (v := 1) hx hb d_law_533 (by decide) ?_
  refine lv_iadd hx hb d_law_534 ?_
  refine va_sld hx hb hX hbl hbA hS (in_off hL hk 1 (by decide)) d_law_535 ?_
  refine lv_aload_n hx hb d_law_536 rfl (lv_at hl 0 rfl) ?_
  refine lv_iload_n hx hb d_law_537 rfl (lv_at hl 3 rfl) ?_
  refine lv_iconst (v := 2) hx hb d_law_538 (by decide) ?_
  refine lv_iadd hx hb d_law_539 ?_
  refine va_sld hx hb hX hbl hbA hS (in_off hL hk 2 (by decide)) d_law_540 ?_
  refine kiA (kvA (As := [.int (xs (nI k + 1).toNatClampNeg), .int (xs (nI k + 2).toNatClampNeg)]) (rest := [.int r]) ⟨hx, hb, hml, hown, hts⟩ (cw_LG_65 hts ⟨Nat.le_of_ble_eq_true rfl, Nat.le_of_ble_eq_true rfl⟩) (c_MO_pour l D adr cA μ' ν (xs (nI k + 1).toNatClampNeg) (xs (nI k + 2).toNatClampNeg) hc2) hG hP (rc_o (q := 63) (ci := 5) hG hP (by decide) (wc_M (by decide) rfl) rfl) rfl hl.1 (Nat.le_of_ble_eq_true rfl) ⟨Nat.le_refl _, Nat.le_refl _⟩ d_law_541) hS hAA (fun H locs hP hS => ?_)
  refine lv_icmp_eq (tgt := 652) hx hb d_law_544 (by decide) (fun hc => ?_) (fun hc => ?_)
  · exact hE μ' ν' _ _ _ hJ2 hP hS hl
  · exact absurd rfl hc
set_option maxHeartbeats 4000000 in
set_option maxRecDepth 100000 in
theorem law_level {b L : Nat} {xs : Nat → Int32} {J : Mem → Mem → Prop} (hJ : JStp J) (X : Lx p s m args c D adr cA b L xs) {k : Nat} (hk : k + 5 < L)
    (hE : ∀ (μ ν : Mem) (H : Heap) (locs : List Loc) (ls : Array Slot), J μ ν → va_P D cls (wld adr cA μ ν) H → va_S (fun q : Nat => s.heap.size ≤ q) s.heap H locs → lv_has ls 4 [(0, .ref b), (1, .ref (adr 0)), (2, .ref (adr 63)), (3, .int (nI k))] → W p l e room_1 s m args below meth c H locs 600000 7302250 Q (F0 m 652 ls []))
    {H : Heap} {locs : List Loc} {ls : Array Slot} (h0 : J μ ν) (hP : va_P D cls (wld adr cA μ ν) H) (hS : va_S (fun q : Nat => s.heap.size ≤ q) s.heap H locs) (hl : lv_has ls 4 [(0, .ref b), (1, .ref (adr 0)), (2, .ref (adr 63)), (3, .int (nI k))]) : W p l e room_1 s m args below meth c H locs 600000 7302250 Q (F0 m 549 ls []) := by
  obtain ⟨hx, hb, hml, hown, hts, hG, hX, hbl, hL, hAA⟩ := id X
  have hbA : ¬ (fun q : Nat => s.heap.size ≤ q) b := Nat.not_le.mpr hbl
  obtain ⟨r, ν', hc1, hc2, hJ2⟩ := hJ.2.2.2.2.2.2.2.2.2.2.2.2.1 μ ν (xs (nI k + 1).toNatClampNeg) (xs (nI k + 2).toNatClampNeg) h0
  refine lv_aload_n hx hb d_law_549 rfl (lv_at hl 1 rfl) ?_
  refine lv_aload_n hx hb d_law_550 rfl (lv_at hl 0 rfl) ?_
  refine lv_iload_n hx hb d_law_551 rfl (lv_at hl 3 rfl) ?_
  refine lv_iconst (v := 1) hx hb d_law_552 (by decide) ?_
  refine lv_iadd hx hb d_law_553 ?_
  refine va_sld hx hb hX hbl hbA hS (in_off hL hk 1 (by decide)) d_law_554 ?_
  refine lv_aload_n hx hb d_law_555 rfl (lv_at hl 0 rfl) ?_
  refine lv_iload_n hx hb d_law_556 rfl (lv_at hl 3 rfl) ?_
  refine lv_iconst (v := 2) hx hb d_law_557 (by decide) ?_
  refine lv_iadd hx hb d_law_558 ?_
  refine va_sld hx hb hX hbl hbA hS (in_off hL hk 2 (by decide)) d_law_559 ?_
  refine kiA (kvA (As := [.int (xs (nI k + 1).toNatClampNeg), .int (xs (nI k + 2).toNatClampNeg)]) (rest := []) ⟨hx, hb, hml, hown, hts⟩ (cw_LG_66 hts ⟨Nat.le_of_ble_eq_true rfl, Nat.le_of_ble_eq_true rfl⟩) (c_LR_level l D adr cA μ ν (xs (nI k + 1).toNatClampNeg) (xs (nI k + 2).toNatClampNeg) hc1) hG hP (rc_o (q := 0) (ci := 4) hG hP (by decide) (wc_C (by decide) rfl) rfl) rfl hl.1 (Nat.le_of_ble_eq_true rfl) ⟨Nat.le_refl _, Nat.le_refl _⟩ d_law_560) hS hAA (fun H locs hP hS => ?_)
  refine lv_aload_n hx hb d_law_563 rfl (lv_at hl 2 rfl) ?_
  refine lv_aload_n hx hb d_law_564 rfl (lv_at hl 0 rfl) ?_
  refine lv_iload_n hx hb d_law_565 rfl (lv_at hl 3 rfl) ?_
  refine lv_iconst (v := 1) hx hb d_law_566 (by decide) ?_
  refine lv_iadd hx hb d_law_567 ?_
  refine va_sld hx hb hX hbl hbA hS (in_off hL hk 1 (by decide)) d_law_568 ?_
  refine lv_aload_n hx hb d_law_569 rfl (lv_at hl 0 rfl) ?_
  refine lv_iload_n hx hb d_law_570 rfl (lv_at hl 3 rfl) ?_
  refine lv_iconst (v := 2) hx hb d_law_571 (by decide) ?_
  refine lv_iadd hx hb d_law_572 ?_
  refine va_sld hx hb hX hbl hbA hS (in_off hL hk 2 (by decide)) d_law_573 ?_
  refine kiA (kvA (As := [.int (xs (nI k + 1).toNatClampNeg), .int (xs (nI k + 2).toNatClampNeg)]) (rest := [.int r]) ⟨hx, hb, hml, hown, hts⟩ (cw_LG_69 hts ⟨Nat.le_of_ble_eq_true rfl, Nat.le_of_ble_eq_true rfl⟩) (c_MO_level l D adr cA μ ν (xs (nI k + 1).toNatClampNeg) (xs (nI k + 2).toNatClampNeg) hc2) hG hP (rc_o (q := 63) (ci := 5) hG hP (by decide) (wc_M (by decide) rfl) rfl) rfl hl.1 (Nat.le_of_ble_eq_true rfl) ⟨Nat.le_refl _, Nat.le_refl _⟩ d_law_574) hS hAA (fun H locs hP hS => ?_)
  refine lv_icmp_eq (tgt := 652) hx hb d_law_577 (by decide) (fun hc => ?_) (fun hc => ?_)
  · exact hE μ ν' _ _ _ hJ2 hP hS hl
  · exact absurd rfl hc
set_option maxHeartbeats 4000000 in
set_option maxRecDepth 100000 in
theorem law_rise {b L : Nat} {xs : Nat → Int32} {J : Mem → Mem → Prop} (hJ : JStp J) (X : Lx p s m args c D adr cA b L xs) {k : Nat} (hk : k + 5 < L)
    (hE : ∀ (μ ν : Mem) (H : Heap) (locs : List Loc) (ls : Array Slot), J μ ν → va_P D cls (wld adr cA μ ν) H → va_S (fun q : Nat => s.heap.size ≤ q) s.heap H locs → lv_has ls 4 [(0, .ref b), (1, .ref (adr 0)), (2, .ref (adr 63)), (3, .int (nI k))] → W p l e room_1 s m args below meth c H locs 600000 7302250 Q (F0 m 652 ls []))
    {H : Heap} {locs : List Loc} {ls : Array Slot} (h0 : J μ ν) (hP : va_P D cls (wld adr cA μ ν) H) (hS : va_S (fun q : Nat => s.heap.size ≤ q) s.heap H locs) (hl : lv_has ls 4 [(0, .ref b), (1, .ref (adr 0)), (2, .ref (adr 63)), (3, .int (nI k))]) : W p l e room_1 s m args below meth c H locs 600000 7302250 Q (F0 m 582 ls []) := by
  obtain ⟨hx, hb, hml, hown, hts, hG, hX, hbl, hL, hAA⟩ := id X
  have hbA : ¬ (fun q : Nat => s.heap.size ≤ q) b := Nat.not_le.mpr hbl
  obtain ⟨r, hc1, hc2, hJ2⟩ := hJ.2.2.2.2.2.2.2.2.2.2.2.2.2.1 μ ν (xs (nI k + 1).toNatClampNeg) h0
  refine lv_aload_n hx hb d_law_582 rfl (lv_at hl 1 rfl) ?_
  refine lv_aload_n hx hb d_law_583 rfl (lv_at hl 0 rfl) ?_
  refine lv_iload_n hx hb d_law_584 rfl (lv_at hl 3 rfl) ?_
  refine lv_iconst (v := 1) hx hb d_law_585 (by decide) ?_
  refine lv_iadd hx hb d_law_586 ?_
  refine va_sld hx hb hX hbl hbA hS (in_off hL hk 1 (by decide)) d_law_587 ?_
  refine kiA (kvA (As := [.int (xs (nI k + 1).toNatClampNeg)]) (rest := []) ⟨hx, hb, hml, hown, hts⟩ (cw_LG_70 hts ⟨Nat.le_of_ble_eq_true rfl, Nat.le_of_ble_eq_true rfl⟩) (c_LR_rise l D adr cA μ ν (xs (nI k + 1).toNatClampNeg) hc1) hG hP (rc_o (q := 0) (ci := 4) hG hP (by decide) (wc_C (by decide) rfl) rfl) rfl hl.1 (Nat.le_of_ble_eq_true rfl) ⟨Nat.le_refl _, Nat.le_refl _⟩ d_law_588) hS hAA (fun H locs hP hS => ?_)
  refine lv_aload_n hx hb d_law_591 rfl (lv_at hl 2 rfl) ?_
  refine lv_aload_n hx hb d_law_592 rfl (lv_at hl 0 rfl) ?_
  refine lv_iload_n hx hb d_law_593 rfl (lv_at hl 3 rfl) ?_
  refine lv_iconst (v := 1) hx hb d_law_594 (by decide) ?_
  refine lv_iadd hx hb d_law_595 ?_
  refine va_sld hx hb hX hbl hbA hS (in_off hL hk 1 (by decide)) d_law_596 ?_
  refine kiA (kvA (As := [.int (xs (nI k + 1).toNatClampNeg)]) (rest := [.int r]) ⟨hx, hb, hml, hown, hts⟩ (cw_LG_73 hts ⟨Nat.le_of_ble_eq_true rfl, Nat.le_of_ble_eq_true rfl⟩) (c_MO_rise l D adr cA μ ν (xs (nI k + 1).toNatClampNeg) hc2) hG hP (rc_o (q := 63) (ci := 5) hG hP (by decide) (wc_M (by decide) rfl) rfl) rfl hl.1 (Nat.le_of_ble_eq_true rfl) ⟨Nat.le_refl _, Nat.le_refl _⟩ d_law_597) hS hAA (fun H locs hP hS => ?_)
  refine lv_icmp_eq (tgt := 652) hx hb d_law_600 (by decide) (fun hc => ?_) (fun hc => ?_)
  · exact hE μ ν _ _ _ hJ2 hP hS hl
  · exact absurd rfl hc
set_option maxHeartbeats 4000000 in
set_option maxRecDepth 100000 in
theorem law_islands {b L : Nat} {xs : Nat → Int32} {J : Mem → Mem → Prop} (hJ : JStp J) (X : Lx p s m args c D adr cA b L xs) {k : Nat} (hk : k + 5 < L)
    (hE : ∀ (μ ν : Mem) (H : Heap) (locs : List Loc) (ls : Array Slot), J μ ν → va_P D cls (wld adr cA μ ν) H → va_S (fun q : Nat => s.heap.size ≤ q) s.heap H locs → lv_has ls 4 [(0, .ref b), (1, .ref (adr 0)), (2, .ref (adr 63)), (3, .int (nI k))] → W p l e room_1 s m args below meth c H locs 600000 7302250 Q (F0 m 652 ls []))
    {H : Heap} {locs : List Loc} {ls : Array Slot} (h0 : J μ ν) (hP : va_P D cls (wld adr cA μ ν) H) (hS : va_S (fun q : Nat => s.heap.size ≤ q) s.heap H locs) (hl : lv_has ls 4 [(0, .ref b), (1, .ref (adr 0)), (2, .ref (adr 63)), (3, .int (nI k))]) : W p l e room_1 s m args below meth c H locs 600000 7302250 Q (F0 m 605 ls []) := by
  obtain ⟨hx, hb, hml, hown, hts, hG, hX, hbl, hL, hAA⟩ := id X
  have hbA : ¬ (fun q : Nat => s.heap.size ≤ q) b := Nat.not_le.mpr hbl
  obtain ⟨r, μ', ν', hc1, hc2, hJ2⟩ := hJ.2.2.2.2.2.2.2.2.2.2.2.2.2.2.1 μ ν (xs (nI k + 1).toNatClampNeg) h0
  refine lv_aload_n hx hb d_law_605 rfl (lv_at hl 1 rfl) ?_
  refine lv_aload_n hx hb d_law_606 rfl (lv_at hl 0 rfl) ?_
  refine lv_iload_n hx hb d_law_607 rfl (lv_at hl 3 rfl) ?_
  refine lv_iconst (v := 1) hx hb d_law_608 (by decide) ?_
  refine lv_iadd hx hb d_law_609 ?_
  refine va_sld hx hb hX hbl hbA hS (in_off hL hk 1 (by decide)) d_law_610 ?_
  refine kiA (kvA (As := [.int (xs (nI k + 1).toNatClampNeg)]) (rest := []) ⟨hx, hb, hml, hown, hts⟩ (cw_LG_74 hts ⟨Nat.le_of_ble_eq_true rfl, Nat.le_of_ble_eq_true rfl⟩) (c_LR_islands l D adr cA μ ν (xs (nI k + 1).toNatClampNeg) hc1) hG hP (rc_o (q := 0) (ci := 4) hG hP (by decide) (wc_C (by decide) rfl) rfl) rfl hl.1 (Nat.le_of_ble_eq_true rfl) ⟨Nat.le_refl _, Nat.le_refl _⟩ d_law_611) hS hAA (fun H locs hP hS => ?_)
  refine lv_aload_n hx hb d_law_614 rfl (lv_at hl 2 rfl) ?_
  refine lv_aload_n hx hb d_law_615 rfl (lv_at hl 0 rfl) ?_
  refine lv_iload_n hx hb d_law_616 rfl (lv_at hl 3 rfl) ?_
  refine lv_iconst (v := 1) hx hb d_law_617 (by decide) ?_
  refine lv_iadd hx hb d_law_618 ?_
  refine va_sld hx hb hX hbl hbA hS (in_off hL hk 1 (by decide)) d_law_619 ?_
  refine kiA (kvA (As := [.int (xs (nI k + 1).toNatClampNeg)]) (rest := [.int r]) ⟨hx, hb, hml, hown, hts⟩ (cw_LG_77 hts ⟨Nat.le_of_ble_eq_true rfl, Nat.le_of_ble_eq_true rfl⟩) (c_MO_islands l D adr cA μ' ν (xs (nI k + 1).toNatClampNeg) hc2) hG hP (rc_o (q := 63) (ci := 5) hG hP (by decide) (wc_M (by decide) rfl) rfl) rfl hl.1 (Nat.le_of_ble_eq_true rfl) ⟨Nat.le_refl _, Nat.le_refl _⟩ d_law_620) hS hAA (fun H locs hP hS => ?_)
  refine lv_icmp_eq (tgt := 652) hx hb d_law_623 (by decide) (fun hc => ?_) (fun hc => ?_)
  · exact hE μ' ν' _ _ _ hJ2 hP hS hl
  · exact absurd rfl hc
set_option maxHeartbeats 4000000 in
set_option maxRecDepth 100000 in
theorem law_count {b L : Nat} {xs : Nat → Int32} {J : Mem → Mem → Prop} (hJ : JStp J) (X : Lx p s m args c D adr cA b L xs) {k : Nat} (hk : k + 5 < L)
    (hE : ∀ (μ ν : Mem) (H : Heap) (locs : List Loc) (ls : Array Slot), J μ ν → va_P D cls (wld adr cA μ ν) H → va_S (fun q : Nat => s.heap.size ≤ q) s.heap H locs → lv_has ls 4 [(0, .ref b), (1, .ref (adr 0)), (2, .ref (adr 63)), (3, .int (nI k))] → W p l e room_1 s m args below meth c H locs 600000 7302250 Q (F0 m 652 ls []))
    {H : Heap} {locs : List Loc} {ls : Array Slot} (h0 : J μ ν) (hP : va_P D cls (wld adr cA μ ν) H) (hS : va_S (fun q : Nat => s.heap.size ≤ q) s.heap H locs) (hl : lv_has ls 4 [(0, .ref b), (1, .ref (adr 0)), (2, .ref (adr 63)), (3, .int (nI k))]) : W p l e room_1 s m args below meth c H locs 600000 7302250 Q (F0 m 628 ls []) := by
  obtain ⟨hx, hb, hml, hown, hts, hG, hX, hbl, hL, hAA⟩ := id X
  have hbA : ¬ (fun q : Nat => s.heap.size ≤ q) b := Nat.not_le.mpr hbl
  obtain ⟨r, hc1, hc2, hJ2⟩ := hJ.2.2.2.2.2.2.2.2.2.2.2.2.2.2.2 μ ν (xs (nI k + 1).toNatClampNeg) h0
  refine lv_aload_n hx hb d_law_628 rfl (lv_at hl 1 rfl) ?_
  refine lv_aload_n hx hb d_law_629 rfl (lv_at hl 0 rfl) ?_
  refine lv_iload_n hx hb d_law_630 rfl (lv_at hl 3 rfl) ?_
  refine lv_iconst (v := 1) hx hb d_law_631 (by decide) ?_
  refine lv_iadd hx hb d_law_632 ?_
  refine va_sld hx hb hX hbl hbA hS (in_off hL hk 1 (by decide)) d_law_633 ?_
  refine klA (kvA (As := [.int (xs (nI k + 1).toNatClampNeg)]) (rest := []) ⟨hx, hb, hml, hown, hts⟩ (cw_LG_78 hts ⟨Nat.le_of_ble_eq_true rfl, Nat.le_of_ble_eq_true rfl⟩) (c_LR_count l D adr cA μ ν (xs (nI k + 1).toNatClampNeg) hc1) hG hP (rc_o (q := 0) (ci := 4) hG hP (by decide) (wc_C (by decide) rfl) rfl) rfl hl.1 (Nat.le_of_ble_eq_true rfl) ⟨Nat.le_refl _, Nat.le_refl _⟩ d_law_634) hS hAA (fun H locs hP hS => ?_)
  refine lv_aload_n hx hb d_law_637 rfl (lv_at hl 2 rfl) ?_
  refine lv_aload_n hx hb d_law_638 rfl (lv_at hl 0 rfl) ?_
  refine lv_iload_n hx hb d_law_639 rfl (lv_at hl 3 rfl) ?_
  refine lv_iconst (v := 1) hx hb d_law_640 (by decide) ?_
  refine lv_iadd hx hb d_law_641 ?_
  refine va_sld hx hb hX hbl hbA hS (in_off hL hk 1 (by decide)) d_law_642 ?_
  refine klA (kvA (As := [.int (xs (nI k + 1).toNatClampNeg)]) (rest := [.long r]) ⟨hx, hb, hml, hown, hts⟩ (cw_LG_82 hts ⟨Nat.le_of_ble_eq_true rfl, Nat.le_of_ble_eq_true rfl⟩) (c_MO_count l D adr cA μ ν (xs (nI k + 1).toNatClampNeg) hc2) hG hP (rc_o (q := 63) (ci := 5) hG hP (by decide) (wc_M (by decide) rfl) rfl) rfl hl.1 (Nat.le_of_ble_eq_true rfl) ⟨Nat.le_refl _, Nat.le_refl _⟩ d_law_643) hS hAA (fun H locs hP hS => ?_)
  refine W.lcmp hx hb d_law_646 ?_
  refine lv_if_eq (tgt := 652) hx hb d_law_647 (by decide) (fun hc => ?_) (fun hc => ?_)
  · exact hE μ ν _ _ _ hJ2 hP hS hl
  · exact absurd (lg_self r) hc
end LAW

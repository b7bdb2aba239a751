theorem dX14_digest_110 : decode cX14_digest 110 = .ok (.goto (-20), 3) := by decide +kernel
theorem dX14_digest_113 : decode cX14_digest 113 = .ok (.aload_n 0, 1) := by decide +kernel
theorem dX14_digest_114 : decode cX14_digest 114 = .ok (.aload_n 0, 1) := by decide +kernel
theorem dX14_digest_115 : decode cX14_digest 115 = .ok (.iload_n 1, 1) := by decide +kernel
theorem dX14_digest_116 : decode cX14_digest 116 = .ok (.invokevirtual 340, 3) := by decide +kernel
theorem dX14_digest_119 : decode cX14_digest 119 = .ok (.i2l, 1) := by decide +kernel
theorem dX14_digest_120 : decode cX14_digest 120 = .ok (.invokevirtual 354, 3) := by decide +kernel
theorem dX14_digest_123 : decode cX14_digest 123 = .ok (.iinc 1 1, 3) := by decide +kernel
theorem dX14_digest_126 : decode cX14_digest 126 = .ok (.goto (-49), 3) := by decide +kernel
theorem dX14_digest_129 : decode cX14_digest 129 = .ok (.iconst 0, 1) := by decide +kernel
theorem dX14_digest_130 : decode cX14_digest 130 = .ok (.istore_n 1, 1) := by decide +kernel
theorem dX14_digest_131 : decode cX14_digest 131 = .ok (.iload_n 1, 1) := by decide +kernel
theorem dX14_digest_132 : decode cX14_digest 132 = .ok (.aload_n 0, 1) := by decide +kernel
theorem dX14_digest_133 : decode cX14_digest 133 = .ok (.getfield 26, 3) := by decide +kernel
theorem dX14_digest_136 : decode cX14_digest 136 = .ok (.invokevirtual 47, 3) := by decide +kernel
theorem dX14_digest_139 : decode cX14_digest 139 = .ok (.if_icmp .ge 34, 3) := by decide +kernel
theorem dX14_digest_142 : decode cX14_digest 142 = .ok (.iconst 0, 1) := by decide +kernel
theorem dX14_digest_143 : decode cX14_digest 143 = .ok (.istore_n 2, 1) := by decide +kernel
theorem dX14_digest_144 : decode cX14_digest 144 = .ok (.iload_n 2, 1) := by decide +kernel
theorem dX14_digest_145 : decode cX14_digest 145 = .ok (.bipush 9, 2) := by decide +kernel
theorem dX14_digest_147 : decode cX14_digest 147 = .ok (.if_icmp .ge 20, 3) := by decide +kernel
theorem dX14_digest_150 : decode cX14_digest 150 = .ok (.aload_n 0, 1) := by decide +kernel
theorem dX14_digest_151 : decode cX14_digest 151 = .ok (.aload_n 0, 1) := by decide +kernel
theorem dX14_digest_152 : decode cX14_digest 152 = .ok (.iload_n 1, 1) := by decide +kernel
theorem dX14_digest_153 : decode cX14_digest 153 = .ok (.iload_n 2, 1) := by decide +kernel
theorem dX14_digest_154 : decode cX14_digest 154 = .ok (.invokevirtual 296, 3) := by decide +kernel
theorem dX14_digest_157 : decode cX14_digest 157 = .ok (.i2l, 1) := by decide +kernel
theorem dX14_digest_158 : decode cX14_digest 158 = .ok (.invokevirtual 354, 3) := by decide +kernel
theorem dX14_digest_161 : decode cX14_digest 161 = .ok (.iinc 2 1, 3) := by decide +kernel
theorem dX14_digest_164 : decode cX14_digest 164 = .ok (.goto (-20), 3) := by decide +kernel
theorem dX14_digest_167 : decode cX14_digest 167 = .ok (.iinc 1 1, 3) := by decide +kernel
theorem dX14_digest_170 : decode cX14_digest 170 = .ok (.goto (-39), 3) := by decide +kernel
theorem dX14_digest_173 : decode cX14_digest 173 = .ok (.iconst 0, 1) := by decide +kernel
theorem dX14_digest_174 : decode cX14_digest 174 = .ok (.istore_n 1, 1) := by decide +kernel
theorem dX14_digest_175 : decode cX14_digest 175 = .ok (.iload_n 1, 1) := by decide +kernel
theorem dX14_digest_176 : decode cX14_digest 176 = .ok (.aload_n 0, 1) := by decide +kernel
theorem dX14_digest_177 : decode cX14_digest 177 = .ok (.getfield 29, 3) := by decide +kernel
theorem dX14_digest_180 : decode cX14_digest 180 = .ok (.invokevirtual 47, 3) := by decide +kernel
theorem dX14_digest_183 : decode cX14_digest 183 = .ok (.if_icmp .ge 34, 3) := by decide +kernel
theorem dX14_digest_186 : decode cX14_digest 186 = .ok (.iconst 3, 1) := by decide +kernel
theorem dX14_digest_187 : decode cX14_digest 187 = .ok (.istore_n 2, 1) := by decide +kernel
theorem dX14_digest_188 : decode cX14_digest 188 = .ok (.iload_n 2, 1) := by decide +kernel
theorem dX14_digest_189 : decode cX14_digest 189 = .ok (.bipush 6, 2) := by decide +kernel
theorem dX14_digest_191 : decode cX14_digest 191 = .ok (.if_icmp .ge 20, 3) := by decide +kernel
theorem dX14_digest_194 : decode cX14_digest 194 = .ok (.aload_n 0, 1) := by decide +kernel
theorem dX14_digest_195 : decode cX14_digest 195 = .ok (.aload_n 0, 1) := by decide +kernel
theorem dX14_digest_196 : decode cX14_digest 196 = .ok (.iload_n 1, 1) := by decide +kernel
theorem dX14_digest_197 : decode cX14_digest 197 = .ok (.iload_n 2, 1) := by decide +kernel
theorem dX14_digest_198 : decode cX14_digest 198 = .ok (.invokevirtual 299, 3) := by decide +kernel
theorem dX14_digest_201 : decode cX14_digest 201 = .ok (.i2l, 1) := by decide +kernel
theorem dX14_digest_202 : decode cX14_digest 202 = .ok (.invokevirtual 354, 3) := by decide +kernel
theorem dX14_digest_205 : decode cX14_digest 205 = .ok (.iinc 2 1, 3) := by decide +kernel
theorem dX14_digest_208 : decode cX14_digest 208 = .ok (.goto (-20), 3) := by decide +kernel
theorem dX14_digest_211 : decode cX14_digest 211 = .ok (.iinc 1 1, 3) := by decide +kernel
theorem dX14_digest_214 : decode cX14_digest 214 = .ok (.goto (-39), 3) := by decide +kernel
theorem dX14_digest_217 : decode cX14_digest 217 = .ok (.iconst 0, 1) := by decide +kernel
theorem dX14_digest_218 : decode cX14_digest 218 = .ok (.istore_n 1, 1) := by decide +kernel
theorem dX14_digest_219 : decode cX14_digest 219 = .ok (.iload_n 1, 1) := by decide +kernel
theorem dX14_digest_220 : decode cX14_digest 220 = .ok (.bipush 6, 2) := by decide +kernel
theorem dX14_digest_222 : decode cX14_digest 222 = .ok (.if_icmp .ge 20, 3) := by decide +kernel
theorem dX14_digest_225 : decode cX14_digest 225 = .ok (.aload_n 0, 1) := by decide +kernel
theorem dX14_digest_226 : decode cX14_digest 226 = .ok (.aload_n 0, 1) := by decide +kernel
theorem dX14_digest_227 : decode cX14_digest 227 = .ok (.iconst 0, 1) := by decide +kernel
theorem dX14_digest_228 : decode cX14_digest 228 = .ok (.iload_n 1, 1) := by decide +kernel
theorem dX14_digest_229 : decode cX14_digest 229 = .ok (.invokevirtual 327, 3) := by decide +kernel
theorem dX14_digest_232 : decode cX14_digest 232 = .ok (.i2l, 1) := by decide +kernel
theorem dX14_digest_233 : decode cX14_digest 233 = .ok (.invokevirtual 354, 3) := by decide +kernel
theorem dX14_digest_236 : decode cX14_digest 236 = .ok (.iinc 1 1, 3) := by decide +kernel
theorem dX14_digest_239 : decode cX14_digest 239 = .ok (.goto (-20), 3) := by decide +kernel
theorem dX14_digest_242 : decode cX14_digest 242 = .ok (.aload_n 0, 1) := by decide +kernel
theorem dX14_digest_243 : decode cX14_digest 243 = .ok (.aload_n 0, 1) := by decide +kernel
theorem dX14_digest_244 : decode cX14_digest 244 = .ok (.bipush 20, 2) := by decide +kernel
theorem dX14_digest_246 : decode cX14_digest 246 = .ok (.iconst (-1), 1) := by decide +kernel
theorem dX14_digest_247 : decode cX14_digest 247 = .ok (.invokevirtual 337, 3) := by decide +kernel
theorem dX14_digest_250 : decode cX14_digest 250 = .ok (.i2l, 1) := by decide +kernel
theorem dX14_digest_251 : decode cX14_digest 251 = .ok (.invokevirtual 354, 3) := by decide +kernel
theorem dX14_digest_254 : decode cX14_digest 254 = .ok (.aload_n 0, 1) := by decide +kernel
theorem dX14_digest_255 : decode cX14_digest 255 = .ok (.aload_n 0, 1) := by decide +kernel
theorem dX14_digest_256 : decode cX14_digest 256 = .ok (.invokevirtual 343, 3) := by decide +kernel
theorem dX14_digest_259 : decode cX14_digest 259 = .ok (.ifCond .eq 7, 3) := by decide +kernel
theorem dX14_digest_262 : decode cX14_digest 262 = .ok (.lconst 1, 1) := by decide +kernel
theorem dX14_digest_263 : decode cX14_digest 263 = .ok (.goto 4, 3) := by decide +kernel
theorem dX14_digest_266 : decode cX14_digest 266 = .ok (.lconst 0, 1) := by decide +kernel
theorem dX14_digest_267 : decode cX14_digest 267 = .ok (.invokevirtual 354, 3) := by decide +kernel
theorem dX14_digest_270 : decode cX14_digest 270 = .ok (.aload_n 0, 1) := by decide +kernel
theorem dX14_digest_271 : decode cX14_digest 271 = .ok (.getfield 346, 3) := by decide +kernel
theorem dX14_digest_274 : decode cX14_digest 274 = .ok (.lreturn, 1) := by decide +kernel

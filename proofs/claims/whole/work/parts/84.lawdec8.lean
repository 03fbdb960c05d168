theorem d_LA_law_0 : decode code 0 = .ok (.new 8, 3) := by decide +kernel
theorem d_LA_law_3 : decode code 3 = .ok (.dup, 1) := by decide +kernel
theorem d_LA_law_4 : decode code 4 = .ok (.aload_n 0, 1) := by decide +kernel
theorem d_LA_law_5 : decode code 5 = .ok (.iconst 0, 1) := by decide +kernel
theorem d_LA_law_6 : decode code 6 = .ok (.invokestatic 62, 3) := by decide +kernel
theorem d_LA_law_9 : decode code 9 = .ok (.i2l, 1) := by decide +kernel
theorem d_LA_law_10 : decode code 10 = .ok (.invokespecial 68, 3) := by decide +kernel
theorem d_LA_law_13 : decode code 13 = .ok (.astore_n 1, 1) := by decide +kernel
theorem d_LA_law_14 : decode code 14 = .ok (.new 71, 3) := by decide +kernel
theorem d_LA_law_17 : decode code 17 = .ok (.dup, 1) := by decide +kernel
theorem d_LA_law_18 : decode code 18 = .ok (.aload_n 0, 1) := by decide +kernel
theorem d_LA_law_19 : decode code 19 = .ok (.iconst 0, 1) := by decide +kernel
theorem d_LA_law_20 : decode code 20 = .ok (.invokestatic 62, 3) := by decide +kernel
theorem d_LA_law_23 : decode code 23 = .ok (.i2l, 1) := by decide +kernel
theorem d_LA_law_24 : decode code 24 = .ok (.invokespecial 73, 3) := by decide +kernel
theorem d_LA_law_27 : decode code 27 = .ok (.astore_n 2, 1) := by decide +kernel
theorem d_LA_law_28 : decode code 28 = .ok (.iconst 1, 1) := by decide +kernel
theorem d_LA_law_29 : decode code 29 = .ok (.newarray .long, 2) := by decide +kernel
theorem d_LA_law_31 : decode code 31 = .ok (.astore_n 3, 1) := by decide +kernel
theorem d_LA_law_32 : decode code 32 = .ok (.iconst 1, 1) := by decide +kernel
theorem d_LA_law_33 : decode code 33 = .ok (.istore 4, 2) := by decide +kernel
theorem d_LA_law_35 : decode code 35 = .ok (.iload 4, 2) := by decide +kernel
theorem d_LA_law_37 : decode code 37 = .ok (.aload_n 0, 1) := by decide +kernel
theorem d_LA_law_38 : decode code 38 = .ok (.arraylength, 1) := by decide +kernel
theorem d_LA_law_39 : decode code 39 = .ok (.bipush 6, 2) := by decide +kernel
theorem d_LA_law_41 : decode code 41 = .ok (.isub, 1) := by decide +kernel
theorem d_LA_law_42 : decode code 42 = .ok (.if_icmp .gt 1185, 3) := by decide +kernel
theorem d_LA_law_45 : decode code 45 = .ok (.aload_n 0, 1) := by decide +kernel
theorem d_LA_law_46 : decode code 46 = .ok (.iload 4, 2) := by decide +kernel
theorem d_LA_law_48 : decode code 48 = .ok (.iaload, 1) := by decide +kernel
theorem d_LA_law_49 : decode code 49 = .ok (.bipush 15, 2) := by decide +kernel
theorem d_LA_law_51 : decode code 51 = .ok (.iand, 1) := by decide +kernel
theorem d_LA_law_52 : decode code 52 = .ok (.tableswitch 1169 0 13 #[72, 232, 383, 451, 547, 603, 682, 737, 793, 860, 923, 936, 950, 1030], 72) := by decide +kernel
theorem d_LA_law_124 : decode code 124 = .ok (.aload_n 1, 1) := by decide +kernel
theorem d_LA_law_125 : decode code 125 = .ok (.aload_n 0, 1) := by decide +kernel
theorem d_LA_law_126 : decode code 126 = .ok (.iload 4, 2) := by decide +kernel
theorem d_LA_law_128 : decode code 128 = .ok (.iconst 1, 1) := by decide +kernel
theorem d_LA_law_129 : decode code 129 = .ok (.iadd, 1) := by decide +kernel
theorem d_LA_law_130 : decode code 130 = .ok (.iaload, 1) := by decide +kernel
theorem d_LA_law_131 : decode code 131 = .ok (.i2l, 1) := by decide +kernel
theorem d_LA_law_132 : decode code 132 = .ok (.bipush 32, 2) := by decide +kernel
theorem d_LA_law_134 : decode code 134 = .ok (.lshl, 1) := by decide +kernel
theorem d_LA_law_135 : decode code 135 = .ok (.aload_n 0, 1) := by decide +kernel
theorem d_LA_law_136 : decode code 136 = .ok (.iload 4, 2) := by decide +kernel
theorem d_LA_law_138 : decode code 138 = .ok (.iconst 2, 1) := by decide +kernel
theorem d_LA_law_139 : decode code 139 = .ok (.iadd, 1) := by decide +kernel
theorem d_LA_law_140 : decode code 140 = .ok (.iaload, 1) := by decide +kernel
theorem d_LA_law_141 : decode code 141 = .ok (.i2l, 1) := by decide +kernel
theorem d_LA_law_142 : decode code 142 = .ok (.ldc2_w 74, 3) := by decide +kernel
theorem d_LA_law_145 : decode code 145 = .ok (.land, 1) := by decide +kernel
theorem d_LA_law_146 : decode code 146 = .ok (.lor, 1) := by decide +kernel
theorem d_LA_law_147 : decode code 147 = .ok (.aload_n 0, 1) := by decide +kernel
theorem d_LA_law_148 : decode code 148 = .ok (.iload 4, 2) := by decide +kernel
theorem d_LA_law_150 : decode code 150 = .ok (.iconst 3, 1) := by decide +kernel
theorem d_LA_law_151 : decode code 151 = .ok (.iadd, 1) := by decide +kernel
theorem d_LA_law_152 : decode code 152 = .ok (.iaload, 1) := by decide +kernel
theorem d_LA_law_153 : decode code 153 = .ok (.i2l, 1) := by decide +kernel
theorem d_LA_law_154 : decode code 154 = .ok (.bipush 32, 2) := by decide +kernel
theorem d_LA_law_156 : decode code 156 = .ok (.lshl, 1) := by decide +kernel
theorem d_LA_law_157 : decode code 157 = .ok (.aload_n 0, 1) := by decide +kernel
theorem d_LA_law_158 : decode code 158 = .ok (.iload 4, 2) := by decide +kernel
theorem d_LA_law_160 : decode code 160 = .ok (.iconst 4, 1) := by decide +kernel
theorem d_LA_law_161 : decode code 161 = .ok (.iadd, 1) := by decide +kernel
theorem d_LA_law_162 : decode code 162 = .ok (.iaload, 1) := by decide +kernel
theorem d_LA_law_163 : decode code 163 = .ok (.i2l, 1) := by decide +kernel
theorem d_LA_law_164 : decode code 164 = .ok (.ldc2_w 74, 3) := by decide +kernel
theorem d_LA_law_167 : decode code 167 = .ok (.land, 1) := by decide +kernel
theorem d_LA_law_168 : decode code 168 = .ok (.lor, 1) := by decide +kernel
theorem d_LA_law_169 : decode code 169 = .ok (.aload_n 0, 1) := by decide +kernel
theorem d_LA_law_170 : decode code 170 = .ok (.iload 4, 2) := by decide +kernel
theorem d_LA_law_172 : decode code 172 = .ok (.iconst 5, 1) := by decide +kernel
theorem d_LA_law_173 : decode code 173 = .ok (.iadd, 1) := by decide +kernel
theorem d_LA_law_174 : decode code 174 = .ok (.iaload, 1) := by decide +kernel
theorem d_LA_law_175 : decode code 175 = .ok (.ifCond .eq 7, 3) := by decide +kernel
theorem d_LA_law_178 : decode code 178 = .ok (.iconst 1, 1) := by decide +kernel
theorem d_LA_law_179 : decode code 179 = .ok (.goto 4, 3) := by decide +kernel
theorem d_LA_law_182 : decode code 182 = .ok (.iconst 0, 1) := by decide +kernel
theorem d_LA_law_183 : decode code 183 = .ok (.aload_n 3, 1) := by decide +kernel
theorem d_LA_law_184 : decode code 184 = .ok (.invokestatic 76, 3) := by decide +kernel
theorem d_LA_law_187 : decode code 187 = .ok (.istore 5, 2) := by decide +kernel
theorem d_LA_law_189 : decode code 189 = .ok (.aload_n 2, 1) := by decide +kernel
theorem d_LA_law_190 : decode code 190 = .ok (.aload_n 0, 1) := by decide +kernel
theorem d_LA_law_191 : decode code 191 = .ok (.iload 4, 2) := by decide +kernel
theorem d_LA_law_193 : decode code 193 = .ok (.iconst 1, 1) := by decide +kernel
theorem d_LA_law_194 : decode code 194 = .ok (.iadd, 1) := by decide +kernel
theorem d_LA_law_195 : decode code 195 = .ok (.iaload, 1) := by decide +kernel
theorem d_LA_law_196 : decode code 196 = .ok (.i2l, 1) := by decide +kernel
theorem d_LA_law_197 : decode code 197 = .ok (.bipush 32, 2) := by decide +kernel
theorem d_LA_law_199 : decode code 199 = .ok (.lshl, 1) := by decide +kernel
theorem d_LA_law_200 : decode code 200 = .ok (.aload_n 0, 1) := by decide +kernel
theorem d_LA_law_201 : decode code 201 = .ok (.iload 4, 2) := by decide +kernel
theorem d_LA_law_203 : decode code 203 = .ok (.iconst 2, 1) := by decide +kernel
theorem d_LA_law_204 : decode code 204 = .ok (.iadd, 1) := by decide +kernel
theorem d_LA_law_205 : decode code 205 = .ok (.iaload, 1) := by decide +kernel
theorem d_LA_law_206 : decode code 206 = .ok (.i2l, 1) := by decide +kernel
theorem d_LA_law_207 : decode code 207 = .ok (.ldc2_w 74, 3) := by decide +kernel
theorem d_LA_law_210 : decode code 210 = .ok (.land, 1) := by decide +kernel
theorem d_LA_law_211 : decode code 211 = .ok (.lor, 1) := by decide +kernel
theorem d_LA_law_212 : decode code 212 = .ok (.aload_n 0, 1) := by decide +kernel
theorem d_LA_law_213 : decode code 213 = .ok (.iload 4, 2) := by decide +kernel
theorem d_LA_law_215 : decode code 215 = .ok (.iconst 3, 1) := by decide +kernel
theorem d_LA_law_216 : decode code 216 = .ok (.iadd, 1) := by decide +kernel
theorem d_LA_law_217 : decode code 217 = .ok (.iaload, 1) := by decide +kernel
theorem d_LA_law_218 : decode code 218 = .ok (.i2l, 1) := by decide +kernel
theorem d_LA_law_219 : decode code 219 = .ok (.bipush 32, 2) := by decide +kernel
theorem d_LA_law_221 : decode code 221 = .ok (.lshl, 1) := by decide +kernel
theorem d_LA_law_222 : decode code 222 = .ok (.aload_n 0, 1) := by decide +kernel
theorem d_LA_law_223 : decode code 223 = .ok (.iload 4, 2) := by decide +kernel
theorem d_LA_law_225 : decode code 225 = .ok (.iconst 4, 1) := by decide +kernel
theorem d_LA_law_226 : decode code 226 = .ok (.iadd, 1) := by decide +kernel
theorem d_LA_law_227 : decode code 227 = .ok (.iaload, 1) := by decide +kernel
theorem d_LA_law_228 : decode code 228 = .ok (.i2l, 1) := by decide +kernel
theorem d_LA_law_229 : decode code 229 = .ok (.ldc2_w 74, 3) := by decide +kernel
theorem d_LA_law_232 : decode code 232 = .ok (.land, 1) := by decide +kernel
theorem d_LA_law_233 : decode code 233 = .ok (.lor, 1) := by decide +kernel
theorem d_LA_law_234 : decode code 234 = .ok (.aload_n 0, 1) := by decide +kernel
theorem d_LA_law_235 : decode code 235 = .ok (.iload 4, 2) := by decide +kernel
theorem d_LA_law_237 : decode code 237 = .ok (.iconst 5, 1) := by decide +kernel
theorem d_LA_law_238 : decode code 238 = .ok (.iadd, 1) := by decide +kernel
theorem d_LA_law_239 : decode code 239 = .ok (.iaload, 1) := by decide +kernel
theorem d_LA_law_240 : decode code 240 = .ok (.ifCond .eq 7, 3) := by decide +kernel
theorem d_LA_law_243 : decode code 243 = .ok (.iconst 1, 1) := by decide +kernel
theorem d_LA_law_244 : decode code 244 = .ok (.goto 4, 3) := by decide +kernel
theorem d_LA_law_247 : decode code 247 = .ok (.iconst 0, 1) := by decide +kernel
theorem d_LA_law_248 : decode code 248 = .ok (.invokevirtual 79, 3) := by decide +kernel
theorem d_LA_law_251 : decode code 251 = .ok (.istore 6, 2) := by decide +kernel
theorem d_LA_law_253 : decode code 253 = .ok (.aload_n 2, 1) := by decide +kernel
theorem d_LA_law_254 : decode code 254 = .ok (.invokevirtual 80, 3) := by decide +kernel
theorem d_LA_law_257 : decode code 257 = .ok (.iload 5, 2) := by decide +kernel
theorem d_LA_law_259 : decode code 259 = .ok (.if_icmp .eq 5, 3) := by decide +kernel
theorem d_LA_law_262 : decode code 262 = .ok (.iconst 0, 1) := by decide +kernel
theorem d_LA_law_263 : decode code 263 = .ok (.ireturn, 1) := by decide +kernel
theorem d_LA_law_264 : decode code 264 = .ok (.iload 5, 2) := by decide +kernel
theorem d_LA_law_266 : decode code 266 = .ok (.ifCond .ne 15, 3) := by decide +kernel
theorem d_LA_law_269 : decode code 269 = .ok (.aload_n 3, 1) := by decide +kernel
theorem d_LA_law_270 : decode code 270 = .ok (.iconst 0, 1) := by decide +kernel
theorem d_LA_law_271 : decode code 271 = .ok (.laload, 1) := by decide +kernel
theorem d_LA_law_272 : decode code 272 = .ok (.iload 6, 2) := by decide +kernel
theorem d_LA_law_274 : decode code 274 = .ok (.i2l, 1) := by decide +kernel
theorem d_LA_law_275 : decode code 275 = .ok (.lcmp, 1) := by decide +kernel
theorem d_LA_law_276 : decode code 276 = .ok (.ifCond .eq 5, 3) := by decide +kernel
theorem d_LA_law_279 : decode code 279 = .ok (.iconst 0, 1) := by decide +kernel
theorem d_LA_law_280 : decode code 280 = .ok (.ireturn, 1) := by decide +kernel
theorem d_LA_law_281 : decode code 281 = .ok (.goto 940, 3) := by decide +kernel

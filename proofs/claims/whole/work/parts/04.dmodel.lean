theorem dX12_init_0 : decode cX12_init 0 = .ok (.aload_n 0, 1) := by decide +kernel
theorem dX12_init_1 : decode cX12_init 1 = .ok (.invokespecial 1, 3) := by decide +kernel
theorem dX12_init_4 : decode cX12_init 4 = .ok (.aload_n 0, 1) := by decide +kernel
theorem dX12_init_5 : decode cX12_init 5 = .ok (.bipush 24, 2) := by decide +kernel
theorem dX12_init_7 : decode cX12_init 7 = .ok (.newarray .int, 2) := by decide +kernel
theorem dX12_init_9 : decode cX12_init 9 = .ok (.putfield 7, 3) := by decide +kernel
theorem dX12_init_12 : decode cX12_init 12 = .ok (.aload_n 0, 1) := by decide +kernel
theorem dX12_init_13 : decode cX12_init 13 = .ok (.bipush 24, 2) := by decide +kernel
theorem dX12_init_15 : decode cX12_init 15 = .ok (.newarray .int, 2) := by decide +kernel
theorem dX12_init_17 : decode cX12_init 17 = .ok (.putfield 13, 3) := by decide +kernel
theorem dX12_init_20 : decode cX12_init 20 = .ok (.aload_n 0, 1) := by decide +kernel
theorem dX12_init_21 : decode cX12_init 21 = .ok (.bipush 24, 2) := by decide +kernel
theorem dX12_init_23 : decode cX12_init 23 = .ok (.newarray .int, 2) := by decide +kernel
theorem dX12_init_25 : decode cX12_init 25 = .ok (.putfield 16, 3) := by decide +kernel
theorem dX12_init_28 : decode cX12_init 28 = .ok (.aload_n 0, 1) := by decide +kernel
theorem dX12_init_29 : decode cX12_init 29 = .ok (.bipush 24, 2) := by decide +kernel
theorem dX12_init_31 : decode cX12_init 31 = .ok (.newarray .int, 2) := by decide +kernel
theorem dX12_init_33 : decode cX12_init 33 = .ok (.putfield 19, 3) := by decide +kernel
theorem dX12_init_36 : decode cX12_init 36 = .ok (.aload_n 0, 1) := by decide +kernel
theorem dX12_init_37 : decode cX12_init 37 = .ok (.bipush 24, 2) := by decide +kernel
theorem dX12_init_39 : decode cX12_init 39 = .ok (.newarray .int, 2) := by decide +kernel
theorem dX12_init_41 : decode cX12_init 41 = .ok (.putfield 22, 3) := by decide +kernel
theorem dX12_init_44 : decode cX12_init 44 = .ok (.aload_n 0, 1) := by decide +kernel
theorem dX12_init_45 : decode cX12_init 45 = .ok (.bipush 96, 2) := by decide +kernel
theorem dX12_init_47 : decode cX12_init 47 = .ok (.newarray .int, 2) := by decide +kernel
theorem dX12_init_49 : decode cX12_init 49 = .ok (.putfield 25, 3) := by decide +kernel
theorem dX12_init_52 : decode cX12_init 52 = .ok (.aload_n 0, 1) := by decide +kernel
theorem dX12_init_53 : decode cX12_init 53 = .ok (.bipush 96, 2) := by decide +kernel
theorem dX12_init_55 : decode cX12_init 55 = .ok (.newarray .boolean, 2) := by decide +kernel
theorem dX12_init_57 : decode cX12_init 57 = .ok (.putfield 28, 3) := by decide +kernel
theorem dX12_init_60 : decode cX12_init 60 = .ok (.aload_n 0, 1) := by decide +kernel
theorem dX12_init_61 : decode cX12_init 61 = .ok (.sipush 1536, 3) := by decide +kernel
theorem dX12_init_64 : decode cX12_init 64 = .ok (.newarray .int, 2) := by decide +kernel
theorem dX12_init_66 : decode cX12_init 66 = .ok (.putfield 32, 3) := by decide +kernel
theorem dX12_init_69 : decode cX12_init 69 = .ok (.aload_n 0, 1) := by decide +kernel
theorem dX12_init_70 : decode cX12_init 70 = .ok (.sipush 1536, 3) := by decide +kernel
theorem dX12_init_73 : decode cX12_init 73 = .ok (.newarray .int, 2) := by decide +kernel
theorem dX12_init_75 : decode cX12_init 75 = .ok (.putfield 35, 3) := by decide +kernel
theorem dX12_init_78 : decode cX12_init 78 = .ok (.aload_n 0, 1) := by decide +kernel
theorem dX12_init_79 : decode cX12_init 79 = .ok (.sipush 1536, 3) := by decide +kernel
theorem dX12_init_82 : decode cX12_init 82 = .ok (.newarray .int, 2) := by decide +kernel
theorem dX12_init_84 : decode cX12_init 84 = .ok (.putfield 38, 3) := by decide +kernel
theorem dX12_init_87 : decode cX12_init 87 = .ok (.aload_n 0, 1) := by decide +kernel
theorem dX12_init_88 : decode cX12_init 88 = .ok (.sipush 1536, 3) := by decide +kernel
theorem dX12_init_91 : decode cX12_init 91 = .ok (.newarray .int, 2) := by decide +kernel
theorem dX12_init_93 : decode cX12_init 93 = .ok (.putfield 41, 3) := by decide +kernel
theorem dX12_init_96 : decode cX12_init 96 = .ok (.aload_n 0, 1) := by decide +kernel
theorem dX12_init_97 : decode cX12_init 97 = .ok (.sipush 1536, 3) := by decide +kernel
theorem dX12_init_100 : decode cX12_init 100 = .ok (.newarray .boolean, 2) := by decide +kernel
theorem dX12_init_102 : decode cX12_init 102 = .ok (.putfield 44, 3) := by decide +kernel
theorem dX12_init_105 : decode cX12_init 105 = .ok (.aload_n 0, 1) := by decide +kernel
theorem dX12_init_106 : decode cX12_init 106 = .ok (.iconst 4, 1) := by decide +kernel
theorem dX12_init_107 : decode cX12_init 107 = .ok (.newarray .int, 2) := by decide +kernel
theorem dX12_init_109 : decode cX12_init 109 = .ok (.putfield 47, 3) := by decide +kernel
theorem dX12_init_112 : decode cX12_init 112 = .ok (.aload_n 0, 1) := by decide +kernel
theorem dX12_init_113 : decode cX12_init 113 = .ok (.bipush 20, 2) := by decide +kernel
theorem dX12_init_115 : decode cX12_init 115 = .ok (.newarray .int, 2) := by decide +kernel
theorem dX12_init_117 : decode cX12_init 117 = .ok (.putfield 50, 3) := by decide +kernel
theorem dX12_init_120 : decode cX12_init 120 = .ok (.aload_n 0, 1) := by decide +kernel
theorem dX12_init_121 : decode cX12_init 121 = .ok (.bipush 20, 2) := by decide +kernel
theorem dX12_init_123 : decode cX12_init 123 = .ok (.newarray .int, 2) := by decide +kernel
theorem dX12_init_125 : decode cX12_init 125 = .ok (.putfield 53, 3) := by decide +kernel
theorem dX12_init_128 : decode cX12_init 128 = .ok (.aload_n 0, 1) := by decide +kernel
theorem dX12_init_129 : decode cX12_init 129 = .ok (.bipush 20, 2) := by decide +kernel
theorem dX12_init_131 : decode cX12_init 131 = .ok (.newarray .int, 2) := by decide +kernel
theorem dX12_init_133 : decode cX12_init 133 = .ok (.putfield 56, 3) := by decide +kernel
theorem dX12_init_136 : decode cX12_init 136 = .ok (.aload_n 0, 1) := by decide +kernel
theorem dX12_init_137 : decode cX12_init 137 = .ok (.bipush 20, 2) := by decide +kernel
theorem dX12_init_139 : decode cX12_init 139 = .ok (.newarray .int, 2) := by decide +kernel
theorem dX12_init_141 : decode cX12_init 141 = .ok (.putfield 59, 3) := by decide +kernel
theorem dX12_init_144 : decode cX12_init 144 = .ok (.aload_n 0, 1) := by decide +kernel
theorem dX12_init_145 : decode cX12_init 145 = .ok (.bipush 20, 2) := by decide +kernel
theorem dX12_init_147 : decode cX12_init 147 = .ok (.newarray .int, 2) := by decide +kernel
theorem dX12_init_149 : decode cX12_init 149 = .ok (.putfield 62, 3) := by decide +kernel
theorem dX12_init_152 : decode cX12_init 152 = .ok (.aload_n 0, 1) := by decide +kernel
theorem dX12_init_153 : decode cX12_init 153 = .ok (.bipush 20, 2) := by decide +kernel
theorem dX12_init_155 : decode cX12_init 155 = .ok (.newarray .boolean, 2) := by decide +kernel
theorem dX12_init_157 : decode cX12_init 157 = .ok (.putfield 65, 3) := by decide +kernel
theorem dX12_init_160 : decode cX12_init 160 = .ok (.aload_n 0, 1) := by decide +kernel
theorem dX12_init_161 : decode cX12_init 161 = .ok (.bipush 120, 2) := by decide +kernel
theorem dX12_init_163 : decode cX12_init 163 = .ok (.putfield 68, 3) := by decide +kernel
theorem dX12_init_166 : decode cX12_init 166 = .ok (.aload_n 0, 1) := by decide +kernel
theorem dX12_init_167 : decode cX12_init 167 = .ok (.iconst 4, 1) := by decide +kernel
theorem dX12_init_168 : decode cX12_init 168 = .ok (.putfield 72, 3) := by decide +kernel
theorem dX12_init_171 : decode cX12_init 171 = .ok (.aload_n 0, 1) := by decide +kernel
theorem dX12_init_172 : decode cX12_init 172 = .ok (.sipush 1500, 3) := by decide +kernel
theorem dX12_init_175 : decode cX12_init 175 = .ok (.putfield 75, 3) := by decide +kernel
theorem dX12_init_178 : decode cX12_init 178 = .ok (.aload_n 0, 1) := by decide +kernel
theorem dX12_init_179 : decode cX12_init 179 = .ok (.bipush 48, 2) := by decide +kernel
theorem dX12_init_181 : decode cX12_init 181 = .ok (.newarray .int, 2) := by decide +kernel
theorem dX12_init_183 : decode cX12_init 183 = .ok (.putfield 78, 3) := by decide +kernel
theorem dX12_init_186 : decode cX12_init 186 = .ok (.aload_n 0, 1) := by decide +kernel
theorem dX12_init_187 : decode cX12_init 187 = .ok (.bipush 49, 2) := by decide +kernel
theorem dX12_init_189 : decode cX12_init 189 = .ok (.newarray .int, 2) := by decide +kernel
theorem dX12_init_191 : decode cX12_init 191 = .ok (.putfield 81, 3) := by decide +kernel
theorem dX12_init_194 : decode cX12_init 194 = .ok (.aload_n 0, 1) := by decide +kernel
theorem dX12_init_195 : decode cX12_init 195 = .ok (.iconst 4, 1) := by decide +kernel
theorem dX12_init_196 : decode cX12_init 196 = .ok (.newarray .int, 2) := by decide +kernel
theorem dX12_init_198 : decode cX12_init 198 = .ok (.putfield 84, 3) := by decide +kernel
theorem dX12_init_201 : decode cX12_init 201 = .ok (.aload_n 0, 1) := by decide +kernel
theorem dX12_init_202 : decode cX12_init 202 = .ok (.sipush 3072, 3) := by decide +kernel
theorem dX12_init_205 : decode cX12_init 205 = .ok (.newarray .int, 2) := by decide +kernel
theorem dX12_init_207 : decode cX12_init 207 = .ok (.putfield 87, 3) := by decide +kernel
theorem dX12_init_210 : decode cX12_init 210 = .ok (.aload_n 0, 1) := by decide +kernel
theorem dX12_init_211 : decode cX12_init 211 = .ok (.sipush 3072, 3) := by decide +kernel
theorem dX12_init_214 : decode cX12_init 214 = .ok (.newarray .int, 2) := by decide +kernel
theorem dX12_init_216 : decode cX12_init 216 = .ok (.putfield 90, 3) := by decide +kernel
theorem dX12_init_219 : decode cX12_init 219 = .ok (.aload_n 0, 1) := by decide +kernel
theorem dX12_init_220 : decode cX12_init 220 = .ok (.sipush 3072, 3) := by decide +kernel
theorem dX12_init_223 : decode cX12_init 223 = .ok (.newarray .int, 2) := by decide +kernel
theorem dX12_init_225 : decode cX12_init 225 = .ok (.putfield 93, 3) := by decide +kernel
theorem dX12_init_228 : decode cX12_init 228 = .ok (.aload_n 0, 1) := by decide +kernel
theorem dX12_init_229 : decode cX12_init 229 = .ok (.iconst 4, 1) := by decide +kernel
theorem dX12_init_230 : decode cX12_init 230 = .ok (.newarray .int, 2) := by decide +kernel
theorem dX12_init_232 : decode cX12_init 232 = .ok (.putfield 96, 3) := by decide +kernel
theorem dX12_init_235 : decode cX12_init 235 = .ok (.aload_n 0, 1) := by decide +kernel
theorem dX12_init_236 : decode cX12_init 236 = .ok (.bipush 24, 2) := by decide +kernel
theorem dX12_init_238 : decode cX12_init 238 = .ok (.newarray .int, 2) := by decide +kernel
theorem dX12_init_240 : decode cX12_init 240 = .ok (.putfield 99, 3) := by decide +kernel
theorem dX12_init_243 : decode cX12_init 243 = .ok (.aload_n 0, 1) := by decide +kernel
theorem dX12_init_244 : decode cX12_init 244 = .ok (.bipush 24, 2) := by decide +kernel
theorem dX12_init_246 : decode cX12_init 246 = .ok (.newarray .int, 2) := by decide +kernel
theorem dX12_init_248 : decode cX12_init 248 = .ok (.putfield 102, 3) := by decide +kernel
theorem dX12_init_251 : decode cX12_init 251 = .ok (.aload_n 0, 1) := by decide +kernel
theorem dX12_init_252 : decode cX12_init 252 = .ok (.bipush 24, 2) := by decide +kernel
theorem dX12_init_254 : decode cX12_init 254 = .ok (.newarray .int, 2) := by decide +kernel
theorem dX12_init_256 : decode cX12_init 256 = .ok (.putfield 105, 3) := by decide +kernel
theorem dX12_init_259 : decode cX12_init 259 = .ok (.aload_n 0, 1) := by decide +kernel
theorem dX12_init_260 : decode cX12_init 260 = .ok (.bipush 24, 2) := by decide +kernel
theorem dX12_init_262 : decode cX12_init 262 = .ok (.newarray .int, 2) := by decide +kernel
theorem dX12_init_264 : decode cX12_init 264 = .ok (.putfield 108, 3) := by decide +kernel
theorem dX12_init_267 : decode cX12_init 267 = .ok (.aload_n 0, 1) := by decide +kernel
theorem dX12_init_268 : decode cX12_init 268 = .ok (.bipush 24, 2) := by decide +kernel
theorem dX12_init_270 : decode cX12_init 270 = .ok (.newarray .int, 2) := by decide +kernel
theorem dX12_init_272 : decode cX12_init 272 = .ok (.putfield 111, 3) := by decide +kernel
theorem dX12_init_275 : decode cX12_init 275 = .ok (.aload_n 0, 1) := by decide +kernel
theorem dX12_init_276 : decode cX12_init 276 = .ok (.bipush 25, 2) := by decide +kernel
theorem dX12_init_278 : decode cX12_init 278 = .ok (.newarray .int, 2) := by decide +kernel
theorem dX12_init_280 : decode cX12_init 280 = .ok (.putfield 114, 3) := by decide +kernel
theorem dX12_init_283 : decode cX12_init 283 = .ok (.aload_n 0, 1) := by decide +kernel
theorem dX12_init_284 : decode cX12_init 284 = .ok (.bipush 25, 2) := by decide +kernel
theorem dX12_init_286 : decode cX12_init 286 = .ok (.newarray .int, 2) := by decide +kernel
theorem dX12_init_288 : decode cX12_init 288 = .ok (.putfield 117, 3) := by decide +kernel
theorem dX12_init_291 : decode cX12_init 291 = .ok (.aload_n 0, 1) := by decide +kernel
theorem dX12_init_292 : decode cX12_init 292 = .ok (.bipush 60, 2) := by decide +kernel
theorem dX12_init_294 : decode cX12_init 294 = .ok (.newarray .int, 2) := by decide +kernel
theorem dX12_init_296 : decode cX12_init 296 = .ok (.putfield 120, 3) := by decide +kernel
theorem dX12_init_299 : decode cX12_init 299 = .ok (.aload_n 0, 1) := by decide +kernel
theorem dX12_init_300 : decode cX12_init 300 = .ok (.bipush 100, 2) := by decide +kernel
theorem dX12_init_302 : decode cX12_init 302 = .ok (.newarray .int, 2) := by decide +kernel
theorem dX12_init_304 : decode cX12_init 304 = .ok (.putfield 123, 3) := by decide +kernel
theorem dX12_init_307 : decode cX12_init 307 = .ok (.aload_n 0, 1) := by decide +kernel
theorem dX12_init_308 : decode cX12_init 308 = .ok (.bipush 25, 2) := by decide +kernel
theorem dX12_init_310 : decode cX12_init 310 = .ok (.newarray .int, 2) := by decide +kernel
theorem dX12_init_312 : decode cX12_init 312 = .ok (.putfield 126, 3) := by decide +kernel
theorem dX12_init_315 : decode cX12_init 315 = .ok (.return_, 1) := by decide +kernel
theorem dX12_thrown_0 : decode cX12_thrown 0 = .ok (.aload_n 0, 1) := by decide +kernel
theorem dX12_thrown_1 : decode cX12_thrown 1 = .ok (.getfield 129, 3) := by decide +kernel
theorem dX12_thrown_4 : decode cX12_thrown 4 = .ok (.ireturn, 1) := by decide +kernel
theorem dX12_in_0 : decode cX12_in 0 = .ok (.iload_n 0, 1) := by decide +kernel
theorem dX12_in_1 : decode cX12_in 1 = .ok (.iload_n 1, 1) := by decide +kernel
theorem dX12_in_2 : decode cX12_in 2 = .ok (.if_icmp .lt 12, 3) := by decide +kernel
theorem dX12_in_5 : decode cX12_in 5 = .ok (.iload_n 0, 1) := by decide +kernel
theorem dX12_in_6 : decode cX12_in 6 = .ok (.iload_n 2, 1) := by decide +kernel
theorem dX12_in_7 : decode cX12_in 7 = .ok (.if_icmp .gt 7, 3) := by decide +kernel
theorem dX12_in_10 : decode cX12_in 10 = .ok (.iconst 1, 1) := by decide +kernel
theorem dX12_in_11 : decode cX12_in 11 = .ok (.goto 4, 3) := by decide +kernel
theorem dX12_in_14 : decode cX12_in 14 = .ok (.iconst 0, 1) := by decide +kernel
theorem dX12_in_15 : decode cX12_in 15 = .ok (.ireturn, 1) := by decide +kernel
theorem dX12_goes_0 : decode cX12_goes 0 = .ok (.aload_n 0, 1) := by decide +kernel
theorem dX12_goes_1 : decode cX12_goes 1 = .ok (.iload_n 1, 1) := by decide +kernel
theorem dX12_goes_2 : decode cX12_goes 2 = .ok (.ifCond .ne 7, 3) := by decide +kernel
theorem dX12_goes_5 : decode cX12_goes 5 = .ok (.iconst 1, 1) := by decide +kernel
theorem dX12_goes_6 : decode cX12_goes 6 = .ok (.goto 20, 3) := by decide +kernel
theorem dX12_goes_9 : decode cX12_goes 9 = .ok (.iload_n 2, 1) := by decide +kernel
theorem dX12_goes_10 : decode cX12_goes 10 = .ok (.ifCond .ne 7, 3) := by decide +kernel
theorem dX12_goes_13 : decode cX12_goes 13 = .ok (.iconst 2, 1) := by decide +kernel
theorem dX12_goes_14 : decode cX12_goes 14 = .ok (.goto 12, 3) := by decide +kernel
theorem dX12_goes_17 : decode cX12_goes 17 = .ok (.iload_n 3, 1) := by decide +kernel
theorem dX12_goes_18 : decode cX12_goes 18 = .ok (.ifCond .ne 7, 3) := by decide +kernel
theorem dX12_goes_21 : decode cX12_goes 21 = .ok (.iconst 3, 1) := by decide +kernel
theorem dX12_goes_22 : decode cX12_goes 22 = .ok (.goto 4, 3) := by decide +kernel
theorem dX12_goes_25 : decode cX12_goes 25 = .ok (.iconst 0, 1) := by decide +kernel
theorem dX12_goes_26 : decode cX12_goes 26 = .ok (.putfield 129, 3) := by decide +kernel
theorem dX12_goes_29 : decode cX12_goes 29 = .ok (.aload_n 0, 1) := by decide +kernel
theorem dX12_goes_30 : decode cX12_goes 30 = .ok (.getfield 129, 3) := by decide +kernel
theorem dX12_goes_33 : decode cX12_goes 33 = .ok (.ifCond .ne 7, 3) := by decide +kernel
theorem dX12_goes_36 : decode cX12_goes 36 = .ok (.iconst 1, 1) := by decide +kernel
theorem dX12_goes_37 : decode cX12_goes 37 = .ok (.goto 4, 3) := by decide +kernel
theorem dX12_goes_40 : decode cX12_goes 40 = .ok (.iconst 0, 1) := by decide +kernel
theorem dX12_goes_41 : decode cX12_goes 41 = .ok (.ireturn, 1) := by decide +kernel
theorem dX12_tells_0 : decode cX12_tells 0 = .ok (.aload_n 0, 1) := by decide +kernel
theorem dX12_tells_1 : decode cX12_tells 1 = .ok (.iconst 0, 1) := by decide +kernel
theorem dX12_tells_2 : decode cX12_tells 2 = .ok (.putfield 129, 3) := by decide +kernel
theorem dX12_tells_5 : decode cX12_tells 5 = .ok (.iload_n 1, 1) := by decide +kernel
theorem dX12_tells_6 : decode cX12_tells 6 = .ok (.ireturn, 1) := by decide +kernel
theorem dX12_isBar_0 : decode cX12_isBar 0 = .ok (.iload_n 1, 1) := by decide +kernel
theorem dX12_isBar_1 : decode cX12_isBar 1 = .ok (.iconst 0, 1) := by decide +kernel
theorem dX12_isBar_2 : decode cX12_isBar 2 = .ok (.aload_n 0, 1) := by decide +kernel
theorem dX12_isBar_3 : decode cX12_isBar 3 = .ok (.getfield 132, 3) := by decide +kernel
theorem dX12_isBar_6 : decode cX12_isBar 6 = .ok (.iconst 1, 1) := by decide +kernel
theorem dX12_isBar_7 : decode cX12_isBar 7 = .ok (.isub, 1) := by decide +kernel
theorem dX12_isBar_8 : decode cX12_isBar 8 = .ok (.invokestatic 135, 3) := by decide +kernel
theorem dX12_isBar_11 : decode cX12_isBar 11 = .ok (.ireturn, 1) := by decide +kernel
theorem dX12_isVoice_0 : decode cX12_isVoice 0 = .ok (.iload_n 0, 1) := by decide +kernel
theorem dX12_isVoice_1 : decode cX12_isVoice 1 = .ok (.iconst 0, 1) := by decide +kernel
theorem dX12_isVoice_2 : decode cX12_isVoice 2 = .ok (.iconst 3, 1) := by decide +kernel
theorem dX12_isVoice_3 : decode cX12_isVoice 3 = .ok (.invokestatic 135, 3) := by decide +kernel
theorem dX12_isVoice_6 : decode cX12_isVoice 6 = .ok (.ireturn, 1) := by decide +kernel
theorem dX12_at_0 : decode cX12_at 0 = .ok (.bipush 24, 2) := by decide +kernel
theorem dX12_at_2 : decode cX12_at 2 = .ok (.iload_n 0, 1) := by decide +kernel
theorem dX12_at_3 : decode cX12_at 3 = .ok (.imul, 1) := by decide +kernel
theorem dX12_at_4 : decode cX12_at 4 = .ok (.iload_n 1, 1) := by decide +kernel
theorem dX12_at_5 : decode cX12_at 5 = .ok (.iadd, 1) := by decide +kernel
theorem dX12_at_6 : decode cX12_at 6 = .ok (.ireturn, 1) := by decide +kernel
theorem dX12_place_0 : decode cX12_place 0 = .ok (.bipush 16, 2) := by decide +kernel
theorem dX12_place_2 : decode cX12_place 2 = .ok (.iload_n 0, 1) := by decide +kernel
theorem dX12_place_3 : decode cX12_place 3 = .ok (.iload_n 1, 1) := by decide +kernel
theorem dX12_place_4 : decode cX12_place 4 = .ok (.invokestatic 139, 3) := by decide +kernel
theorem dX12_place_7 : decode cX12_place 7 = .ok (.imul, 1) := by decide +kernel
theorem dX12_place_8 : decode cX12_place 8 = .ok (.iload_n 2, 1) := by decide +kernel
theorem dX12_place_9 : decode cX12_place 9 = .ok (.iadd, 1) := by decide +kernel
theorem dX12_place_10 : decode cX12_place 10 = .ok (.ireturn, 1) := by decide +kernel
theorem dX12_isEvent_0 : decode cX12_isEvent 0 = .ok (.aload_n 0, 1) := by decide +kernel
theorem dX12_isEvent_1 : decode cX12_isEvent 1 = .ok (.iload_n 2, 1) := by decide +kernel
theorem dX12_isEvent_2 : decode cX12_isEvent 2 = .ok (.invokevirtual 143, 3) := by decide +kernel
theorem dX12_isEvent_5 : decode cX12_isEvent 5 = .ok (.ifCond .eq 27, 3) := by decide +kernel
theorem dX12_isEvent_8 : decode cX12_isEvent 8 = .ok (.iload_n 3, 1) := by decide +kernel
theorem dX12_isEvent_9 : decode cX12_isEvent 9 = .ok (.iconst 0, 1) := by decide +kernel
theorem dX12_isEvent_10 : decode cX12_isEvent 10 = .ok (.aload_n 0, 1) := by decide +kernel
theorem dX12_isEvent_11 : decode cX12_isEvent 11 = .ok (.getfield 25, 3) := by decide +kernel
theorem dX12_isEvent_14 : decode cX12_isEvent 14 = .ok (.iload_n 1, 1) := by decide +kernel
theorem dX12_isEvent_15 : decode cX12_isEvent 15 = .ok (.iload_n 2, 1) := by decide +kernel
theorem dX12_isEvent_16 : decode cX12_isEvent 16 = .ok (.invokestatic 139, 3) := by decide +kernel
theorem dX12_isEvent_19 : decode cX12_isEvent 19 = .ok (.iaload, 1) := by decide +kernel
theorem dX12_isEvent_20 : decode cX12_isEvent 20 = .ok (.iconst 1, 1) := by decide +kernel
theorem dX12_isEvent_21 : decode cX12_isEvent 21 = .ok (.isub, 1) := by decide +kernel
theorem dX12_isEvent_22 : decode cX12_isEvent 22 = .ok (.invokestatic 135, 3) := by decide +kernel
theorem dX12_isEvent_25 : decode cX12_isEvent 25 = .ok (.ifCond .eq 7, 3) := by decide +kernel
theorem dX12_isEvent_28 : decode cX12_isEvent 28 = .ok (.iconst 1, 1) := by decide +kernel
theorem dX12_isEvent_29 : decode cX12_isEvent 29 = .ok (.goto 4, 3) := by decide +kernel
theorem dX12_isEvent_32 : decode cX12_isEvent 32 = .ok (.iconst 0, 1) := by decide +kernel
theorem dX12_isEvent_33 : decode cX12_isEvent 33 = .ok (.ireturn, 1) := by decide +kernel
theorem dX12_isMetre_0 : decode cX12_isMetre 0 = .ok (.iload_n 0, 1) := by decide +kernel
theorem dX12_isMetre_1 : decode cX12_isMetre 1 = .ok (.iconst 1, 1) := by decide +kernel
theorem dX12_isMetre_2 : decode cX12_isMetre 2 = .ok (.bipush 9, 2) := by decide +kernel
theorem dX12_isMetre_4 : decode cX12_isMetre 4 = .ok (.invokestatic 135, 3) := by decide +kernel
theorem dX12_isMetre_7 : decode cX12_isMetre 7 = .ok (.ifCond .eq 23, 3) := by decide +kernel
theorem dX12_isMetre_10 : decode cX12_isMetre 10 = .ok (.iload_n 1, 1) := by decide +kernel
theorem dX12_isMetre_11 : decode cX12_isMetre 11 = .ok (.iconst 2, 1) := by decide +kernel
theorem dX12_isMetre_12 : decode cX12_isMetre 12 = .ok (.if_icmp .eq 14, 3) := by decide +kernel
theorem dX12_isMetre_15 : decode cX12_isMetre 15 = .ok (.iload_n 1, 1) := by decide +kernel
theorem dX12_isMetre_16 : decode cX12_isMetre 16 = .ok (.iconst 4, 1) := by decide +kernel
theorem dX12_isMetre_17 : decode cX12_isMetre 17 = .ok (.if_icmp .eq 9, 3) := by decide +kernel
theorem dX12_isMetre_20 : decode cX12_isMetre 20 = .ok (.iload_n 1, 1) := by decide +kernel
theorem dX12_isMetre_21 : decode cX12_isMetre 21 = .ok (.bipush 8, 2) := by decide +kernel
theorem dX12_isMetre_23 : decode cX12_isMetre 23 = .ok (.if_icmp .ne 7, 3) := by decide +kernel
theorem dX12_isMetre_26 : decode cX12_isMetre 26 = .ok (.iconst 1, 1) := by decide +kernel
theorem dX12_isMetre_27 : decode cX12_isMetre 27 = .ok (.goto 4, 3) := by decide +kernel
theorem dX12_isMetre_30 : decode cX12_isMetre 30 = .ok (.iconst 0, 1) := by decide +kernel
theorem dX12_isMetre_31 : decode cX12_isMetre 31 = .ok (.ireturn, 1) := by decide +kernel
theorem dX12_lengthOf_0 : decode cX12_lengthOf 0 = .ok (.bipush 96, 2) := by decide +kernel
theorem dX12_lengthOf_2 : decode cX12_lengthOf 2 = .ok (.aload_n 0, 1) := by decide +kernel
theorem dX12_lengthOf_3 : decode cX12_lengthOf 3 = .ok (.getfield 7, 3) := by decide +kernel
theorem dX12_lengthOf_6 : decode cX12_lengthOf 6 = .ok (.iload_n 1, 1) := by decide +kernel
theorem dX12_lengthOf_7 : decode cX12_lengthOf 7 = .ok (.iaload, 1) := by decide +kernel
theorem dX12_lengthOf_8 : decode cX12_lengthOf 8 = .ok (.imul, 1) := by decide +kernel
theorem dX12_lengthOf_9 : decode cX12_lengthOf 9 = .ok (.aload_n 0, 1) := by decide +kernel
theorem dX12_lengthOf_10 : decode cX12_lengthOf 10 = .ok (.getfield 13, 3) := by decide +kernel
theorem dX12_lengthOf_13 : decode cX12_lengthOf 13 = .ok (.iload_n 1, 1) := by decide +kernel
theorem dX12_lengthOf_14 : decode cX12_lengthOf 14 = .ok (.iaload, 1) := by decide +kernel
theorem dX12_lengthOf_15 : decode cX12_lengthOf 15 = .ok (.idiv, 1) := by decide +kernel
theorem dX12_lengthOf_16 : decode cX12_lengthOf 16 = .ok (.ireturn, 1) := by decide +kernel
theorem dX12_tempoOf_0 : decode cX12_tempoOf 0 = .ok (.bipush 120, 2) := by decide +kernel
theorem dX12_tempoOf_2 : decode cX12_tempoOf 2 = .ok (.istore_n 2, 1) := by decide +kernel
theorem dX12_tempoOf_3 : decode cX12_tempoOf 3 = .ok (.iconst 0, 1) := by decide +kernel
theorem dX12_tempoOf_4 : decode cX12_tempoOf 4 = .ok (.istore_n 3, 1) := by decide +kernel
theorem dX12_tempoOf_5 : decode cX12_tempoOf 5 = .ok (.iload_n 3, 1) := by decide +kernel
theorem dX12_tempoOf_6 : decode cX12_tempoOf 6 = .ok (.iload_n 1, 1) := by decide +kernel
theorem dX12_tempoOf_7 : decode cX12_tempoOf 7 = .ok (.if_icmp .gt 30, 3) := by decide +kernel
theorem dX12_tempoOf_10 : decode cX12_tempoOf 10 = .ok (.aload_n 0, 1) := by decide +kernel
theorem dX12_tempoOf_11 : decode cX12_tempoOf 11 = .ok (.getfield 16, 3) := by decide +kernel
theorem dX12_tempoOf_14 : decode cX12_tempoOf 14 = .ok (.iload_n 3, 1) := by decide +kernel
theorem dX12_tempoOf_15 : decode cX12_tempoOf 15 = .ok (.iaload, 1) := by decide +kernel
theorem dX12_tempoOf_16 : decode cX12_tempoOf 16 = .ok (.iconst (-1), 1) := by decide +kernel
theorem dX12_tempoOf_17 : decode cX12_tempoOf 17 = .ok (.if_icmp .ne 7, 3) := by decide +kernel
theorem dX12_tempoOf_20 : decode cX12_tempoOf 20 = .ok (.iload_n 2, 1) := by decide +kernel
theorem dX12_tempoOf_21 : decode cX12_tempoOf 21 = .ok (.goto 9, 3) := by decide +kernel
theorem dX12_tempoOf_24 : decode cX12_tempoOf 24 = .ok (.aload_n 0, 1) := by decide +kernel
theorem dX12_tempoOf_25 : decode cX12_tempoOf 25 = .ok (.getfield 16, 3) := by decide +kernel
theorem dX12_tempoOf_28 : decode cX12_tempoOf 28 = .ok (.iload_n 3, 1) := by decide +kernel
theorem dX12_tempoOf_29 : decode cX12_tempoOf 29 = .ok (.iaload, 1) := by decide +kernel
theorem dX12_tempoOf_30 : decode cX12_tempoOf 30 = .ok (.istore_n 2, 1) := by decide +kernel
theorem dX12_tempoOf_31 : decode cX12_tempoOf 31 = .ok (.iinc 3 1, 3) := by decide +kernel
theorem dX12_tempoOf_34 : decode cX12_tempoOf 34 = .ok (.goto (-29), 3) := by decide +kernel
theorem dX12_tempoOf_37 : decode cX12_tempoOf 37 = .ok (.iload_n 2, 1) := by decide +kernel
theorem dX12_tempoOf_38 : decode cX12_tempoOf 38 = .ok (.ireturn, 1) := by decide +kernel
theorem dX12_lasts_0 : decode cX12_lasts 0 = .ok (.iload_n 2, 1) := by decide +kernel
theorem dX12_lasts_1 : decode cX12_lasts 1 = .ok (.sipush 2500, 3) := by decide +kernel
theorem dX12_lasts_4 : decode cX12_lasts 4 = .ok (.imul, 1) := by decide +kernel
theorem dX12_lasts_5 : decode cX12_lasts 5 = .ok (.aload_n 0, 1) := by decide +kernel
theorem dX12_lasts_6 : decode cX12_lasts 6 = .ok (.iload_n 1, 1) := by decide +kernel
theorem dX12_lasts_7 : decode cX12_lasts 7 = .ok (.invokevirtual 147, 3) := by decide +kernel
theorem dX12_lasts_10 : decode cX12_lasts 10 = .ok (.idiv, 1) := by decide +kernel
theorem dX12_lasts_11 : decode cX12_lasts 11 = .ok (.ireturn, 1) := by decide +kernel
theorem dX12_ticksOf_0 : decode cX12_ticksOf 0 = .ok (.bipush 96, 2) := by decide +kernel
theorem dX12_ticksOf_2 : decode cX12_ticksOf 2 = .ok (.aload_n 0, 1) := by decide +kernel
theorem dX12_ticksOf_3 : decode cX12_ticksOf 3 = .ok (.getfield 35, 3) := by decide +kernel
theorem dX12_ticksOf_6 : decode cX12_ticksOf 6 = .ok (.iload_n 1, 1) := by decide +kernel
theorem dX12_ticksOf_7 : decode cX12_ticksOf 7 = .ok (.iaload, 1) := by decide +kernel
theorem dX12_ticksOf_8 : decode cX12_ticksOf 8 = .ok (.ishr, 1) := by decide +kernel
theorem dX12_ticksOf_9 : decode cX12_ticksOf 9 = .ok (.istore_n 2, 1) := by decide +kernel
theorem dX12_ticksOf_10 : decode cX12_ticksOf 10 = .ok (.aload_n 0, 1) := by decide +kernel
theorem dX12_ticksOf_11 : decode cX12_ticksOf 11 = .ok (.getfield 38, 3) := by decide +kernel
theorem dX12_ticksOf_14 : decode cX12_ticksOf 14 = .ok (.iload_n 1, 1) := by decide +kernel
theorem dX12_ticksOf_15 : decode cX12_ticksOf 15 = .ok (.iaload, 1) := by decide +kernel
theorem dX12_ticksOf_16 : decode cX12_ticksOf 16 = .ok (.iconst 1, 1) := by decide +kernel
theorem dX12_ticksOf_17 : decode cX12_ticksOf 17 = .ok (.if_icmp .ne 11, 3) := by decide +kernel
theorem dX12_ticksOf_20 : decode cX12_ticksOf 20 = .ok (.iload_n 2, 1) := by decide +kernel
theorem dX12_ticksOf_21 : decode cX12_ticksOf 21 = .ok (.iconst 3, 1) := by decide +kernel
theorem dX12_ticksOf_22 : decode cX12_ticksOf 22 = .ok (.imul, 1) := by decide +kernel
theorem dX12_ticksOf_23 : decode cX12_ticksOf 23 = .ok (.iconst 2, 1) := by decide +kernel
theorem dX12_ticksOf_24 : decode cX12_ticksOf 24 = .ok (.idiv, 1) := by decide +kernel
theorem dX12_ticksOf_25 : decode cX12_ticksOf 25 = .ok (.goto 22, 3) := by decide +kernel
theorem dX12_ticksOf_28 : decode cX12_ticksOf 28 = .ok (.aload_n 0, 1) := by decide +kernel
theorem dX12_ticksOf_29 : decode cX12_ticksOf 29 = .ok (.getfield 38, 3) := by decide +kernel
theorem dX12_ticksOf_32 : decode cX12_ticksOf 32 = .ok (.iload_n 1, 1) := by decide +kernel
theorem dX12_ticksOf_33 : decode cX12_ticksOf 33 = .ok (.iaload, 1) := by decide +kernel
theorem dX12_ticksOf_34 : decode cX12_ticksOf 34 = .ok (.iconst 2, 1) := by decide +kernel
theorem dX12_ticksOf_35 : decode cX12_ticksOf 35 = .ok (.if_icmp .ne 11, 3) := by decide +kernel
theorem dX12_ticksOf_38 : decode cX12_ticksOf 38 = .ok (.iload_n 2, 1) := by decide +kernel
theorem dX12_ticksOf_39 : decode cX12_ticksOf 39 = .ok (.iconst 2, 1) := by decide +kernel
theorem dX12_ticksOf_40 : decode cX12_ticksOf 40 = .ok (.imul, 1) := by decide +kernel
theorem dX12_ticksOf_41 : decode cX12_ticksOf 41 = .ok (.iconst 3, 1) := by decide +kernel
theorem dX12_ticksOf_42 : decode cX12_ticksOf 42 = .ok (.idiv, 1) := by decide +kernel
theorem dX12_ticksOf_43 : decode cX12_ticksOf 43 = .ok (.goto 4, 3) := by decide +kernel
theorem dX12_ticksOf_46 : decode cX12_ticksOf 46 = .ok (.iload_n 2, 1) := by decide +kernel
theorem dX12_ticksOf_47 : decode cX12_ticksOf 47 = .ok (.ireturn, 1) := by decide +kernel
theorem dX12_ticks_0 : decode cX12_ticks 0 = .ok (.iconst 0, 1) := by decide +kernel
theorem dX12_ticks_1 : decode cX12_ticks 1 = .ok (.istore 4, 2) := by decide +kernel
theorem dX12_ticks_3 : decode cX12_ticks 3 = .ok (.iconst 0, 1) := by decide +kernel
theorem dX12_ticks_4 : decode cX12_ticks 4 = .ok (.istore 5, 2) := by decide +kernel
theorem dX12_ticks_6 : decode cX12_ticks 6 = .ok (.iload 5, 2) := by decide +kernel
theorem dX12_ticks_8 : decode cX12_ticks 8 = .ok (.iload_n 3, 1) := by decide +kernel
theorem dX12_ticks_9 : decode cX12_ticks 9 = .ok (.if_icmp .ge 25, 3) := by decide +kernel
theorem dX12_ticks_12 : decode cX12_ticks 12 = .ok (.iload 4, 2) := by decide +kernel
theorem dX12_ticks_14 : decode cX12_ticks 14 = .ok (.aload_n 0, 1) := by decide +kernel
theorem dX12_ticks_15 : decode cX12_ticks 15 = .ok (.iload_n 1, 1) := by decide +kernel
theorem dX12_ticks_16 : decode cX12_ticks 16 = .ok (.iload_n 2, 1) := by decide +kernel
theorem dX12_ticks_17 : decode cX12_ticks 17 = .ok (.iload 5, 2) := by decide +kernel
theorem dX12_ticks_19 : decode cX12_ticks 19 = .ok (.invokestatic 151, 3) := by decide +kernel
theorem dX12_ticks_22 : decode cX12_ticks 22 = .ok (.invokevirtual 155, 3) := by decide +kernel
theorem dX12_ticks_25 : decode cX12_ticks 25 = .ok (.iadd, 1) := by decide +kernel
theorem dX12_ticks_26 : decode cX12_ticks 26 = .ok (.istore 4, 2) := by decide +kernel
theorem dX12_ticks_28 : decode cX12_ticks 28 = .ok (.iinc 5 1, 3) := by decide +kernel
theorem dX12_ticks_31 : decode cX12_ticks 31 = .ok (.goto (-25), 3) := by decide +kernel
theorem dX12_ticks_34 : decode cX12_ticks 34 = .ok (.iload 4, 2) := by decide +kernel
theorem dX12_ticks_36 : decode cX12_ticks 36 = .ok (.ireturn, 1) := by decide +kernel
theorem dX12_allTicks_0 : decode cX12_allTicks 0 = .ok (.aload_n 0, 1) := by decide +kernel
theorem dX12_allTicks_1 : decode cX12_allTicks 1 = .ok (.iload_n 1, 1) := by decide +kernel
theorem dX12_allTicks_2 : decode cX12_allTicks 2 = .ok (.iload_n 2, 1) := by decide +kernel
theorem dX12_allTicks_3 : decode cX12_allTicks 3 = .ok (.aload_n 0, 1) := by decide +kernel
theorem dX12_allTicks_4 : decode cX12_allTicks 4 = .ok (.getfield 25, 3) := by decide +kernel
theorem dX12_allTicks_7 : decode cX12_allTicks 7 = .ok (.iload_n 1, 1) := by decide +kernel
theorem dX12_allTicks_8 : decode cX12_allTicks 8 = .ok (.iload_n 2, 1) := by decide +kernel
theorem dX12_allTicks_9 : decode cX12_allTicks 9 = .ok (.invokestatic 139, 3) := by decide +kernel
theorem dX12_allTicks_12 : decode cX12_allTicks 12 = .ok (.iaload, 1) := by decide +kernel
theorem dX12_allTicks_13 : decode cX12_allTicks 13 = .ok (.invokevirtual 158, 3) := by decide +kernel
theorem dX12_allTicks_16 : decode cX12_allTicks 16 = .ok (.ireturn, 1) := by decide +kernel
theorem dX12_addBar_0 : decode cX12_addBar 0 = .ok (.aload_n 0, 1) := by decide +kernel
theorem dX12_addBar_1 : decode cX12_addBar 1 = .ok (.iload_n 1, 1) := by decide +kernel
theorem dX12_addBar_2 : decode cX12_addBar 2 = .ok (.iload_n 2, 1) := by decide +kernel
theorem dX12_addBar_3 : decode cX12_addBar 3 = .ok (.invokestatic 161, 3) := by decide +kernel
theorem dX12_addBar_6 : decode cX12_addBar 6 = .ok (.aload_n 0, 1) := by decide +kernel
theorem dX12_addBar_7 : decode cX12_addBar 7 = .ok (.getfield 132, 3) := by decide +kernel
theorem dX12_addBar_10 : decode cX12_addBar 10 = .ok (.bipush 24, 2) := by decide +kernel
theorem dX12_addBar_12 : decode cX12_addBar 12 = .ok (.if_icmp .ge 7, 3) := by decide +kernel
theorem dX12_addBar_15 : decode cX12_addBar 15 = .ok (.iconst 1, 1) := by decide +kernel
theorem dX12_addBar_16 : decode cX12_addBar 16 = .ok (.goto 4, 3) := by decide +kernel
theorem dX12_addBar_19 : decode cX12_addBar 19 = .ok (.iconst 0, 1) := by decide +kernel
theorem dX12_addBar_20 : decode cX12_addBar 20 = .ok (.iconst 1, 1) := by decide +kernel
theorem dX12_addBar_21 : decode cX12_addBar 21 = .ok (.invokevirtual 165, 3) := by decide +kernel
theorem dX12_addBar_24 : decode cX12_addBar 24 = .ok (.ifCond .ne 5, 3) := by decide +kernel
theorem dX12_addBar_27 : decode cX12_addBar 27 = .ok (.iconst 0, 1) := by decide +kernel
theorem dX12_addBar_28 : decode cX12_addBar 28 = .ok (.ireturn, 1) := by decide +kernel
theorem dX12_addBar_29 : decode cX12_addBar 29 = .ok (.aload_n 0, 1) := by decide +kernel
theorem dX12_addBar_30 : decode cX12_addBar 30 = .ok (.getfield 7, 3) := by decide +kernel
theorem dX12_addBar_33 : decode cX12_addBar 33 = .ok (.aload_n 0, 1) := by decide +kernel
theorem dX12_addBar_34 : decode cX12_addBar 34 = .ok (.getfield 132, 3) := by decide +kernel
theorem dX12_addBar_37 : decode cX12_addBar 37 = .ok (.iload_n 1, 1) := by decide +kernel
theorem dX12_addBar_38 : decode cX12_addBar 38 = .ok (.iastore, 1) := by decide +kernel
theorem dX12_addBar_39 : decode cX12_addBar 39 = .ok (.aload_n 0, 1) := by decide +kernel
theorem dX12_addBar_40 : decode cX12_addBar 40 = .ok (.getfield 13, 3) := by decide +kernel
theorem dX12_addBar_43 : decode cX12_addBar 43 = .ok (.aload_n 0, 1) := by decide +kernel
theorem dX12_addBar_44 : decode cX12_addBar 44 = .ok (.getfield 132, 3) := by decide +kernel
theorem dX12_addBar_47 : decode cX12_addBar 47 = .ok (.iload_n 2, 1) := by decide +kernel
theorem dX12_addBar_48 : decode cX12_addBar 48 = .ok (.iastore, 1) := by decide +kernel
theorem dX12_addBar_49 : decode cX12_addBar 49 = .ok (.aload_n 0, 1) := by decide +kernel
theorem dX12_addBar_50 : decode cX12_addBar 50 = .ok (.getfield 16, 3) := by decide +kernel
theorem dX12_addBar_53 : decode cX12_addBar 53 = .ok (.aload_n 0, 1) := by decide +kernel
theorem dX12_addBar_54 : decode cX12_addBar 54 = .ok (.getfield 132, 3) := by decide +kernel
theorem dX12_addBar_57 : decode cX12_addBar 57 = .ok (.iconst (-1), 1) := by decide +kernel
theorem dX12_addBar_58 : decode cX12_addBar 58 = .ok (.iastore, 1) := by decide +kernel
theorem dX12_addBar_59 : decode cX12_addBar 59 = .ok (.aload_n 0, 1) := by decide +kernel
theorem dX12_addBar_60 : decode cX12_addBar 60 = .ok (.getfield 19, 3) := by decide +kernel
theorem dX12_addBar_63 : decode cX12_addBar 63 = .ok (.aload_n 0, 1) := by decide +kernel
theorem dX12_addBar_64 : decode cX12_addBar 64 = .ok (.getfield 132, 3) := by decide +kernel
theorem dX12_addBar_67 : decode cX12_addBar 67 = .ok (.iconst (-1), 1) := by decide +kernel
theorem dX12_addBar_68 : decode cX12_addBar 68 = .ok (.iastore, 1) := by decide +kernel
theorem dX12_addBar_69 : decode cX12_addBar 69 = .ok (.aload_n 0, 1) := by decide +kernel
theorem dX12_addBar_70 : decode cX12_addBar 70 = .ok (.dup, 1) := by decide +kernel
theorem dX12_addBar_71 : decode cX12_addBar 71 = .ok (.getfield 132, 3) := by decide +kernel
theorem dX12_addBar_74 : decode cX12_addBar 74 = .ok (.iconst 1, 1) := by decide +kernel
theorem dX12_addBar_75 : decode cX12_addBar 75 = .ok (.iadd, 1) := by decide +kernel
theorem dX12_addBar_76 : decode cX12_addBar 76 = .ok (.putfield 132, 3) := by decide +kernel
theorem dX12_addBar_79 : decode cX12_addBar 79 = .ok (.aload_n 0, 1) := by decide +kernel
theorem dX12_addBar_80 : decode cX12_addBar 80 = .ok (.getfield 132, 3) := by decide +kernel
theorem dX12_addBar_83 : decode cX12_addBar 83 = .ok (.iconst 1, 1) := by decide +kernel
theorem dX12_addBar_84 : decode cX12_addBar 84 = .ok (.isub, 1) := by decide +kernel
theorem dX12_addBar_85 : decode cX12_addBar 85 = .ok (.ireturn, 1) := by decide +kernel
theorem dX12_setMetre_0 : decode cX12_setMetre 0 = .ok (.aload_n 0, 1) := by decide +kernel
theorem dX12_setMetre_1 : decode cX12_setMetre 1 = .ok (.iload_n 1, 1) := by decide +kernel
theorem dX12_setMetre_2 : decode cX12_setMetre 2 = .ok (.invokevirtual 143, 3) := by decide +kernel
theorem dX12_setMetre_5 : decode cX12_setMetre 5 = .ok (.istore 4, 2) := by decide +kernel
theorem dX12_setMetre_7 : decode cX12_setMetre 7 = .ok (.iload_n 2, 1) := by decide +kernel
theorem dX12_setMetre_8 : decode cX12_setMetre 8 = .ok (.iload_n 3, 1) := by decide +kernel
theorem dX12_setMetre_9 : decode cX12_setMetre 9 = .ok (.invokestatic 161, 3) := by decide +kernel
theorem dX12_setMetre_12 : decode cX12_setMetre 12 = .ok (.istore 5, 2) := by decide +kernel
theorem dX12_setMetre_14 : decode cX12_setMetre 14 = .ok (.iload 4, 2) := by decide +kernel
theorem dX12_setMetre_16 : decode cX12_setMetre 16 = .ok (.ifCond .eq 12, 3) := by decide +kernel
theorem dX12_setMetre_19 : decode cX12_setMetre 19 = .ok (.iload 5, 2) := by decide +kernel
theorem dX12_setMetre_21 : decode cX12_setMetre 21 = .ok (.ifCond .eq 7, 3) := by decide +kernel
theorem dX12_setMetre_24 : decode cX12_setMetre 24 = .ok (.iconst 1, 1) := by decide +kernel
theorem dX12_setMetre_25 : decode cX12_setMetre 25 = .ok (.goto 4, 3) := by decide +kernel
theorem dX12_setMetre_28 : decode cX12_setMetre 28 = .ok (.iconst 0, 1) := by decide +kernel
theorem dX12_setMetre_29 : decode cX12_setMetre 29 = .ok (.istore 6, 2) := by decide +kernel
theorem dX12_setMetre_31 : decode cX12_setMetre 31 = .ok (.iconst 0, 1) := by decide +kernel
theorem dX12_setMetre_32 : decode cX12_setMetre 32 = .ok (.istore 7, 2) := by decide +kernel
theorem dX12_setMetre_34 : decode cX12_setMetre 34 = .ok (.iload 7, 2) := by decide +kernel
theorem dX12_setMetre_36 : decode cX12_setMetre 36 = .ok (.iconst 4, 1) := by decide +kernel
theorem dX12_setMetre_37 : decode cX12_setMetre 37 = .ok (.if_icmp .ge 37, 3) := by decide +kernel
theorem dX12_setMetre_40 : decode cX12_setMetre 40 = .ok (.iload 6, 2) := by decide +kernel
theorem dX12_setMetre_42 : decode cX12_setMetre 42 = .ok (.ifCond .eq 32, 3) := by decide +kernel
theorem dX12_setMetre_45 : decode cX12_setMetre 45 = .ok (.aload_n 0, 1) := by decide +kernel
theorem dX12_setMetre_46 : decode cX12_setMetre 46 = .ok (.iload 7, 2) := by decide +kernel
theorem dX12_setMetre_48 : decode cX12_setMetre 48 = .ok (.iload_n 1, 1) := by decide +kernel
theorem dX12_setMetre_49 : decode cX12_setMetre 49 = .ok (.invokevirtual 169, 3) := by decide +kernel
theorem dX12_setMetre_52 : decode cX12_setMetre 52 = .ok (.bipush 96, 2) := by decide +kernel
theorem dX12_setMetre_54 : decode cX12_setMetre 54 = .ok (.iload_n 2, 1) := by decide +kernel
theorem dX12_setMetre_55 : decode cX12_setMetre 55 = .ok (.imul, 1) := by decide +kernel
theorem dX12_setMetre_56 : decode cX12_setMetre 56 = .ok (.iload_n 3, 1) := by decide +kernel
theorem dX12_setMetre_57 : decode cX12_setMetre 57 = .ok (.idiv, 1) := by decide +kernel
theorem dX12_setMetre_58 : decode cX12_setMetre 58 = .ok (.if_icmp .gt 7, 3) := by decide +kernel
theorem dX12_setMetre_61 : decode cX12_setMetre 61 = .ok (.iconst 1, 1) := by decide +kernel
theorem dX12_setMetre_62 : decode cX12_setMetre 62 = .ok (.goto 4, 3) := by decide +kernel
theorem dX12_setMetre_65 : decode cX12_setMetre 65 = .ok (.iconst 0, 1) := by decide +kernel
theorem dX12_setMetre_66 : decode cX12_setMetre 66 = .ok (.istore 6, 2) := by decide +kernel
theorem dX12_setMetre_68 : decode cX12_setMetre 68 = .ok (.iinc 7 1, 3) := by decide +kernel
theorem dX12_setMetre_71 : decode cX12_setMetre 71 = .ok (.goto (-37), 3) := by decide +kernel
theorem dX12_setMetre_74 : decode cX12_setMetre 74 = .ok (.aload_n 0, 1) := by decide +kernel
theorem dX12_setMetre_75 : decode cX12_setMetre 75 = .ok (.iload 4, 2) := by decide +kernel
theorem dX12_setMetre_77 : decode cX12_setMetre 77 = .ok (.iload 5, 2) := by decide +kernel
theorem dX12_setMetre_79 : decode cX12_setMetre 79 = .ok (.iload 6, 2) := by decide +kernel
theorem dX12_setMetre_81 : decode cX12_setMetre 81 = .ok (.invokevirtual 165, 3) := by decide +kernel
theorem dX12_setMetre_84 : decode cX12_setMetre 84 = .ok (.ifCond .ne 5, 3) := by decide +kernel
theorem dX12_setMetre_87 : decode cX12_setMetre 87 = .ok (.iconst 0, 1) := by decide +kernel
theorem dX12_setMetre_88 : decode cX12_setMetre 88 = .ok (.ireturn, 1) := by decide +kernel
theorem dX12_setMetre_89 : decode cX12_setMetre 89 = .ok (.aload_n 0, 1) := by decide +kernel
theorem dX12_setMetre_90 : decode cX12_setMetre 90 = .ok (.iload_n 1, 1) := by decide +kernel
theorem dX12_setMetre_91 : decode cX12_setMetre 91 = .ok (.invokevirtual 172, 3) := by decide +kernel
theorem dX12_setMetre_94 : decode cX12_setMetre 94 = .ok (.istore 7, 2) := by decide +kernel
theorem dX12_setMetre_96 : decode cX12_setMetre 96 = .ok (.aload_n 0, 1) := by decide +kernel
theorem dX12_setMetre_97 : decode cX12_setMetre 97 = .ok (.getfield 7, 3) := by decide +kernel
theorem dX12_setMetre_100 : decode cX12_setMetre 100 = .ok (.iload_n 1, 1) := by decide +kernel
theorem dX12_setMetre_101 : decode cX12_setMetre 101 = .ok (.iload_n 2, 1) := by decide +kernel
theorem dX12_setMetre_102 : decode cX12_setMetre 102 = .ok (.iastore, 1) := by decide +kernel
theorem dX12_setMetre_103 : decode cX12_setMetre 103 = .ok (.aload_n 0, 1) := by decide +kernel
theorem dX12_setMetre_104 : decode cX12_setMetre 104 = .ok (.getfield 13, 3) := by decide +kernel
theorem dX12_setMetre_107 : decode cX12_setMetre 107 = .ok (.iload_n 1, 1) := by decide +kernel
theorem dX12_setMetre_108 : decode cX12_setMetre 108 = .ok (.iload_n 3, 1) := by decide +kernel
theorem dX12_setMetre_109 : decode cX12_setMetre 109 = .ok (.iastore, 1) := by decide +kernel
theorem dX12_setMetre_110 : decode cX12_setMetre 110 = .ok (.iload 7, 2) := by decide +kernel
theorem dX12_setMetre_112 : decode cX12_setMetre 112 = .ok (.ireturn, 1) := by decide +kernel
theorem dX12_setTempo_0 : decode cX12_setTempo 0 = .ok (.aload_n 0, 1) := by decide +kernel
theorem dX12_setTempo_1 : decode cX12_setTempo 1 = .ok (.aload_n 0, 1) := by decide +kernel
theorem dX12_setTempo_2 : decode cX12_setTempo 2 = .ok (.iload_n 1, 1) := by decide +kernel
theorem dX12_setTempo_3 : decode cX12_setTempo 3 = .ok (.invokevirtual 143, 3) := by decide +kernel
theorem dX12_setTempo_6 : decode cX12_setTempo 6 = .ok (.iload_n 2, 1) := by decide +kernel
theorem dX12_setTempo_7 : decode cX12_setTempo 7 = .ok (.iconst (-1), 1) := by decide +kernel
theorem dX12_setTempo_8 : decode cX12_setTempo 8 = .ok (.if_icmp .eq 15, 3) := by decide +kernel
theorem dX12_setTempo_11 : decode cX12_setTempo 11 = .ok (.iload_n 2, 1) := by decide +kernel
theorem dX12_setTempo_12 : decode cX12_setTempo 12 = .ok (.bipush 30, 2) := by decide +kernel
theorem dX12_setTempo_14 : decode cX12_setTempo 14 = .ok (.sipush 240, 3) := by decide +kernel
theorem dX12_setTempo_17 : decode cX12_setTempo 17 = .ok (.invokestatic 135, 3) := by decide +kernel
theorem dX12_setTempo_20 : decode cX12_setTempo 20 = .ok (.ifCond .eq 7, 3) := by decide +kernel
theorem dX12_setTempo_23 : decode cX12_setTempo 23 = .ok (.iconst 1, 1) := by decide +kernel
theorem dX12_setTempo_24 : decode cX12_setTempo 24 = .ok (.goto 4, 3) := by decide +kernel
theorem dX12_setTempo_27 : decode cX12_setTempo 27 = .ok (.iconst 0, 1) := by decide +kernel
theorem dX12_setTempo_28 : decode cX12_setTempo 28 = .ok (.iconst 1, 1) := by decide +kernel
theorem dX12_setTempo_29 : decode cX12_setTempo 29 = .ok (.invokevirtual 165, 3) := by decide +kernel
theorem dX12_setTempo_32 : decode cX12_setTempo 32 = .ok (.ifCond .ne 5, 3) := by decide +kernel
theorem dX12_setTempo_35 : decode cX12_setTempo 35 = .ok (.iconst 0, 1) := by decide +kernel
theorem dX12_setTempo_36 : decode cX12_setTempo 36 = .ok (.ireturn, 1) := by decide +kernel
theorem dX12_setTempo_37 : decode cX12_setTempo 37 = .ok (.aload_n 0, 1) := by decide +kernel
theorem dX12_setTempo_38 : decode cX12_setTempo 38 = .ok (.getfield 16, 3) := by decide +kernel
theorem dX12_setTempo_41 : decode cX12_setTempo 41 = .ok (.iload_n 1, 1) := by decide +kernel
theorem dX12_setTempo_42 : decode cX12_setTempo 42 = .ok (.iaload, 1) := by decide +kernel
theorem dX12_setTempo_43 : decode cX12_setTempo 43 = .ok (.istore_n 3, 1) := by decide +kernel
theorem dX12_setTempo_44 : decode cX12_setTempo 44 = .ok (.aload_n 0, 1) := by decide +kernel
theorem dX12_setTempo_45 : decode cX12_setTempo 45 = .ok (.getfield 16, 3) := by decide +kernel
theorem dX12_setTempo_48 : decode cX12_setTempo 48 = .ok (.iload_n 1, 1) := by decide +kernel
theorem dX12_setTempo_49 : decode cX12_setTempo 49 = .ok (.iload_n 2, 1) := by decide +kernel
theorem dX12_setTempo_50 : decode cX12_setTempo 50 = .ok (.iastore, 1) := by decide +kernel
theorem dX12_setTempo_51 : decode cX12_setTempo 51 = .ok (.iload_n 3, 1) := by decide +kernel
theorem dX12_setTempo_52 : decode cX12_setTempo 52 = .ok (.ireturn, 1) := by decide +kernel
theorem dX12_bars_0 : decode cX12_bars 0 = .ok (.aload_n 0, 1) := by decide +kernel
theorem dX12_bars_1 : decode cX12_bars 1 = .ok (.aload_n 0, 1) := by decide +kernel
theorem dX12_bars_2 : decode cX12_bars 2 = .ok (.getfield 132, 3) := by decide +kernel
theorem dX12_bars_5 : decode cX12_bars 5 = .ok (.invokevirtual 175, 3) := by decide +kernel
theorem dX12_bars_8 : decode cX12_bars 8 = .ok (.ireturn, 1) := by decide +kernel
theorem dX12_length_0 : decode cX12_length 0 = .ok (.aload_n 0, 1) := by decide +kernel
theorem dX12_length_1 : decode cX12_length 1 = .ok (.aload_n 0, 1) := by decide +kernel
theorem dX12_length_2 : decode cX12_length 2 = .ok (.iload_n 1, 1) := by decide +kernel
theorem dX12_length_3 : decode cX12_length 3 = .ok (.invokevirtual 143, 3) := by decide +kernel
theorem dX12_length_6 : decode cX12_length 6 = .ok (.iconst 1, 1) := by decide +kernel
theorem dX12_length_7 : decode cX12_length 7 = .ok (.iconst 1, 1) := by decide +kernel
theorem dX12_length_8 : decode cX12_length 8 = .ok (.invokevirtual 165, 3) := by decide +kernel
theorem dX12_length_11 : decode cX12_length 11 = .ok (.ifCond .eq 11, 3) := by decide +kernel
theorem dX12_length_14 : decode cX12_length 14 = .ok (.aload_n 0, 1) := by decide +kernel
theorem dX12_length_15 : decode cX12_length 15 = .ok (.iload_n 1, 1) := by decide +kernel
theorem dX12_length_16 : decode cX12_length 16 = .ok (.invokevirtual 172, 3) := by decide +kernel
theorem dX12_length_19 : decode cX12_length 19 = .ok (.goto 4, 3) := by decide +kernel
theorem dX12_length_22 : decode cX12_length 22 = .ok (.iconst 0, 1) := by decide +kernel
theorem dX12_length_23 : decode cX12_length 23 = .ok (.ireturn, 1) := by decide +kernel
theorem dX12_tempo_0 : decode cX12_tempo 0 = .ok (.aload_n 0, 1) := by decide +kernel
theorem dX12_tempo_1 : decode cX12_tempo 1 = .ok (.aload_n 0, 1) := by decide +kernel
theorem dX12_tempo_2 : decode cX12_tempo 2 = .ok (.iload_n 1, 1) := by decide +kernel
theorem dX12_tempo_3 : decode cX12_tempo 3 = .ok (.invokevirtual 143, 3) := by decide +kernel
theorem dX12_tempo_6 : decode cX12_tempo 6 = .ok (.iconst 1, 1) := by decide +kernel
theorem dX12_tempo_7 : decode cX12_tempo 7 = .ok (.iconst 1, 1) := by decide +kernel
theorem dX12_tempo_8 : decode cX12_tempo 8 = .ok (.invokevirtual 165, 3) := by decide +kernel
theorem dX12_tempo_11 : decode cX12_tempo 11 = .ok (.ifCond .eq 11, 3) := by decide +kernel
theorem dX12_tempo_14 : decode cX12_tempo 14 = .ok (.aload_n 0, 1) := by decide +kernel
theorem dX12_tempo_15 : decode cX12_tempo 15 = .ok (.iload_n 1, 1) := by decide +kernel
theorem dX12_tempo_16 : decode cX12_tempo 16 = .ok (.invokevirtual 147, 3) := by decide +kernel
theorem dX12_tempo_19 : decode cX12_tempo 19 = .ok (.goto 4, 3) := by decide +kernel
theorem dX12_tempo_22 : decode cX12_tempo 22 = .ok (.iconst 0, 1) := by decide +kernel
theorem dX12_tempo_23 : decode cX12_tempo 23 = .ok (.ireturn, 1) := by decide +kernel
theorem dX12_time_0 : decode cX12_time 0 = .ok (.aload_n 0, 1) := by decide +kernel
theorem dX12_time_1 : decode cX12_time 1 = .ok (.aload_n 0, 1) := by decide +kernel
theorem dX12_time_2 : decode cX12_time 2 = .ok (.iload_n 1, 1) := by decide +kernel
theorem dX12_time_3 : decode cX12_time 3 = .ok (.invokevirtual 143, 3) := by decide +kernel
theorem dX12_time_6 : decode cX12_time 6 = .ok (.iconst 1, 1) := by decide +kernel
theorem dX12_time_7 : decode cX12_time 7 = .ok (.iconst 1, 1) := by decide +kernel
theorem dX12_time_8 : decode cX12_time 8 = .ok (.invokevirtual 165, 3) := by decide +kernel
theorem dX12_time_11 : decode cX12_time 11 = .ok (.ifCond .eq 16, 3) := by decide +kernel
theorem dX12_time_14 : decode cX12_time 14 = .ok (.aload_n 0, 1) := by decide +kernel
theorem dX12_time_15 : decode cX12_time 15 = .ok (.iload_n 1, 1) := by decide +kernel
theorem dX12_time_16 : decode cX12_time 16 = .ok (.aload_n 0, 1) := by decide +kernel
theorem dX12_time_17 : decode cX12_time 17 = .ok (.iload_n 1, 1) := by decide +kernel
theorem dX12_time_18 : decode cX12_time 18 = .ok (.invokevirtual 172, 3) := by decide +kernel
theorem dX12_time_21 : decode cX12_time 21 = .ok (.invokevirtual 178, 3) := by decide +kernel
theorem dX12_time_24 : decode cX12_time 24 = .ok (.goto 4, 3) := by decide +kernel
theorem dX12_time_27 : decode cX12_time 27 = .ok (.iconst 0, 1) := by decide +kernel
theorem dX12_time_28 : decode cX12_time 28 = .ok (.ireturn, 1) := by decide +kernel
theorem dX12_isWritten_0 : decode cX12_isWritten 0 = .ok (.iload_n 2, 1) := by decide +kernel
theorem dX12_isWritten_1 : decode cX12_isWritten 1 = .ok (.ifCond .eq 15, 3) := by decide +kernel
theorem dX12_isWritten_4 : decode cX12_isWritten 4 = .ok (.iload_n 2, 1) := by decide +kernel
theorem dX12_isWritten_5 : decode cX12_isWritten 5 = .ok (.iload_n 3, 1) := by decide +kernel
theorem dX12_isWritten_6 : decode cX12_isWritten 6 = .ok (.iadd, 1) := by decide +kernel
theorem dX12_isWritten_7 : decode cX12_isWritten 7 = .ok (.iconst 1, 1) := by decide +kernel
theorem dX12_isWritten_8 : decode cX12_isWritten 8 = .ok (.bipush 127, 2) := by decide +kernel
theorem dX12_isWritten_10 : decode cX12_isWritten 10 = .ok (.invokestatic 135, 3) := by decide +kernel
theorem dX12_isWritten_13 : decode cX12_isWritten 13 = .ok (.ifCond .eq 7, 3) := by decide +kernel
theorem dX12_isWritten_16 : decode cX12_isWritten 16 = .ok (.iconst 1, 1) := by decide +kernel
theorem dX12_isWritten_17 : decode cX12_isWritten 17 = .ok (.goto 4, 3) := by decide +kernel
theorem dX12_isWritten_20 : decode cX12_isWritten 20 = .ok (.iconst 0, 1) := by decide +kernel
theorem dX12_isWritten_21 : decode cX12_isWritten 21 = .ok (.ireturn, 1) := by decide +kernel
theorem dX12_copies_0 : decode cX12_copies 0 = .ok (.aload_n 0, 1) := by decide +kernel
theorem dX12_copies_1 : decode cX12_copies 1 = .ok (.getfield 32, 3) := by decide +kernel
theorem dX12_copies_4 : decode cX12_copies 4 = .ok (.iload_n 2, 1) := by decide +kernel
theorem dX12_copies_5 : decode cX12_copies 5 = .ok (.aload_n 0, 1) := by decide +kernel
theorem dX12_copies_6 : decode cX12_copies 6 = .ok (.getfield 32, 3) := by decide +kernel
theorem dX12_copies_9 : decode cX12_copies 9 = .ok (.iload_n 1, 1) := by decide +kernel
theorem dX12_copies_10 : decode cX12_copies 10 = .ok (.iaload, 1) := by decide +kernel
theorem dX12_copies_11 : decode cX12_copies 11 = .ok (.iastore, 1) := by decide +kernel
theorem dX12_copies_12 : decode cX12_copies 12 = .ok (.aload_n 0, 1) := by decide +kernel
theorem dX12_copies_13 : decode cX12_copies 13 = .ok (.getfield 35, 3) := by decide +kernel
theorem dX12_copies_16 : decode cX12_copies 16 = .ok (.iload_n 2, 1) := by decide +kernel
theorem dX12_copies_17 : decode cX12_copies 17 = .ok (.aload_n 0, 1) := by decide +kernel
theorem dX12_copies_18 : decode cX12_copies 18 = .ok (.getfield 35, 3) := by decide +kernel
theorem dX12_copies_21 : decode cX12_copies 21 = .ok (.iload_n 1, 1) := by decide +kernel
theorem dX12_copies_22 : decode cX12_copies 22 = .ok (.iaload, 1) := by decide +kernel
theorem dX12_copies_23 : decode cX12_copies 23 = .ok (.iastore, 1) := by decide +kernel
theorem dX12_copies_24 : decode cX12_copies 24 = .ok (.aload_n 0, 1) := by decide +kernel
theorem dX12_copies_25 : decode cX12_copies 25 = .ok (.getfield 38, 3) := by decide +kernel
theorem dX12_copies_28 : decode cX12_copies 28 = .ok (.iload_n 2, 1) := by decide +kernel
theorem dX12_copies_29 : decode cX12_copies 29 = .ok (.aload_n 0, 1) := by decide +kernel
theorem dX12_copies_30 : decode cX12_copies 30 = .ok (.getfield 38, 3) := by decide +kernel
theorem dX12_copies_33 : decode cX12_copies 33 = .ok (.iload_n 1, 1) := by decide +kernel
theorem dX12_copies_34 : decode cX12_copies 34 = .ok (.iaload, 1) := by decide +kernel
theorem dX12_copies_35 : decode cX12_copies 35 = .ok (.iastore, 1) := by decide +kernel
theorem dX12_copies_36 : decode cX12_copies 36 = .ok (.aload_n 0, 1) := by decide +kernel
theorem dX12_copies_37 : decode cX12_copies 37 = .ok (.getfield 41, 3) := by decide +kernel
theorem dX12_copies_40 : decode cX12_copies 40 = .ok (.iload_n 2, 1) := by decide +kernel
theorem dX12_copies_41 : decode cX12_copies 41 = .ok (.aload_n 0, 1) := by decide +kernel
theorem dX12_copies_42 : decode cX12_copies 42 = .ok (.getfield 41, 3) := by decide +kernel
theorem dX12_copies_45 : decode cX12_copies 45 = .ok (.iload_n 1, 1) := by decide +kernel
theorem dX12_copies_46 : decode cX12_copies 46 = .ok (.iaload, 1) := by decide +kernel
theorem dX12_copies_47 : decode cX12_copies 47 = .ok (.iastore, 1) := by decide +kernel
theorem dX12_copies_48 : decode cX12_copies 48 = .ok (.aload_n 0, 1) := by decide +kernel
theorem dX12_copies_49 : decode cX12_copies 49 = .ok (.getfield 44, 3) := by decide +kernel
theorem dX12_copies_52 : decode cX12_copies 52 = .ok (.iload_n 2, 1) := by decide +kernel
theorem dX12_copies_53 : decode cX12_copies 53 = .ok (.aload_n 0, 1) := by decide +kernel
theorem dX12_copies_54 : decode cX12_copies 54 = .ok (.getfield 44, 3) := by decide +kernel
theorem dX12_copies_57 : decode cX12_copies 57 = .ok (.iload_n 1, 1) := by decide +kernel
theorem dX12_copies_58 : decode cX12_copies 58 = .ok (.baload, 1) := by decide +kernel
theorem dX12_copies_59 : decode cX12_copies 59 = .ok (.bastore, 1) := by decide +kernel
theorem dX12_copies_60 : decode cX12_copies 60 = .ok (.return_, 1) := by decide +kernel
theorem dX12_moves_0 : decode cX12_moves 0 = .ok (.iconst 0, 1) := by decide +kernel
theorem dX12_moves_1 : decode cX12_moves 1 = .ok (.istore 5, 2) := by decide +kernel
theorem dX12_moves_3 : decode cX12_moves 3 = .ok (.iload 5, 2) := by decide +kernel
theorem dX12_moves_5 : decode cX12_moves 5 = .ok (.aload_n 0, 1) := by decide +kernel
theorem dX12_moves_6 : decode cX12_moves 6 = .ok (.getfield 181, 3) := by decide +kernel
theorem dX12_moves_9 : decode cX12_moves 9 = .ok (.if_icmp .ge 107, 3) := by decide +kernel
theorem dX12_moves_12 : decode cX12_moves 12 = .ok (.aload_n 0, 1) := by decide +kernel
theorem dX12_moves_13 : decode cX12_moves 13 = .ok (.getfield 56, 3) := by decide +kernel
theorem dX12_moves_16 : decode cX12_moves 16 = .ok (.iload 5, 2) := by decide +kernel
theorem dX12_moves_18 : decode cX12_moves 18 = .ok (.dup2, 1) := by decide +kernel
theorem dX12_moves_19 : decode cX12_moves 19 = .ok (.iaload, 1) := by decide +kernel
theorem dX12_moves_20 : decode cX12_moves 20 = .ok (.aload_n 0, 1) := by decide +kernel
theorem dX12_moves_21 : decode cX12_moves 21 = .ok (.getfield 50, 3) := by decide +kernel
theorem dX12_moves_24 : decode cX12_moves 24 = .ok (.iload 5, 2) := by decide +kernel
theorem dX12_moves_26 : decode cX12_moves 26 = .ok (.iaload, 1) := by decide +kernel
theorem dX12_moves_27 : decode cX12_moves 27 = .ok (.iload_n 1, 1) := by decide +kernel
theorem dX12_moves_28 : decode cX12_moves 28 = .ok (.if_icmp .ne 30, 3) := by decide +kernel
theorem dX12_moves_31 : decode cX12_moves 31 = .ok (.aload_n 0, 1) := by decide +kernel
theorem dX12_moves_32 : decode cX12_moves 32 = .ok (.getfield 53, 3) := by decide +kernel
theorem dX12_moves_35 : decode cX12_moves 35 = .ok (.iload 5, 2) := by decide +kernel
theorem dX12_moves_37 : decode cX12_moves 37 = .ok (.iaload, 1) := by decide +kernel
theorem dX12_moves_38 : decode cX12_moves 38 = .ok (.iload_n 2, 1) := by decide +kernel
theorem dX12_moves_39 : decode cX12_moves 39 = .ok (.if_icmp .ne 19, 3) := by decide +kernel
theorem dX12_moves_42 : decode cX12_moves 42 = .ok (.aload_n 0, 1) := by decide +kernel
theorem dX12_moves_43 : decode cX12_moves 43 = .ok (.getfield 56, 3) := by decide +kernel
theorem dX12_moves_46 : decode cX12_moves 46 = .ok (.iload 5, 2) := by decide +kernel
theorem dX12_moves_48 : decode cX12_moves 48 = .ok (.iaload, 1) := by decide +kernel
theorem dX12_moves_49 : decode cX12_moves 49 = .ok (.iload_n 3, 1) := by decide +kernel
theorem dX12_moves_50 : decode cX12_moves 50 = .ok (.if_icmp .lt 8, 3) := by decide +kernel
theorem dX12_moves_53 : decode cX12_moves 53 = .ok (.iload 4, 2) := by decide +kernel
theorem dX12_moves_55 : decode cX12_moves 55 = .ok (.goto 4, 3) := by decide +kernel
theorem dX12_moves_58 : decode cX12_moves 58 = .ok (.iconst 0, 1) := by decide +kernel
theorem dX12_moves_59 : decode cX12_moves 59 = .ok (.iadd, 1) := by decide +kernel
theorem dX12_moves_60 : decode cX12_moves 60 = .ok (.iastore, 1) := by decide +kernel
theorem dX12_moves_61 : decode cX12_moves 61 = .ok (.aload_n 0, 1) := by decide +kernel
theorem dX12_moves_62 : decode cX12_moves 62 = .ok (.getfield 62, 3) := by decide +kernel
theorem dX12_moves_65 : decode cX12_moves 65 = .ok (.iload 5, 2) := by decide +kernel
theorem dX12_moves_67 : decode cX12_moves 67 = .ok (.dup2, 1) := by decide +kernel
theorem dX12_moves_68 : decode cX12_moves 68 = .ok (.iaload, 1) := by decide +kernel
theorem dX12_moves_69 : decode cX12_moves 69 = .ok (.aload_n 0, 1) := by decide +kernel
theorem dX12_moves_70 : decode cX12_moves 70 = .ok (.getfield 50, 3) := by decide +kernel
theorem dX12_moves_73 : decode cX12_moves 73 = .ok (.iload 5, 2) := by decide +kernel
theorem dX12_moves_75 : decode cX12_moves 75 = .ok (.iaload, 1) := by decide +kernel
theorem dX12_moves_76 : decode cX12_moves 76 = .ok (.iload_n 1, 1) := by decide +kernel
theorem dX12_moves_77 : decode cX12_moves 77 = .ok (.if_icmp .ne 30, 3) := by decide +kernel
theorem dX12_moves_80 : decode cX12_moves 80 = .ok (.aload_n 0, 1) := by decide +kernel
theorem dX12_moves_81 : decode cX12_moves 81 = .ok (.getfield 59, 3) := by decide +kernel
theorem dX12_moves_84 : decode cX12_moves 84 = .ok (.iload 5, 2) := by decide +kernel
theorem dX12_moves_86 : decode cX12_moves 86 = .ok (.iaload, 1) := by decide +kernel
theorem dX12_moves_87 : decode cX12_moves 87 = .ok (.iload_n 2, 1) := by decide +kernel
theorem dX12_moves_88 : decode cX12_moves 88 = .ok (.if_icmp .ne 19, 3) := by decide +kernel
theorem dX12_moves_91 : decode cX12_moves 91 = .ok (.aload_n 0, 1) := by decide +kernel
theorem dX12_moves_92 : decode cX12_moves 92 = .ok (.getfield 62, 3) := by decide +kernel
theorem dX12_moves_95 : decode cX12_moves 95 = .ok (.iload 5, 2) := by decide +kernel
theorem dX12_moves_97 : decode cX12_moves 97 = .ok (.iaload, 1) := by decide +kernel
theorem dX12_moves_98 : decode cX12_moves 98 = .ok (.iload_n 3, 1) := by decide +kernel
theorem dX12_moves_99 : decode cX12_moves 99 = .ok (.if_icmp .lt 8, 3) := by decide +kernel
theorem dX12_moves_102 : decode cX12_moves 102 = .ok (.iload 4, 2) := by decide +kernel
theorem dX12_moves_104 : decode cX12_moves 104 = .ok (.goto 4, 3) := by decide +kernel
theorem dX12_moves_107 : decode cX12_moves 107 = .ok (.iconst 0, 1) := by decide +kernel
theorem dX12_moves_108 : decode cX12_moves 108 = .ok (.iadd, 1) := by decide +kernel
theorem dX12_moves_109 : decode cX12_moves 109 = .ok (.iastore, 1) := by decide +kernel
theorem dX12_moves_110 : decode cX12_moves 110 = .ok (.iinc 5 1, 3) := by decide +kernel
theorem dX12_moves_113 : decode cX12_moves 113 = .ok (.goto (-110), 3) := by decide +kernel
theorem dX12_moves_116 : decode cX12_moves 116 = .ok (.return_, 1) := by decide +kernel
theorem dX12_insert_0 : decode cX12_insert 0 = .ok (.iload_n 1, 1) := by decide +kernel
theorem dX12_insert_1 : decode cX12_insert 1 = .ok (.invokestatic 184, 3) := by decide +kernel
theorem dX12_insert_4 : decode cX12_insert 4 = .ok (.ifCond .eq 50, 3) := by decide +kernel
theorem dX12_insert_7 : decode cX12_insert 7 = .ok (.iload 4, 2) := by decide +kernel
theorem dX12_insert_9 : decode cX12_insert 9 = .ok (.iconst 0, 1) := by decide +kernel
theorem dX12_insert_10 : decode cX12_insert 10 = .ok (.bipush 127, 2) := by decide +kernel
theorem dX12_insert_12 : decode cX12_insert 12 = .ok (.invokestatic 135, 3) := by decide +kernel
theorem dX12_insert_15 : decode cX12_insert 15 = .ok (.ifCond .eq 39, 3) := by decide +kernel
theorem dX12_insert_18 : decode cX12_insert 18 = .ok (.iload 5, 2) := by decide +kernel
theorem dX12_insert_20 : decode cX12_insert 20 = .ok (.iconst 0, 1) := by decide +kernel
theorem dX12_insert_21 : decode cX12_insert 21 = .ok (.iconst 5, 1) := by decide +kernel
theorem dX12_insert_22 : decode cX12_insert 22 = .ok (.invokestatic 135, 3) := by decide +kernel
theorem dX12_insert_25 : decode cX12_insert 25 = .ok (.ifCond .eq 29, 3) := by decide +kernel
theorem dX12_insert_28 : decode cX12_insert 28 = .ok (.iload 6, 2) := by decide +kernel
theorem dX12_insert_30 : decode cX12_insert 30 = .ok (.iconst 0, 1) := by decide +kernel
theorem dX12_insert_31 : decode cX12_insert 31 = .ok (.iconst 2, 1) := by decide +kernel
theorem dX12_insert_32 : decode cX12_insert 32 = .ok (.invokestatic 135, 3) := by decide +kernel
theorem dX12_insert_35 : decode cX12_insert 35 = .ok (.ifCond .eq 19, 3) := by decide +kernel
theorem dX12_insert_38 : decode cX12_insert 38 = .ok (.iload 5, 2) := by decide +kernel
theorem dX12_insert_40 : decode cX12_insert 40 = .ok (.iconst 5, 1) := by decide +kernel
theorem dX12_insert_41 : decode cX12_insert 41 = .ok (.if_icmp .ne 9, 3) := by decide +kernel
theorem dX12_insert_44 : decode cX12_insert 44 = .ok (.iload 6, 2) := by decide +kernel
theorem dX12_insert_46 : decode cX12_insert 46 = .ok (.iconst 1, 1) := by decide +kernel
theorem dX12_insert_47 : decode cX12_insert 47 = .ok (.if_icmp .eq 7, 3) := by decide +kernel
theorem dX12_insert_50 : decode cX12_insert 50 = .ok (.iconst 1, 1) := by decide +kernel
theorem dX12_insert_51 : decode cX12_insert 51 = .ok (.goto 4, 3) := by decide +kernel
theorem dX12_insert_54 : decode cX12_insert 54 = .ok (.iconst 0, 1) := by decide +kernel
theorem dX12_insert_55 : decode cX12_insert 55 = .ok (.istore 7, 2) := by decide +kernel
theorem dX12_insert_57 : decode cX12_insert 57 = .ok (.iload 7, 2) := by decide +kernel
theorem dX12_insert_59 : decode cX12_insert 59 = .ok (.ifCond .eq 33, 3) := by decide +kernel
theorem dX12_insert_62 : decode cX12_insert 62 = .ok (.aload_n 0, 1) := by decide +kernel
theorem dX12_insert_63 : decode cX12_insert 63 = .ok (.iload_n 2, 1) := by decide +kernel
theorem dX12_insert_64 : decode cX12_insert 64 = .ok (.invokevirtual 143, 3) := by decide +kernel
theorem dX12_insert_67 : decode cX12_insert 67 = .ok (.ifCond .eq 25, 3) := by decide +kernel
theorem dX12_insert_70 : decode cX12_insert 70 = .ok (.iload_n 3, 1) := by decide +kernel
theorem dX12_insert_71 : decode cX12_insert 71 = .ok (.iconst 0, 1) := by decide +kernel
theorem dX12_insert_72 : decode cX12_insert 72 = .ok (.aload_n 0, 1) := by decide +kernel
theorem dX12_insert_73 : decode cX12_insert 73 = .ok (.getfield 25, 3) := by decide +kernel
theorem dX12_insert_76 : decode cX12_insert 76 = .ok (.iload_n 1, 1) := by decide +kernel
theorem dX12_insert_77 : decode cX12_insert 77 = .ok (.iload_n 2, 1) := by decide +kernel
theorem dX12_insert_78 : decode cX12_insert 78 = .ok (.invokestatic 139, 3) := by decide +kernel
theorem dX12_insert_81 : decode cX12_insert 81 = .ok (.iaload, 1) := by decide +kernel
theorem dX12_insert_82 : decode cX12_insert 82 = .ok (.invokestatic 135, 3) := by decide +kernel
theorem dX12_insert_85 : decode cX12_insert 85 = .ok (.ifCond .eq 7, 3) := by decide +kernel
theorem dX12_insert_88 : decode cX12_insert 88 = .ok (.iconst 1, 1) := by decide +kernel
theorem dX12_insert_89 : decode cX12_insert 89 = .ok (.goto 4, 3) := by decide +kernel
theorem dX12_insert_92 : decode cX12_insert 92 = .ok (.iconst 0, 1) := by decide +kernel
theorem dX12_insert_93 : decode cX12_insert 93 = .ok (.istore 8, 2) := by decide +kernel
theorem dX12_insert_95 : decode cX12_insert 95 = .ok (.iload 7, 2) := by decide +kernel
theorem dX12_insert_97 : decode cX12_insert 97 = .ok (.ifCond .eq 11, 3) := by decide +kernel
theorem dX12_insert_100 : decode cX12_insert 100 = .ok (.bipush 96, 2) := by decide +kernel
theorem dX12_insert_102 : decode cX12_insert 102 = .ok (.iload 5, 2) := by decide +kernel
theorem dX12_insert_104 : decode cX12_insert 104 = .ok (.ishr, 1) := by decide +kernel
theorem dX12_insert_105 : decode cX12_insert 105 = .ok (.goto 4, 3) := by decide +kernel
theorem dX12_insert_108 : decode cX12_insert 108 = .ok (.iconst 0, 1) := by decide +kernel
theorem dX12_insert_109 : decode cX12_insert 109 = .ok (.istore 9, 2) := by decide +kernel
theorem dX12_insert_111 : decode cX12_insert 111 = .ok (.iload 6, 2) := by decide +kernel
theorem dX12_insert_113 : decode cX12_insert 113 = .ok (.iconst 1, 1) := by decide +kernel
theorem dX12_insert_114 : decode cX12_insert 114 = .ok (.if_icmp .ne 12, 3) := by decide +kernel
theorem dX12_insert_117 : decode cX12_insert 117 = .ok (.iload 9, 2) := by decide +kernel
theorem dX12_insert_119 : decode cX12_insert 119 = .ok (.iconst 3, 1) := by decide +kernel
theorem dX12_insert_120 : decode cX12_insert 120 = .ok (.imul, 1) := by decide +kernel
theorem dX12_insert_121 : decode cX12_insert 121 = .ok (.iconst 2, 1) := by decide +kernel
theorem dX12_insert_122 : decode cX12_insert 122 = .ok (.idiv, 1) := by decide +kernel
theorem dX12_insert_123 : decode cX12_insert 123 = .ok (.goto 20, 3) := by decide +kernel
theorem dX12_insert_126 : decode cX12_insert 126 = .ok (.iload 6, 2) := by decide +kernel
theorem dX12_insert_128 : decode cX12_insert 128 = .ok (.iconst 2, 1) := by decide +kernel
theorem dX12_insert_129 : decode cX12_insert 129 = .ok (.if_icmp .ne 12, 3) := by decide +kernel
theorem dX12_insert_132 : decode cX12_insert 132 = .ok (.iload 9, 2) := by decide +kernel
theorem dX12_insert_134 : decode cX12_insert 134 = .ok (.iconst 2, 1) := by decide +kernel
theorem dX12_insert_135 : decode cX12_insert 135 = .ok (.imul, 1) := by decide +kernel
theorem dX12_insert_136 : decode cX12_insert 136 = .ok (.iconst 3, 1) := by decide +kernel
theorem dX12_insert_137 : decode cX12_insert 137 = .ok (.idiv, 1) := by decide +kernel
theorem dX12_insert_138 : decode cX12_insert 138 = .ok (.goto 5, 3) := by decide +kernel
theorem dX12_insert_141 : decode cX12_insert 141 = .ok (.iload 9, 2) := by decide +kernel
theorem dX12_insert_143 : decode cX12_insert 143 = .ok (.istore 10, 2) := by decide +kernel
theorem dX12_insert_145 : decode cX12_insert 145 = .ok (.iload 8, 2) := by decide +kernel
theorem dX12_insert_147 : decode cX12_insert 147 = .ok (.ifCond .eq 55, 3) := by decide +kernel
theorem dX12_insert_150 : decode cX12_insert 150 = .ok (.aload_n 0, 1) := by decide +kernel
theorem dX12_insert_151 : decode cX12_insert 151 = .ok (.getfield 25, 3) := by decide +kernel
theorem dX12_insert_154 : decode cX12_insert 154 = .ok (.iload_n 1, 1) := by decide +kernel
theorem dX12_insert_155 : decode cX12_insert 155 = .ok (.iload_n 2, 1) := by decide +kernel
theorem dX12_insert_156 : decode cX12_insert 156 = .ok (.invokestatic 139, 3) := by decide +kernel
theorem dX12_insert_159 : decode cX12_insert 159 = .ok (.iaload, 1) := by decide +kernel
theorem dX12_insert_160 : decode cX12_insert 160 = .ok (.bipush 16, 2) := by decide +kernel
theorem dX12_insert_162 : decode cX12_insert 162 = .ok (.if_icmp .ge 40, 3) := by decide +kernel
theorem dX12_insert_165 : decode cX12_insert 165 = .ok (.aload_n 0, 1) := by decide +kernel
theorem dX12_insert_166 : decode cX12_insert 166 = .ok (.iload_n 1, 1) := by decide +kernel
theorem dX12_insert_167 : decode cX12_insert 167 = .ok (.iload_n 2, 1) := by decide +kernel
theorem dX12_insert_168 : decode cX12_insert 168 = .ok (.invokevirtual 169, 3) := by decide +kernel
theorem dX12_insert_171 : decode cX12_insert 171 = .ok (.iload 10, 2) := by decide +kernel
theorem dX12_insert_173 : decode cX12_insert 173 = .ok (.iadd, 1) := by decide +kernel
theorem dX12_insert_174 : decode cX12_insert 174 = .ok (.aload_n 0, 1) := by decide +kernel
theorem dX12_insert_175 : decode cX12_insert 175 = .ok (.iload_n 2, 1) := by decide +kernel
theorem dX12_insert_176 : decode cX12_insert 176 = .ok (.invokevirtual 172, 3) := by decide +kernel
theorem dX12_insert_179 : decode cX12_insert 179 = .ok (.if_icmp .gt 23, 3) := by decide +kernel
theorem dX12_insert_182 : decode cX12_insert 182 = .ok (.aload_n 0, 1) := by decide +kernel
theorem dX12_insert_183 : decode cX12_insert 183 = .ok (.iload_n 1, 1) := by decide +kernel
theorem dX12_insert_184 : decode cX12_insert 184 = .ok (.iload 4, 2) := by decide +kernel
theorem dX12_insert_186 : decode cX12_insert 186 = .ok (.aload_n 0, 1) := by decide +kernel
theorem dX12_insert_187 : decode cX12_insert 187 = .ok (.getfield 47, 3) := by decide +kernel
theorem dX12_insert_190 : decode cX12_insert 190 = .ok (.iload_n 1, 1) := by decide +kernel
theorem dX12_insert_191 : decode cX12_insert 191 = .ok (.iaload, 1) := by decide +kernel
theorem dX12_insert_192 : decode cX12_insert 192 = .ok (.invokevirtual 187, 3) := by decide +kernel
theorem dX12_insert_195 : decode cX12_insert 195 = .ok (.ifCond .eq 7, 3) := by decide +kernel
theorem dX12_insert_198 : decode cX12_insert 198 = .ok (.iconst 1, 1) := by decide +kernel
theorem dX12_insert_199 : decode cX12_insert 199 = .ok (.goto 4, 3) := by decide +kernel
theorem dX12_insert_202 : decode cX12_insert 202 = .ok (.iconst 0, 1) := by decide +kernel
theorem dX12_insert_203 : decode cX12_insert 203 = .ok (.istore 11, 2) := by decide +kernel
theorem dX12_insert_205 : decode cX12_insert 205 = .ok (.aload_n 0, 1) := by decide +kernel
theorem dX12_insert_206 : decode cX12_insert 206 = .ok (.iload 7, 2) := by decide +kernel
theorem dX12_insert_208 : decode cX12_insert 208 = .ok (.iload 8, 2) := by decide +kernel
theorem dX12_insert_210 : decode cX12_insert 210 = .ok (.iload 11, 2) := by decide +kernel
theorem dX12_insert_212 : decode cX12_insert 212 = .ok (.invokevirtual 165, 3) := by decide +kernel
theorem dX12_insert_215 : decode cX12_insert 215 = .ok (.ifCond .ne 5, 3) := by decide +kernel
theorem dX12_insert_218 : decode cX12_insert 218 = .ok (.iconst 0, 1) := by decide +kernel
theorem dX12_insert_219 : decode cX12_insert 219 = .ok (.ireturn, 1) := by decide +kernel
theorem dX12_insert_220 : decode cX12_insert 220 = .ok (.aload_n 0, 1) := by decide +kernel
theorem dX12_insert_221 : decode cX12_insert 221 = .ok (.getfield 25, 3) := by decide +kernel
theorem dX12_insert_224 : decode cX12_insert 224 = .ok (.iload_n 1, 1) := by decide +kernel
theorem dX12_insert_225 : decode cX12_insert 225 = .ok (.iload_n 2, 1) := by decide +kernel
theorem dX12_insert_226 : decode cX12_insert 226 = .ok (.invokestatic 139, 3) := by decide +kernel
theorem dX12_insert_229 : decode cX12_insert 229 = .ok (.iaload, 1) := by decide +kernel
theorem dX12_insert_230 : decode cX12_insert 230 = .ok (.istore 12, 2) := by decide +kernel
theorem dX12_insert_232 : decode cX12_insert 232 = .ok (.iload 12, 2) := by decide +kernel
theorem dX12_insert_234 : decode cX12_insert 234 = .ok (.iload_n 3, 1) := by decide +kernel
theorem dX12_insert_235 : decode cX12_insert 235 = .ok (.if_icmp .le 29, 3) := by decide +kernel
theorem dX12_insert_238 : decode cX12_insert 238 = .ok (.aload_n 0, 1) := by decide +kernel
theorem dX12_insert_239 : decode cX12_insert 239 = .ok (.iload_n 1, 1) := by decide +kernel
theorem dX12_insert_240 : decode cX12_insert 240 = .ok (.iload_n 2, 1) := by decide +kernel
theorem dX12_insert_241 : decode cX12_insert 241 = .ok (.iload 12, 2) := by decide +kernel
theorem dX12_insert_243 : decode cX12_insert 243 = .ok (.iconst 1, 1) := by decide +kernel
theorem dX12_insert_244 : decode cX12_insert 244 = .ok (.isub, 1) := by decide +kernel
theorem dX12_insert_245 : decode cX12_insert 245 = .ok (.invokestatic 151, 3) := by decide +kernel
theorem dX12_insert_248 : decode cX12_insert 248 = .ok (.iload_n 1, 1) := by decide +kernel
theorem dX12_insert_249 : decode cX12_insert 249 = .ok (.iload_n 2, 1) := by decide +kernel
theorem dX12_insert_250 : decode cX12_insert 250 = .ok (.iload 12, 2) := by decide +kernel
theorem dX12_insert_252 : decode cX12_insert 252 = .ok (.invokestatic 151, 3) := by decide +kernel
theorem dX12_insert_255 : decode cX12_insert 255 = .ok (.invokevirtual 190, 3) := by decide +kernel
theorem dX12_insert_258 : decode cX12_insert 258 = .ok (.iinc 12 (-1), 3) := by decide +kernel
theorem dX12_insert_261 : decode cX12_insert 261 = .ok (.goto (-29), 3) := by decide +kernel
theorem dX12_insert_264 : decode cX12_insert 264 = .ok (.aload_n 0, 1) := by decide +kernel
theorem dX12_insert_265 : decode cX12_insert 265 = .ok (.iload_n 1, 1) := by decide +kernel
theorem dX12_insert_266 : decode cX12_insert 266 = .ok (.iload_n 2, 1) := by decide +kernel
theorem dX12_insert_267 : decode cX12_insert 267 = .ok (.iload_n 3, 1) := by decide +kernel
theorem dX12_insert_268 : decode cX12_insert 268 = .ok (.iconst 1, 1) := by decide +kernel
theorem dX12_insert_269 : decode cX12_insert 269 = .ok (.invokevirtual 194, 3) := by decide +kernel
theorem dX12_insert_272 : decode cX12_insert 272 = .ok (.iload_n 1, 1) := by decide +kernel
theorem dX12_insert_273 : decode cX12_insert 273 = .ok (.iload_n 2, 1) := by decide +kernel
theorem dX12_insert_274 : decode cX12_insert 274 = .ok (.iload_n 3, 1) := by decide +kernel
theorem dX12_insert_275 : decode cX12_insert 275 = .ok (.invokestatic 151, 3) := by decide +kernel
theorem dX12_insert_278 : decode cX12_insert 278 = .ok (.istore 12, 2) := by decide +kernel
theorem dX12_insert_280 : decode cX12_insert 280 = .ok (.aload_n 0, 1) := by decide +kernel
theorem dX12_insert_281 : decode cX12_insert 281 = .ok (.getfield 32, 3) := by decide +kernel
theorem dX12_insert_284 : decode cX12_insert 284 = .ok (.iload 12, 2) := by decide +kernel
theorem dX12_insert_286 : decode cX12_insert 286 = .ok (.iload 4, 2) := by decide +kernel
theorem dX12_insert_288 : decode cX12_insert 288 = .ok (.iastore, 1) := by decide +kernel
theorem dX12_insert_289 : decode cX12_insert 289 = .ok (.aload_n 0, 1) := by decide +kernel
theorem dX12_insert_290 : decode cX12_insert 290 = .ok (.getfield 35, 3) := by decide +kernel
theorem dX12_insert_293 : decode cX12_insert 293 = .ok (.iload 12, 2) := by decide +kernel
theorem dX12_insert_295 : decode cX12_insert 295 = .ok (.iload 5, 2) := by decide +kernel
theorem dX12_insert_297 : decode cX12_insert 297 = .ok (.iastore, 1) := by decide +kernel
theorem dX12_insert_298 : decode cX12_insert 298 = .ok (.aload_n 0, 1) := by decide +kernel
theorem dX12_insert_299 : decode cX12_insert 299 = .ok (.getfield 38, 3) := by decide +kernel
theorem dX12_insert_302 : decode cX12_insert 302 = .ok (.iload 12, 2) := by decide +kernel
theorem dX12_insert_304 : decode cX12_insert 304 = .ok (.iload 6, 2) := by decide +kernel
theorem dX12_insert_306 : decode cX12_insert 306 = .ok (.iastore, 1) := by decide +kernel
theorem dX12_insert_307 : decode cX12_insert 307 = .ok (.aload_n 0, 1) := by decide +kernel
theorem dX12_insert_308 : decode cX12_insert 308 = .ok (.getfield 41, 3) := by decide +kernel
theorem dX12_insert_311 : decode cX12_insert 311 = .ok (.iload 12, 2) := by decide +kernel
theorem dX12_insert_313 : decode cX12_insert 313 = .ok (.iconst (-1), 1) := by decide +kernel
theorem dX12_insert_314 : decode cX12_insert 314 = .ok (.iastore, 1) := by decide +kernel
theorem dX12_insert_315 : decode cX12_insert 315 = .ok (.aload_n 0, 1) := by decide +kernel
theorem dX12_insert_316 : decode cX12_insert 316 = .ok (.getfield 44, 3) := by decide +kernel
theorem dX12_insert_319 : decode cX12_insert 319 = .ok (.iload 12, 2) := by decide +kernel
theorem dX12_insert_321 : decode cX12_insert 321 = .ok (.iconst 0, 1) := by decide +kernel
theorem dX12_insert_322 : decode cX12_insert 322 = .ok (.bastore, 1) := by decide +kernel
theorem dX12_insert_323 : decode cX12_insert 323 = .ok (.aload_n 0, 1) := by decide +kernel
theorem dX12_insert_324 : decode cX12_insert 324 = .ok (.getfield 25, 3) := by decide +kernel
theorem dX12_insert_327 : decode cX12_insert 327 = .ok (.iload_n 1, 1) := by decide +kernel
theorem dX12_insert_328 : decode cX12_insert 328 = .ok (.iload_n 2, 1) := by decide +kernel
theorem dX12_insert_329 : decode cX12_insert 329 = .ok (.invokestatic 139, 3) := by decide +kernel
theorem dX12_insert_332 : decode cX12_insert 332 = .ok (.dup2, 1) := by decide +kernel
theorem dX12_insert_333 : decode cX12_insert 333 = .ok (.iaload, 1) := by decide +kernel
theorem dX12_insert_334 : decode cX12_insert 334 = .ok (.iconst 1, 1) := by decide +kernel
theorem dX12_insert_335 : decode cX12_insert 335 = .ok (.iadd, 1) := by decide +kernel
theorem dX12_insert_336 : decode cX12_insert 336 = .ok (.iastore, 1) := by decide +kernel
theorem dX12_insert_337 : decode cX12_insert 337 = .ok (.aload_n 0, 1) := by decide +kernel
theorem dX12_insert_338 : decode cX12_insert 338 = .ok (.iload_n 2, 1) := by decide +kernel
theorem dX12_insert_339 : decode cX12_insert 339 = .ok (.invokevirtual 172, 3) := by decide +kernel
theorem dX12_insert_342 : decode cX12_insert 342 = .ok (.aload_n 0, 1) := by decide +kernel
theorem dX12_insert_343 : decode cX12_insert 343 = .ok (.iload_n 1, 1) := by decide +kernel
theorem dX12_insert_344 : decode cX12_insert 344 = .ok (.iload_n 2, 1) := by decide +kernel
theorem dX12_insert_345 : decode cX12_insert 345 = .ok (.invokevirtual 169, 3) := by decide +kernel
theorem dX12_insert_348 : decode cX12_insert 348 = .ok (.isub, 1) := by decide +kernel
theorem dX12_insert_349 : decode cX12_insert 349 = .ok (.ireturn, 1) := by decide +kernel
theorem dX12_remove_0 : decode cX12_remove 0 = .ok (.iload_n 1, 1) := by decide +kernel
theorem dX12_remove_1 : decode cX12_remove 1 = .ok (.invokestatic 184, 3) := by decide +kernel
theorem dX12_remove_4 : decode cX12_remove 4 = .ok (.istore 4, 2) := by decide +kernel
theorem dX12_remove_6 : decode cX12_remove 6 = .ok (.aload_n 0, 1) := by decide +kernel
theorem dX12_remove_7 : decode cX12_remove 7 = .ok (.iload 4, 2) := by decide +kernel
theorem dX12_remove_9 : decode cX12_remove 9 = .ok (.iload 4, 2) := by decide +kernel
theorem dX12_remove_11 : decode cX12_remove 11 = .ok (.ifCond .eq 17, 3) := by decide +kernel
theorem dX12_remove_14 : decode cX12_remove 14 = .ok (.aload_n 0, 1) := by decide +kernel
theorem dX12_remove_15 : decode cX12_remove 15 = .ok (.iload_n 1, 1) := by decide +kernel
theorem dX12_remove_16 : decode cX12_remove 16 = .ok (.iload_n 2, 1) := by decide +kernel
theorem dX12_remove_17 : decode cX12_remove 17 = .ok (.iload_n 3, 1) := by decide +kernel
theorem dX12_remove_18 : decode cX12_remove 18 = .ok (.invokevirtual 198, 3) := by decide +kernel
theorem dX12_remove_21 : decode cX12_remove 21 = .ok (.ifCond .eq 7, 3) := by decide +kernel
theorem dX12_remove_24 : decode cX12_remove 24 = .ok (.iconst 1, 1) := by decide +kernel
theorem dX12_remove_25 : decode cX12_remove 25 = .ok (.goto 4, 3) := by decide +kernel
theorem dX12_remove_28 : decode cX12_remove 28 = .ok (.iconst 0, 1) := by decide +kernel
theorem dX12_remove_29 : decode cX12_remove 29 = .ok (.iconst 1, 1) := by decide +kernel
theorem dX12_remove_30 : decode cX12_remove 30 = .ok (.invokevirtual 165, 3) := by decide +kernel
theorem dX12_remove_33 : decode cX12_remove 33 = .ok (.ifCond .ne 5, 3) := by decide +kernel
theorem dX12_remove_36 : decode cX12_remove 36 = .ok (.iconst 0, 1) := by decide +kernel
theorem dX12_remove_37 : decode cX12_remove 37 = .ok (.ireturn, 1) := by decide +kernel
theorem dX12_remove_38 : decode cX12_remove 38 = .ok (.aload_n 0, 1) := by decide +kernel
theorem dX12_remove_39 : decode cX12_remove 39 = .ok (.iload_n 1, 1) := by decide +kernel
theorem dX12_remove_40 : decode cX12_remove 40 = .ok (.iload_n 2, 1) := by decide +kernel
theorem dX12_remove_41 : decode cX12_remove 41 = .ok (.iload_n 3, 1) := by decide +kernel
theorem dX12_remove_42 : decode cX12_remove 42 = .ok (.invokestatic 151, 3) := by decide +kernel
theorem dX12_remove_45 : decode cX12_remove 45 = .ok (.invokevirtual 155, 3) := by decide +kernel
theorem dX12_remove_48 : decode cX12_remove 48 = .ok (.istore 5, 2) := by decide +kernel
theorem dX12_remove_50 : decode cX12_remove 50 = .ok (.iconst 0, 1) := by decide +kernel
theorem dX12_remove_51 : decode cX12_remove 51 = .ok (.istore 6, 2) := by decide +kernel
theorem dX12_remove_53 : decode cX12_remove 53 = .ok (.iload 6, 2) := by decide +kernel
theorem dX12_remove_55 : decode cX12_remove 55 = .ok (.aload_n 0, 1) := by decide +kernel
theorem dX12_remove_56 : decode cX12_remove 56 = .ok (.getfield 181, 3) := by decide +kernel
theorem dX12_remove_59 : decode cX12_remove 59 = .ok (.if_icmp .ge 98, 3) := by decide +kernel
theorem dX12_remove_62 : decode cX12_remove 62 = .ok (.aload_n 0, 1) := by decide +kernel
theorem dX12_remove_63 : decode cX12_remove 63 = .ok (.getfield 53, 3) := by decide +kernel
theorem dX12_remove_66 : decode cX12_remove 66 = .ok (.iload 6, 2) := by decide +kernel
theorem dX12_remove_68 : decode cX12_remove 68 = .ok (.iaload, 1) := by decide +kernel
theorem dX12_remove_69 : decode cX12_remove 69 = .ok (.iload_n 2, 1) := by decide +kernel
theorem dX12_remove_70 : decode cX12_remove 70 = .ok (.if_icmp .ne 14, 3) := by decide +kernel
theorem dX12_remove_73 : decode cX12_remove 73 = .ok (.aload_n 0, 1) := by decide +kernel
theorem dX12_remove_74 : decode cX12_remove 74 = .ok (.getfield 56, 3) := by decide +kernel
theorem dX12_remove_77 : decode cX12_remove 77 = .ok (.iload 6, 2) := by decide +kernel
theorem dX12_remove_79 : decode cX12_remove 79 = .ok (.iaload, 1) := by decide +kernel
theorem dX12_remove_80 : decode cX12_remove 80 = .ok (.iload_n 3, 1) := by decide +kernel
theorem dX12_remove_81 : decode cX12_remove 81 = .ok (.if_icmp .eq 25, 3) := by decide +kernel
theorem dX12_remove_84 : decode cX12_remove 84 = .ok (.aload_n 0, 1) := by decide +kernel
theorem dX12_remove_85 : decode cX12_remove 85 = .ok (.getfield 59, 3) := by decide +kernel
theorem dX12_remove_88 : decode cX12_remove 88 = .ok (.iload 6, 2) := by decide +kernel
theorem dX12_remove_90 : decode cX12_remove 90 = .ok (.iaload, 1) := by decide +kernel
theorem dX12_remove_91 : decode cX12_remove 91 = .ok (.iload_n 2, 1) := by decide +kernel
theorem dX12_remove_92 : decode cX12_remove 92 = .ok (.if_icmp .ne 18, 3) := by decide +kernel
theorem dX12_remove_95 : decode cX12_remove 95 = .ok (.aload_n 0, 1) := by decide +kernel
theorem dX12_remove_96 : decode cX12_remove 96 = .ok (.getfield 62, 3) := by decide +kernel
theorem dX12_remove_99 : decode cX12_remove 99 = .ok (.iload 6, 2) := by decide +kernel
theorem dX12_remove_101 : decode cX12_remove 101 = .ok (.iaload, 1) := by decide +kernel
theorem dX12_remove_102 : decode cX12_remove 102 = .ok (.iload_n 3, 1) := by decide +kernel
theorem dX12_remove_103 : decode cX12_remove 103 = .ok (.if_icmp .ne 7, 3) := by decide +kernel
theorem dX12_remove_106 : decode cX12_remove 106 = .ok (.iconst 1, 1) := by decide +kernel
theorem dX12_remove_107 : decode cX12_remove 107 = .ok (.goto 4, 3) := by decide +kernel
theorem dX12_remove_110 : decode cX12_remove 110 = .ok (.iconst 0, 1) := by decide +kernel
theorem dX12_remove_111 : decode cX12_remove 111 = .ok (.istore 7, 2) := by decide +kernel
theorem dX12_remove_113 : decode cX12_remove 113 = .ok (.aload_n 0, 1) := by decide +kernel
theorem dX12_remove_114 : decode cX12_remove 114 = .ok (.getfield 65, 3) := by decide +kernel
theorem dX12_remove_117 : decode cX12_remove 117 = .ok (.iload 6, 2) := by decide +kernel
theorem dX12_remove_119 : decode cX12_remove 119 = .ok (.aload_n 0, 1) := by decide +kernel
theorem dX12_remove_120 : decode cX12_remove 120 = .ok (.getfield 65, 3) := by decide +kernel
theorem dX12_remove_123 : decode cX12_remove 123 = .ok (.iload 6, 2) := by decide +kernel
theorem dX12_remove_125 : decode cX12_remove 125 = .ok (.baload, 1) := by decide +kernel
theorem dX12_remove_126 : decode cX12_remove 126 = .ok (.ifCond .ne 19, 3) := by decide +kernel
theorem dX12_remove_129 : decode cX12_remove 129 = .ok (.aload_n 0, 1) := by decide +kernel
theorem dX12_remove_130 : decode cX12_remove 130 = .ok (.getfield 50, 3) := by decide +kernel
theorem dX12_remove_133 : decode cX12_remove 133 = .ok (.iload 6, 2) := by decide +kernel
theorem dX12_remove_135 : decode cX12_remove 135 = .ok (.iaload, 1) := by decide +kernel
theorem dX12_remove_136 : decode cX12_remove 136 = .ok (.iload_n 1, 1) := by decide +kernel
theorem dX12_remove_137 : decode cX12_remove 137 = .ok (.if_icmp .ne 12, 3) := by decide +kernel
theorem dX12_remove_140 : decode cX12_remove 140 = .ok (.iload 7, 2) := by decide +kernel
theorem dX12_remove_142 : decode cX12_remove 142 = .ok (.ifCond .eq 7, 3) := by decide +kernel
theorem dX12_remove_145 : decode cX12_remove 145 = .ok (.iconst 1, 1) := by decide +kernel
theorem dX12_remove_146 : decode cX12_remove 146 = .ok (.goto 4, 3) := by decide +kernel
theorem dX12_remove_149 : decode cX12_remove 149 = .ok (.iconst 0, 1) := by decide +kernel
theorem dX12_remove_150 : decode cX12_remove 150 = .ok (.bastore, 1) := by decide +kernel
theorem dX12_remove_151 : decode cX12_remove 151 = .ok (.iinc 6 1, 3) := by decide +kernel
theorem dX12_remove_154 : decode cX12_remove 154 = .ok (.goto (-101), 3) := by decide +kernel
theorem dX12_remove_157 : decode cX12_remove 157 = .ok (.aload_n 0, 1) := by decide +kernel
theorem dX12_remove_158 : decode cX12_remove 158 = .ok (.iload_n 1, 1) := by decide +kernel
theorem dX12_remove_159 : decode cX12_remove 159 = .ok (.iload_n 2, 1) := by decide +kernel
theorem dX12_remove_160 : decode cX12_remove 160 = .ok (.iload_n 3, 1) := by decide +kernel
theorem dX12_remove_161 : decode cX12_remove 161 = .ok (.iconst 1, 1) := by decide +kernel
theorem dX12_remove_162 : decode cX12_remove 162 = .ok (.iadd, 1) := by decide +kernel
theorem dX12_remove_163 : decode cX12_remove 163 = .ok (.iconst (-1), 1) := by decide +kernel
theorem dX12_remove_164 : decode cX12_remove 164 = .ok (.invokevirtual 194, 3) := by decide +kernel
theorem dX12_remove_167 : decode cX12_remove 167 = .ok (.aload_n 0, 1) := by decide +kernel
theorem dX12_remove_168 : decode cX12_remove 168 = .ok (.getfield 25, 3) := by decide +kernel
theorem dX12_remove_171 : decode cX12_remove 171 = .ok (.iload_n 1, 1) := by decide +kernel
theorem dX12_remove_172 : decode cX12_remove 172 = .ok (.iload_n 2, 1) := by decide +kernel
theorem dX12_remove_173 : decode cX12_remove 173 = .ok (.invokestatic 139, 3) := by decide +kernel
theorem dX12_remove_176 : decode cX12_remove 176 = .ok (.dup2, 1) := by decide +kernel
theorem dX12_remove_177 : decode cX12_remove 177 = .ok (.iaload, 1) := by decide +kernel
theorem dX12_remove_178 : decode cX12_remove 178 = .ok (.iconst 1, 1) := by decide +kernel
theorem dX12_remove_179 : decode cX12_remove 179 = .ok (.isub, 1) := by decide +kernel
theorem dX12_remove_180 : decode cX12_remove 180 = .ok (.iastore, 1) := by decide +kernel
theorem dX12_remove_181 : decode cX12_remove 181 = .ok (.iload_n 3, 1) := by decide +kernel
theorem dX12_remove_182 : decode cX12_remove 182 = .ok (.istore 6, 2) := by decide +kernel
theorem dX12_remove_184 : decode cX12_remove 184 = .ok (.iload 6, 2) := by decide +kernel
theorem dX12_remove_186 : decode cX12_remove 186 = .ok (.aload_n 0, 1) := by decide +kernel
theorem dX12_remove_187 : decode cX12_remove 187 = .ok (.getfield 25, 3) := by decide +kernel
theorem dX12_remove_190 : decode cX12_remove 190 = .ok (.iload_n 1, 1) := by decide +kernel
theorem dX12_remove_191 : decode cX12_remove 191 = .ok (.iload_n 2, 1) := by decide +kernel
theorem dX12_remove_192 : decode cX12_remove 192 = .ok (.invokestatic 139, 3) := by decide +kernel
theorem dX12_remove_195 : decode cX12_remove 195 = .ok (.iaload, 1) := by decide +kernel
theorem dX12_remove_196 : decode cX12_remove 196 = .ok (.if_icmp .ge 29, 3) := by decide +kernel
theorem dX12_remove_199 : decode cX12_remove 199 = .ok (.aload_n 0, 1) := by decide +kernel
theorem dX12_remove_200 : decode cX12_remove 200 = .ok (.iload_n 1, 1) := by decide +kernel
theorem dX12_remove_201 : decode cX12_remove 201 = .ok (.iload_n 2, 1) := by decide +kernel
theorem dX12_remove_202 : decode cX12_remove 202 = .ok (.iload 6, 2) := by decide +kernel
theorem dX12_remove_204 : decode cX12_remove 204 = .ok (.iconst 1, 1) := by decide +kernel
theorem dX12_remove_205 : decode cX12_remove 205 = .ok (.iadd, 1) := by decide +kernel
theorem dX12_remove_206 : decode cX12_remove 206 = .ok (.invokestatic 151, 3) := by decide +kernel
theorem dX12_remove_209 : decode cX12_remove 209 = .ok (.iload_n 1, 1) := by decide +kernel
theorem dX12_remove_210 : decode cX12_remove 210 = .ok (.iload_n 2, 1) := by decide +kernel
theorem dX12_remove_211 : decode cX12_remove 211 = .ok (.iload 6, 2) := by decide +kernel
theorem dX12_remove_213 : decode cX12_remove 213 = .ok (.invokestatic 151, 3) := by decide +kernel
theorem dX12_remove_216 : decode cX12_remove 216 = .ok (.invokevirtual 190, 3) := by decide +kernel
theorem dX12_remove_219 : decode cX12_remove 219 = .ok (.iinc 6 1, 3) := by decide +kernel
theorem dX12_remove_222 : decode cX12_remove 222 = .ok (.goto (-38), 3) := by decide +kernel
theorem dX12_remove_225 : decode cX12_remove 225 = .ok (.iload 5, 2) := by decide +kernel
theorem dX12_remove_227 : decode cX12_remove 227 = .ok (.ireturn, 1) := by decide +kernel
theorem dX12_setPitch_0 : decode cX12_setPitch 0 = .ok (.iload_n 1, 1) := by decide +kernel
theorem dX12_setPitch_1 : decode cX12_setPitch 1 = .ok (.invokestatic 184, 3) := by decide +kernel
theorem dX12_setPitch_4 : decode cX12_setPitch 4 = .ok (.ifCond .eq 18, 3) := by decide +kernel
theorem dX12_setPitch_7 : decode cX12_setPitch 7 = .ok (.iload 4, 2) := by decide +kernel
theorem dX12_setPitch_9 : decode cX12_setPitch 9 = .ok (.iconst 0, 1) := by decide +kernel
theorem dX12_setPitch_10 : decode cX12_setPitch 10 = .ok (.bipush 127, 2) := by decide +kernel
theorem dX12_setPitch_12 : decode cX12_setPitch 12 = .ok (.invokestatic 135, 3) := by decide +kernel
theorem dX12_setPitch_15 : decode cX12_setPitch 15 = .ok (.ifCond .eq 7, 3) := by decide +kernel
theorem dX12_setPitch_18 : decode cX12_setPitch 18 = .ok (.iconst 1, 1) := by decide +kernel
theorem dX12_setPitch_19 : decode cX12_setPitch 19 = .ok (.goto 4, 3) := by decide +kernel
theorem dX12_setPitch_22 : decode cX12_setPitch 22 = .ok (.iconst 0, 1) := by decide +kernel
theorem dX12_setPitch_23 : decode cX12_setPitch 23 = .ok (.istore 5, 2) := by decide +kernel
theorem dX12_setPitch_25 : decode cX12_setPitch 25 = .ok (.iload 5, 2) := by decide +kernel
theorem dX12_setPitch_27 : decode cX12_setPitch 27 = .ok (.ifCond .eq 17, 3) := by decide +kernel
theorem dX12_setPitch_30 : decode cX12_setPitch 30 = .ok (.aload_n 0, 1) := by decide +kernel
theorem dX12_setPitch_31 : decode cX12_setPitch 31 = .ok (.iload_n 1, 1) := by decide +kernel
theorem dX12_setPitch_32 : decode cX12_setPitch 32 = .ok (.iload_n 2, 1) := by decide +kernel
theorem dX12_setPitch_33 : decode cX12_setPitch 33 = .ok (.iload_n 3, 1) := by decide +kernel
theorem dX12_setPitch_34 : decode cX12_setPitch 34 = .ok (.invokevirtual 198, 3) := by decide +kernel
theorem dX12_setPitch_37 : decode cX12_setPitch 37 = .ok (.ifCond .eq 7, 3) := by decide +kernel
theorem dX12_setPitch_40 : decode cX12_setPitch 40 = .ok (.iconst 1, 1) := by decide +kernel
theorem dX12_setPitch_41 : decode cX12_setPitch 41 = .ok (.goto 4, 3) := by decide +kernel
theorem dX12_setPitch_44 : decode cX12_setPitch 44 = .ok (.iconst 0, 1) := by decide +kernel
theorem dX12_setPitch_45 : decode cX12_setPitch 45 = .ok (.istore 6, 2) := by decide +kernel
theorem dX12_setPitch_47 : decode cX12_setPitch 47 = .ok (.aload_n 0, 1) := by decide +kernel
theorem dX12_setPitch_48 : decode cX12_setPitch 48 = .ok (.iload 5, 2) := by decide +kernel
theorem dX12_setPitch_50 : decode cX12_setPitch 50 = .ok (.iload 6, 2) := by decide +kernel
theorem dX12_setPitch_52 : decode cX12_setPitch 52 = .ok (.iload 6, 2) := by decide +kernel
theorem dX12_setPitch_54 : decode cX12_setPitch 54 = .ok (.ifCond .eq 23, 3) := by decide +kernel
theorem dX12_setPitch_57 : decode cX12_setPitch 57 = .ok (.aload_n 0, 1) := by decide +kernel
theorem dX12_setPitch_58 : decode cX12_setPitch 58 = .ok (.iload_n 1, 1) := by decide +kernel
theorem dX12_setPitch_59 : decode cX12_setPitch 59 = .ok (.iload 4, 2) := by decide +kernel
theorem dX12_setPitch_61 : decode cX12_setPitch 61 = .ok (.aload_n 0, 1) := by decide +kernel
theorem dX12_setPitch_62 : decode cX12_setPitch 62 = .ok (.getfield 47, 3) := by decide +kernel
theorem dX12_setPitch_65 : decode cX12_setPitch 65 = .ok (.iload_n 1, 1) := by decide +kernel
theorem dX12_setPitch_66 : decode cX12_setPitch 66 = .ok (.iaload, 1) := by decide +kernel
theorem dX12_setPitch_67 : decode cX12_setPitch 67 = .ok (.invokevirtual 187, 3) := by decide +kernel
theorem dX12_setPitch_70 : decode cX12_setPitch 70 = .ok (.ifCond .eq 7, 3) := by decide +kernel
theorem dX12_setPitch_73 : decode cX12_setPitch 73 = .ok (.iconst 1, 1) := by decide +kernel
theorem dX12_setPitch_74 : decode cX12_setPitch 74 = .ok (.goto 4, 3) := by decide +kernel
theorem dX12_setPitch_77 : decode cX12_setPitch 77 = .ok (.iconst 0, 1) := by decide +kernel
theorem dX12_setPitch_78 : decode cX12_setPitch 78 = .ok (.invokevirtual 165, 3) := by decide +kernel
theorem dX12_setPitch_81 : decode cX12_setPitch 81 = .ok (.ifCond .ne 5, 3) := by decide +kernel
theorem dX12_setPitch_84 : decode cX12_setPitch 84 = .ok (.iconst 0, 1) := by decide +kernel
theorem dX12_setPitch_85 : decode cX12_setPitch 85 = .ok (.ireturn, 1) := by decide +kernel
theorem dX12_setPitch_86 : decode cX12_setPitch 86 = .ok (.iload_n 1, 1) := by decide +kernel
theorem dX12_setPitch_87 : decode cX12_setPitch 87 = .ok (.iload_n 2, 1) := by decide +kernel
theorem dX12_setPitch_88 : decode cX12_setPitch 88 = .ok (.iload_n 3, 1) := by decide +kernel
theorem dX12_setPitch_89 : decode cX12_setPitch 89 = .ok (.invokestatic 151, 3) := by decide +kernel
theorem dX12_setPitch_92 : decode cX12_setPitch 92 = .ok (.istore 7, 2) := by decide +kernel
theorem dX12_setPitch_94 : decode cX12_setPitch 94 = .ok (.aload_n 0, 1) := by decide +kernel
theorem dX12_setPitch_95 : decode cX12_setPitch 95 = .ok (.getfield 32, 3) := by decide +kernel
theorem dX12_setPitch_98 : decode cX12_setPitch 98 = .ok (.iload 7, 2) := by decide +kernel
theorem dX12_setPitch_100 : decode cX12_setPitch 100 = .ok (.iaload, 1) := by decide +kernel
theorem dX12_setPitch_101 : decode cX12_setPitch 101 = .ok (.istore 8, 2) := by decide +kernel
theorem dX12_setPitch_103 : decode cX12_setPitch 103 = .ok (.aload_n 0, 1) := by decide +kernel
theorem dX12_setPitch_104 : decode cX12_setPitch 104 = .ok (.getfield 32, 3) := by decide +kernel
theorem dX12_setPitch_107 : decode cX12_setPitch 107 = .ok (.iload 7, 2) := by decide +kernel
theorem dX12_setPitch_109 : decode cX12_setPitch 109 = .ok (.iload 4, 2) := by decide +kernel
theorem dX12_setPitch_111 : decode cX12_setPitch 111 = .ok (.iastore, 1) := by decide +kernel
theorem dX12_setPitch_112 : decode cX12_setPitch 112 = .ok (.aload_n 0, 1) := by decide +kernel
theorem dX12_setPitch_113 : decode cX12_setPitch 113 = .ok (.getfield 44, 3) := by decide +kernel
theorem dX12_setPitch_116 : decode cX12_setPitch 116 = .ok (.iload 7, 2) := by decide +kernel
theorem dX12_setPitch_118 : decode cX12_setPitch 118 = .ok (.aload_n 0, 1) := by decide +kernel
theorem dX12_setPitch_119 : decode cX12_setPitch 119 = .ok (.getfield 44, 3) := by decide +kernel
theorem dX12_setPitch_122 : decode cX12_setPitch 122 = .ok (.iload 7, 2) := by decide +kernel
theorem dX12_setPitch_124 : decode cX12_setPitch 124 = .ok (.baload, 1) := by decide +kernel
theorem dX12_setPitch_125 : decode cX12_setPitch 125 = .ok (.ifCond .eq 12, 3) := by decide +kernel
theorem dX12_setPitch_128 : decode cX12_setPitch 128 = .ok (.iload 4, 2) := by decide +kernel
theorem dX12_setPitch_130 : decode cX12_setPitch 130 = .ok (.ifCond .le 7, 3) := by decide +kernel
theorem dX12_setPitch_133 : decode cX12_setPitch 133 = .ok (.iconst 1, 1) := by decide +kernel
theorem dX12_setPitch_134 : decode cX12_setPitch 134 = .ok (.goto 4, 3) := by decide +kernel
theorem dX12_setPitch_137 : decode cX12_setPitch 137 = .ok (.iconst 0, 1) := by decide +kernel
theorem dX12_setPitch_138 : decode cX12_setPitch 138 = .ok (.bastore, 1) := by decide +kernel
theorem dX12_setPitch_139 : decode cX12_setPitch 139 = .ok (.iload 8, 2) := by decide +kernel
theorem dX12_setPitch_141 : decode cX12_setPitch 141 = .ok (.ireturn, 1) := by decide +kernel
theorem dX12_setTie_0 : decode cX12_setTie 0 = .ok (.iload_n 1, 1) := by decide +kernel
theorem dX12_setTie_1 : decode cX12_setTie 1 = .ok (.invokestatic 184, 3) := by decide +kernel
theorem dX12_setTie_4 : decode cX12_setTie 4 = .ok (.istore 5, 2) := by decide +kernel
theorem dX12_setTie_6 : decode cX12_setTie 6 = .ok (.iload 5, 2) := by decide +kernel
theorem dX12_setTie_8 : decode cX12_setTie 8 = .ok (.ifCond .eq 17, 3) := by decide +kernel
theorem dX12_setTie_11 : decode cX12_setTie 11 = .ok (.aload_n 0, 1) := by decide +kernel
theorem dX12_setTie_12 : decode cX12_setTie 12 = .ok (.iload_n 1, 1) := by decide +kernel
theorem dX12_setTie_13 : decode cX12_setTie 13 = .ok (.iload_n 2, 1) := by decide +kernel
theorem dX12_setTie_14 : decode cX12_setTie 14 = .ok (.iload_n 3, 1) := by decide +kernel
theorem dX12_setTie_15 : decode cX12_setTie 15 = .ok (.invokevirtual 198, 3) := by decide +kernel
theorem dX12_setTie_18 : decode cX12_setTie 18 = .ok (.ifCond .eq 7, 3) := by decide +kernel
theorem dX12_setTie_21 : decode cX12_setTie 21 = .ok (.iconst 1, 1) := by decide +kernel
theorem dX12_setTie_22 : decode cX12_setTie 22 = .ok (.goto 4, 3) := by decide +kernel
theorem dX12_setTie_25 : decode cX12_setTie 25 = .ok (.iconst 0, 1) := by decide +kernel
theorem dX12_setTie_26 : decode cX12_setTie 26 = .ok (.istore 6, 2) := by decide +kernel
theorem dX12_setTie_28 : decode cX12_setTie 28 = .ok (.aload_n 0, 1) := by decide +kernel
theorem dX12_setTie_29 : decode cX12_setTie 29 = .ok (.iload 5, 2) := by decide +kernel
theorem dX12_setTie_31 : decode cX12_setTie 31 = .ok (.iload 6, 2) := by decide +kernel
theorem dX12_setTie_33 : decode cX12_setTie 33 = .ok (.iload 6, 2) := by decide +kernel
theorem dX12_setTie_35 : decode cX12_setTie 35 = .ok (.ifCond .eq 21, 3) := by decide +kernel
theorem dX12_setTie_38 : decode cX12_setTie 38 = .ok (.aload_n 0, 1) := by decide +kernel
theorem dX12_setTie_39 : decode cX12_setTie 39 = .ok (.getfield 32, 3) := by decide +kernel
theorem dX12_setTie_42 : decode cX12_setTie 42 = .ok (.iload_n 1, 1) := by decide +kernel
theorem dX12_setTie_43 : decode cX12_setTie 43 = .ok (.iload_n 2, 1) := by decide +kernel
theorem dX12_setTie_44 : decode cX12_setTie 44 = .ok (.iload_n 3, 1) := by decide +kernel
theorem dX12_setTie_45 : decode cX12_setTie 45 = .ok (.invokestatic 151, 3) := by decide +kernel
theorem dX12_setTie_48 : decode cX12_setTie 48 = .ok (.iaload, 1) := by decide +kernel
theorem dX12_setTie_49 : decode cX12_setTie 49 = .ok (.ifCond .le 7, 3) := by decide +kernel
theorem dX12_setTie_52 : decode cX12_setTie 52 = .ok (.iconst 1, 1) := by decide +kernel
theorem dX12_setTie_53 : decode cX12_setTie 53 = .ok (.goto 4, 3) := by decide +kernel
theorem dX12_setTie_56 : decode cX12_setTie 56 = .ok (.iconst 0, 1) := by decide +kernel
theorem dX12_setTie_57 : decode cX12_setTie 57 = .ok (.invokevirtual 165, 3) := by decide +kernel
theorem dX12_setTie_60 : decode cX12_setTie 60 = .ok (.ifCond .ne 5, 3) := by decide +kernel
theorem dX12_setTie_63 : decode cX12_setTie 63 = .ok (.iconst 0, 1) := by decide +kernel
theorem dX12_setTie_64 : decode cX12_setTie 64 = .ok (.ireturn, 1) := by decide +kernel
theorem dX12_setTie_65 : decode cX12_setTie 65 = .ok (.aload_n 0, 1) := by decide +kernel
theorem dX12_setTie_66 : decode cX12_setTie 66 = .ok (.getfield 44, 3) := by decide +kernel
theorem dX12_setTie_69 : decode cX12_setTie 69 = .ok (.iload_n 1, 1) := by decide +kernel
theorem dX12_setTie_70 : decode cX12_setTie 70 = .ok (.iload_n 2, 1) := by decide +kernel
theorem dX12_setTie_71 : decode cX12_setTie 71 = .ok (.iload_n 3, 1) := by decide +kernel
theorem dX12_setTie_72 : decode cX12_setTie 72 = .ok (.invokestatic 151, 3) := by decide +kernel
theorem dX12_setTie_75 : decode cX12_setTie 75 = .ok (.baload, 1) := by decide +kernel
theorem dX12_setTie_76 : decode cX12_setTie 76 = .ok (.istore 7, 2) := by decide +kernel
theorem dX12_setTie_78 : decode cX12_setTie 78 = .ok (.aload_n 0, 1) := by decide +kernel
theorem dX12_setTie_79 : decode cX12_setTie 79 = .ok (.getfield 44, 3) := by decide +kernel
theorem dX12_setTie_82 : decode cX12_setTie 82 = .ok (.iload_n 1, 1) := by decide +kernel
theorem dX12_setTie_83 : decode cX12_setTie 83 = .ok (.iload_n 2, 1) := by decide +kernel
theorem dX12_setTie_84 : decode cX12_setTie 84 = .ok (.iload_n 3, 1) := by decide +kernel
theorem dX12_setTie_85 : decode cX12_setTie 85 = .ok (.invokestatic 151, 3) := by decide +kernel
theorem dX12_setTie_88 : decode cX12_setTie 88 = .ok (.iload 4, 2) := by decide +kernel
theorem dX12_setTie_90 : decode cX12_setTie 90 = .ok (.bastore, 1) := by decide +kernel
theorem dX12_setTie_91 : decode cX12_setTie 91 = .ok (.iload 7, 2) := by decide +kernel
theorem dX12_setTie_93 : decode cX12_setTie 93 = .ok (.ireturn, 1) := by decide +kernel
theorem dX12_setMark_0 : decode cX12_setMark 0 = .ok (.iload_n 1, 1) := by decide +kernel
theorem dX12_setMark_1 : decode cX12_setMark 1 = .ok (.invokestatic 184, 3) := by decide +kernel
theorem dX12_setMark_4 : decode cX12_setMark 4 = .ok (.ifCond .eq 17, 3) := by decide +kernel
theorem dX12_setMark_7 : decode cX12_setMark 7 = .ok (.iload 4, 2) := by decide +kernel
theorem dX12_setMark_9 : decode cX12_setMark 9 = .ok (.iconst (-1), 1) := by decide +kernel
theorem dX12_setMark_10 : decode cX12_setMark 10 = .ok (.iconst 5, 1) := by decide +kernel
theorem dX12_setMark_11 : decode cX12_setMark 11 = .ok (.invokestatic 135, 3) := by decide +kernel
theorem dX12_setMark_14 : decode cX12_setMark 14 = .ok (.ifCond .eq 7, 3) := by decide +kernel
theorem dX12_setMark_17 : decode cX12_setMark 17 = .ok (.iconst 1, 1) := by decide +kernel
theorem dX12_setMark_18 : decode cX12_setMark 18 = .ok (.goto 4, 3) := by decide +kernel
theorem dX12_setMark_21 : decode cX12_setMark 21 = .ok (.iconst 0, 1) := by decide +kernel
theorem dX12_setMark_22 : decode cX12_setMark 22 = .ok (.istore 5, 2) := by decide +kernel
theorem dX12_setMark_24 : decode cX12_setMark 24 = .ok (.aload_n 0, 1) := by decide +kernel
theorem dX12_setMark_25 : decode cX12_setMark 25 = .ok (.iload 5, 2) := by decide +kernel
theorem dX12_setMark_27 : decode cX12_setMark 27 = .ok (.iload 5, 2) := by decide +kernel
theorem dX12_setMark_29 : decode cX12_setMark 29 = .ok (.ifCond .eq 17, 3) := by decide +kernel
theorem dX12_setMark_32 : decode cX12_setMark 32 = .ok (.aload_n 0, 1) := by decide +kernel
theorem dX12_setMark_33 : decode cX12_setMark 33 = .ok (.iload_n 1, 1) := by decide +kernel
theorem dX12_setMark_34 : decode cX12_setMark 34 = .ok (.iload_n 2, 1) := by decide +kernel
theorem dX12_setMark_35 : decode cX12_setMark 35 = .ok (.iload_n 3, 1) := by decide +kernel
theorem dX12_setMark_36 : decode cX12_setMark 36 = .ok (.invokevirtual 198, 3) := by decide +kernel
theorem dX12_setMark_39 : decode cX12_setMark 39 = .ok (.ifCond .eq 7, 3) := by decide +kernel
theorem dX12_setMark_42 : decode cX12_setMark 42 = .ok (.iconst 1, 1) := by decide +kernel
theorem dX12_setMark_43 : decode cX12_setMark 43 = .ok (.goto 4, 3) := by decide +kernel
theorem dX12_setMark_46 : decode cX12_setMark 46 = .ok (.iconst 0, 1) := by decide +kernel
theorem dX12_setMark_47 : decode cX12_setMark 47 = .ok (.iconst 1, 1) := by decide +kernel
theorem dX12_setMark_48 : decode cX12_setMark 48 = .ok (.invokevirtual 165, 3) := by decide +kernel
theorem dX12_setMark_51 : decode cX12_setMark 51 = .ok (.ifCond .ne 5, 3) := by decide +kernel
theorem dX12_setMark_54 : decode cX12_setMark 54 = .ok (.iconst 0, 1) := by decide +kernel
theorem dX12_setMark_55 : decode cX12_setMark 55 = .ok (.ireturn, 1) := by decide +kernel
theorem dX12_setMark_56 : decode cX12_setMark 56 = .ok (.aload_n 0, 1) := by decide +kernel
theorem dX12_setMark_57 : decode cX12_setMark 57 = .ok (.getfield 41, 3) := by decide +kernel
theorem dX12_setMark_60 : decode cX12_setMark 60 = .ok (.iload_n 1, 1) := by decide +kernel
theorem dX12_setMark_61 : decode cX12_setMark 61 = .ok (.iload_n 2, 1) := by decide +kernel
theorem dX12_setMark_62 : decode cX12_setMark 62 = .ok (.iload_n 3, 1) := by decide +kernel
theorem dX12_setMark_63 : decode cX12_setMark 63 = .ok (.invokestatic 151, 3) := by decide +kernel
theorem dX12_setMark_66 : decode cX12_setMark 66 = .ok (.iaload, 1) := by decide +kernel
theorem dX12_setMark_67 : decode cX12_setMark 67 = .ok (.istore 6, 2) := by decide +kernel
theorem dX12_setMark_69 : decode cX12_setMark 69 = .ok (.aload_n 0, 1) := by decide +kernel
theorem dX12_setMark_70 : decode cX12_setMark 70 = .ok (.getfield 41, 3) := by decide +kernel
theorem dX12_setMark_73 : decode cX12_setMark 73 = .ok (.iload_n 1, 1) := by decide +kernel
theorem dX12_setMark_74 : decode cX12_setMark 74 = .ok (.iload_n 2, 1) := by decide +kernel
theorem dX12_setMark_75 : decode cX12_setMark 75 = .ok (.iload_n 3, 1) := by decide +kernel
theorem dX12_setMark_76 : decode cX12_setMark 76 = .ok (.invokestatic 151, 3) := by decide +kernel
theorem dX12_setMark_79 : decode cX12_setMark 79 = .ok (.iload 4, 2) := by decide +kernel
theorem dX12_setMark_81 : decode cX12_setMark 81 = .ok (.iastore, 1) := by decide +kernel
theorem dX12_setMark_82 : decode cX12_setMark 82 = .ok (.iload 6, 2) := by decide +kernel
theorem dX12_setMark_84 : decode cX12_setMark 84 = .ok (.ireturn, 1) := by decide +kernel
theorem dX12_transpose_0 : decode cX12_transpose 0 = .ok (.iload_n 1, 1) := by decide +kernel
theorem dX12_transpose_1 : decode cX12_transpose 1 = .ok (.invokestatic 184, 3) := by decide +kernel
theorem dX12_transpose_4 : decode cX12_transpose 4 = .ok (.ifCond .eq 18, 3) := by decide +kernel
theorem dX12_transpose_7 : decode cX12_transpose 7 = .ok (.iload_n 2, 1) := by decide +kernel
theorem dX12_transpose_8 : decode cX12_transpose 8 = .ok (.bipush (-12), 2) := by decide +kernel
theorem dX12_transpose_10 : decode cX12_transpose 10 = .ok (.bipush 12, 2) := by decide +kernel
theorem dX12_transpose_12 : decode cX12_transpose 12 = .ok (.invokestatic 135, 3) := by decide +kernel
theorem dX12_transpose_15 : decode cX12_transpose 15 = .ok (.ifCond .eq 7, 3) := by decide +kernel
theorem dX12_transpose_18 : decode cX12_transpose 18 = .ok (.iconst 1, 1) := by decide +kernel
theorem dX12_transpose_19 : decode cX12_transpose 19 = .ok (.goto 4, 3) := by decide +kernel
theorem dX12_transpose_22 : decode cX12_transpose 22 = .ok (.iconst 0, 1) := by decide +kernel
theorem dX12_transpose_23 : decode cX12_transpose 23 = .ok (.istore_n 3, 1) := by decide +kernel
theorem dX12_transpose_24 : decode cX12_transpose 24 = .ok (.iload_n 3, 1) := by decide +kernel
theorem dX12_transpose_25 : decode cX12_transpose 25 = .ok (.istore 4, 2) := by decide +kernel
theorem dX12_transpose_27 : decode cX12_transpose 27 = .ok (.iconst 0, 1) := by decide +kernel
theorem dX12_transpose_28 : decode cX12_transpose 28 = .ok (.istore 5, 2) := by decide +kernel
theorem dX12_transpose_30 : decode cX12_transpose 30 = .ok (.iload 5, 2) := by decide +kernel
theorem dX12_transpose_32 : decode cX12_transpose 32 = .ok (.sipush 384, 3) := by decide +kernel
theorem dX12_transpose_35 : decode cX12_transpose 35 = .ok (.if_icmp .ge 81, 3) := by decide +kernel
theorem dX12_transpose_38 : decode cX12_transpose 38 = .ok (.iload 4, 2) := by decide +kernel
theorem dX12_transpose_40 : decode cX12_transpose 40 = .ok (.ifCond .eq 76, 3) := by decide +kernel
theorem dX12_transpose_43 : decode cX12_transpose 43 = .ok (.iload 5, 2) := by decide +kernel
theorem dX12_transpose_45 : decode cX12_transpose 45 = .ok (.bipush 16, 2) := by decide +kernel
theorem dX12_transpose_47 : decode cX12_transpose 47 = .ok (.idiv, 1) := by decide +kernel
theorem dX12_transpose_48 : decode cX12_transpose 48 = .ok (.istore 6, 2) := by decide +kernel
theorem dX12_transpose_50 : decode cX12_transpose 50 = .ok (.iload 6, 2) := by decide +kernel
theorem dX12_transpose_52 : decode cX12_transpose 52 = .ok (.aload_n 0, 1) := by decide +kernel
theorem dX12_transpose_53 : decode cX12_transpose 53 = .ok (.getfield 132, 3) := by decide +kernel
theorem dX12_transpose_56 : decode cX12_transpose 56 = .ok (.if_icmp .ge 47, 3) := by decide +kernel
theorem dX12_transpose_59 : decode cX12_transpose 59 = .ok (.iload 5, 2) := by decide +kernel
theorem dX12_transpose_61 : decode cX12_transpose 61 = .ok (.bipush 16, 2) := by decide +kernel
theorem dX12_transpose_63 : decode cX12_transpose 63 = .ok (.irem, 1) := by decide +kernel
theorem dX12_transpose_64 : decode cX12_transpose 64 = .ok (.aload_n 0, 1) := by decide +kernel
theorem dX12_transpose_65 : decode cX12_transpose 65 = .ok (.getfield 25, 3) := by decide +kernel
theorem dX12_transpose_68 : decode cX12_transpose 68 = .ok (.iload_n 1, 1) := by decide +kernel
theorem dX12_transpose_69 : decode cX12_transpose 69 = .ok (.iload 6, 2) := by decide +kernel
theorem dX12_transpose_71 : decode cX12_transpose 71 = .ok (.invokestatic 139, 3) := by decide +kernel
theorem dX12_transpose_74 : decode cX12_transpose 74 = .ok (.iaload, 1) := by decide +kernel
theorem dX12_transpose_75 : decode cX12_transpose 75 = .ok (.if_icmp .ge 28, 3) := by decide +kernel
theorem dX12_transpose_78 : decode cX12_transpose 78 = .ok (.aload_n 0, 1) := by decide +kernel
theorem dX12_transpose_79 : decode cX12_transpose 79 = .ok (.iload_n 1, 1) := by decide +kernel
theorem dX12_transpose_80 : decode cX12_transpose 80 = .ok (.aload_n 0, 1) := by decide +kernel
theorem dX12_transpose_81 : decode cX12_transpose 81 = .ok (.getfield 32, 3) := by decide +kernel
theorem dX12_transpose_84 : decode cX12_transpose 84 = .ok (.iload_n 1, 1) := by decide +kernel
theorem dX12_transpose_85 : decode cX12_transpose 85 = .ok (.iload 6, 2) := by decide +kernel
theorem dX12_transpose_87 : decode cX12_transpose 87 = .ok (.iload 5, 2) := by decide +kernel
theorem dX12_transpose_89 : decode cX12_transpose 89 = .ok (.bipush 16, 2) := by decide +kernel
theorem dX12_transpose_91 : decode cX12_transpose 91 = .ok (.irem, 1) := by decide +kernel
theorem dX12_transpose_92 : decode cX12_transpose 92 = .ok (.invokestatic 151, 3) := by decide +kernel
theorem dX12_transpose_95 : decode cX12_transpose 95 = .ok (.iaload, 1) := by decide +kernel
theorem dX12_transpose_96 : decode cX12_transpose 96 = .ok (.iload_n 2, 1) := by decide +kernel
theorem dX12_transpose_97 : decode cX12_transpose 97 = .ok (.invokevirtual 187, 3) := by decide +kernel
theorem dX12_transpose_100 : decode cX12_transpose 100 = .ok (.ifCond .eq 7, 3) := by decide +kernel
theorem dX12_transpose_103 : decode cX12_transpose 103 = .ok (.iconst 1, 1) := by decide +kernel
theorem dX12_transpose_104 : decode cX12_transpose 104 = .ok (.goto 4, 3) := by decide +kernel
theorem dX12_transpose_107 : decode cX12_transpose 107 = .ok (.iconst 0, 1) := by decide +kernel
theorem dX12_transpose_108 : decode cX12_transpose 108 = .ok (.istore 4, 2) := by decide +kernel
theorem dX12_transpose_110 : decode cX12_transpose 110 = .ok (.iinc 5 1, 3) := by decide +kernel
theorem dX12_transpose_113 : decode cX12_transpose 113 = .ok (.goto (-83), 3) := by decide +kernel
theorem dX12_transpose_116 : decode cX12_transpose 116 = .ok (.aload_n 0, 1) := by decide +kernel
theorem dX12_transpose_117 : decode cX12_transpose 117 = .ok (.iload_n 3, 1) := by decide +kernel
theorem dX12_transpose_118 : decode cX12_transpose 118 = .ok (.iload 4, 2) := by decide +kernel
theorem dX12_transpose_120 : decode cX12_transpose 120 = .ok (.iconst 1, 1) := by decide +kernel
theorem dX12_transpose_121 : decode cX12_transpose 121 = .ok (.invokevirtual 165, 3) := by decide +kernel
theorem dX12_transpose_124 : decode cX12_transpose 124 = .ok (.ifCond .ne 5, 3) := by decide +kernel
theorem dX12_transpose_127 : decode cX12_transpose 127 = .ok (.iconst 0, 1) := by decide +kernel
theorem dX12_transpose_128 : decode cX12_transpose 128 = .ok (.ireturn, 1) := by decide +kernel
theorem dX12_transpose_129 : decode cX12_transpose 129 = .ok (.aload_n 0, 1) := by decide +kernel
theorem dX12_transpose_130 : decode cX12_transpose 130 = .ok (.getfield 47, 3) := by decide +kernel
theorem dX12_transpose_133 : decode cX12_transpose 133 = .ok (.iload_n 1, 1) := by decide +kernel
theorem dX12_transpose_134 : decode cX12_transpose 134 = .ok (.iaload, 1) := by decide +kernel
theorem dX12_transpose_135 : decode cX12_transpose 135 = .ok (.istore 5, 2) := by decide +kernel
theorem dX12_transpose_137 : decode cX12_transpose 137 = .ok (.aload_n 0, 1) := by decide +kernel
theorem dX12_transpose_138 : decode cX12_transpose 138 = .ok (.getfield 47, 3) := by decide +kernel
theorem dX12_transpose_141 : decode cX12_transpose 141 = .ok (.iload_n 1, 1) := by decide +kernel
theorem dX12_transpose_142 : decode cX12_transpose 142 = .ok (.iload_n 2, 1) := by decide +kernel
theorem dX12_transpose_143 : decode cX12_transpose 143 = .ok (.iastore, 1) := by decide +kernel
theorem dX12_transpose_144 : decode cX12_transpose 144 = .ok (.iload 5, 2) := by decide +kernel
theorem dX12_transpose_146 : decode cX12_transpose 146 = .ok (.ireturn, 1) := by decide +kernel
theorem dX12_events_0 : decode cX12_events 0 = .ok (.iload_n 1, 1) := by decide +kernel
theorem dX12_events_1 : decode cX12_events 1 = .ok (.invokestatic 184, 3) := by decide +kernel
theorem dX12_events_4 : decode cX12_events 4 = .ok (.istore_n 3, 1) := by decide +kernel
theorem dX12_events_5 : decode cX12_events 5 = .ok (.aload_n 0, 1) := by decide +kernel
theorem dX12_events_6 : decode cX12_events 6 = .ok (.iload_n 3, 1) := by decide +kernel
theorem dX12_events_7 : decode cX12_events 7 = .ok (.aload_n 0, 1) := by decide +kernel
theorem dX12_events_8 : decode cX12_events 8 = .ok (.iload_n 2, 1) := by decide +kernel
theorem dX12_events_9 : decode cX12_events 9 = .ok (.invokevirtual 143, 3) := by decide +kernel
theorem dX12_events_12 : decode cX12_events 12 = .ok (.iconst 1, 1) := by decide +kernel
theorem dX12_events_13 : decode cX12_events 13 = .ok (.invokevirtual 165, 3) := by decide +kernel
theorem dX12_events_16 : decode cX12_events 16 = .ok (.ifCond .eq 16, 3) := by decide +kernel
theorem dX12_events_19 : decode cX12_events 19 = .ok (.aload_n 0, 1) := by decide +kernel
theorem dX12_events_20 : decode cX12_events 20 = .ok (.getfield 25, 3) := by decide +kernel
theorem dX12_events_23 : decode cX12_events 23 = .ok (.iload_n 1, 1) := by decide +kernel
theorem dX12_events_24 : decode cX12_events 24 = .ok (.iload_n 2, 1) := by decide +kernel
theorem dX12_events_25 : decode cX12_events 25 = .ok (.invokestatic 139, 3) := by decide +kernel
theorem dX12_events_28 : decode cX12_events 28 = .ok (.iaload, 1) := by decide +kernel
theorem dX12_events_29 : decode cX12_events 29 = .ok (.goto 4, 3) := by decide +kernel
theorem dX12_events_32 : decode cX12_events 32 = .ok (.iconst 0, 1) := by decide +kernel
theorem dX12_events_33 : decode cX12_events 33 = .ok (.ireturn, 1) := by decide +kernel
theorem dX12_left_0 : decode cX12_left 0 = .ok (.aload_n 0, 1) := by decide +kernel
theorem dX12_left_1 : decode cX12_left 1 = .ok (.iload_n 1, 1) := by decide +kernel
theorem dX12_left_2 : decode cX12_left 2 = .ok (.invokestatic 184, 3) := by decide +kernel
theorem dX12_left_5 : decode cX12_left 5 = .ok (.aload_n 0, 1) := by decide +kernel
theorem dX12_left_6 : decode cX12_left 6 = .ok (.iload_n 2, 1) := by decide +kernel
theorem dX12_left_7 : decode cX12_left 7 = .ok (.invokevirtual 143, 3) := by decide +kernel
theorem dX12_left_10 : decode cX12_left 10 = .ok (.iconst 1, 1) := by decide +kernel
theorem dX12_left_11 : decode cX12_left 11 = .ok (.invokevirtual 165, 3) := by decide +kernel
theorem dX12_left_14 : decode cX12_left 14 = .ok (.ifCond .eq 18, 3) := by decide +kernel
theorem dX12_left_17 : decode cX12_left 17 = .ok (.aload_n 0, 1) := by decide +kernel
theorem dX12_left_18 : decode cX12_left 18 = .ok (.iload_n 2, 1) := by decide +kernel
theorem dX12_left_19 : decode cX12_left 19 = .ok (.invokevirtual 172, 3) := by decide +kernel
theorem dX12_left_22 : decode cX12_left 22 = .ok (.aload_n 0, 1) := by decide +kernel
theorem dX12_left_23 : decode cX12_left 23 = .ok (.iload_n 1, 1) := by decide +kernel
theorem dX12_left_24 : decode cX12_left 24 = .ok (.iload_n 2, 1) := by decide +kernel
theorem dX12_left_25 : decode cX12_left 25 = .ok (.invokevirtual 169, 3) := by decide +kernel
theorem dX12_left_28 : decode cX12_left 28 = .ok (.isub, 1) := by decide +kernel
theorem dX12_left_29 : decode cX12_left 29 = .ok (.goto 4, 3) := by decide +kernel
theorem dX12_left_32 : decode cX12_left 32 = .ok (.iconst 0, 1) := by decide +kernel
theorem dX12_left_33 : decode cX12_left 33 = .ok (.ireturn, 1) := by decide +kernel
theorem dX12_isRightIn_0 : decode cX12_isRightIn 0 = .ok (.aload_n 0, 1) := by decide +kernel
theorem dX12_isRightIn_1 : decode cX12_isRightIn 1 = .ok (.getfield 25, 3) := by decide +kernel
theorem dX12_isRightIn_4 : decode cX12_isRightIn 4 = .ok (.iload_n 1, 1) := by decide +kernel
theorem dX12_isRightIn_5 : decode cX12_isRightIn 5 = .ok (.iload_n 2, 1) := by decide +kernel
theorem dX12_isRightIn_6 : decode cX12_isRightIn 6 = .ok (.invokestatic 139, 3) := by decide +kernel
theorem dX12_isRightIn_9 : decode cX12_isRightIn 9 = .ok (.iaload, 1) := by decide +kernel
theorem dX12_isRightIn_10 : decode cX12_isRightIn 10 = .ok (.istore_n 3, 1) := by decide +kernel
theorem dX12_isRightIn_11 : decode cX12_isRightIn 11 = .ok (.iload_n 3, 1) := by decide +kernel
theorem dX12_isRightIn_12 : decode cX12_isRightIn 12 = .ok (.ifCond .eq 17, 3) := by decide +kernel
theorem dX12_isRightIn_15 : decode cX12_isRightIn 15 = .ok (.aload_n 0, 1) := by decide +kernel
theorem dX12_isRightIn_16 : decode cX12_isRightIn 16 = .ok (.iload_n 1, 1) := by decide +kernel
theorem dX12_isRightIn_17 : decode cX12_isRightIn 17 = .ok (.iload_n 2, 1) := by decide +kernel
theorem dX12_isRightIn_18 : decode cX12_isRightIn 18 = .ok (.invokevirtual 169, 3) := by decide +kernel
theorem dX12_isRightIn_21 : decode cX12_isRightIn 21 = .ok (.aload_n 0, 1) := by decide +kernel
theorem dX12_isRightIn_22 : decode cX12_isRightIn 22 = .ok (.iload_n 2, 1) := by decide +kernel
theorem dX12_isRightIn_23 : decode cX12_isRightIn 23 = .ok (.invokevirtual 172, 3) := by decide +kernel
theorem dX12_isRightIn_26 : decode cX12_isRightIn 26 = .ok (.if_icmp .ne 7, 3) := by decide +kernel
theorem dX12_isRightIn_29 : decode cX12_isRightIn 29 = .ok (.iconst 1, 1) := by decide +kernel
theorem dX12_isRightIn_30 : decode cX12_isRightIn 30 = .ok (.goto 4, 3) := by decide +kernel
theorem dX12_isRightIn_33 : decode cX12_isRightIn 33 = .ok (.iconst 0, 1) := by decide +kernel
theorem dX12_isRightIn_34 : decode cX12_isRightIn 34 = .ok (.istore 4, 2) := by decide +kernel
theorem dX12_isRightIn_36 : decode cX12_isRightIn 36 = .ok (.iconst 0, 1) := by decide +kernel
theorem dX12_isRightIn_37 : decode cX12_isRightIn 37 = .ok (.istore 5, 2) := by decide +kernel
theorem dX12_isRightIn_39 : decode cX12_isRightIn 39 = .ok (.iconst 0, 1) := by decide +kernel
theorem dX12_isRightIn_40 : decode cX12_isRightIn 40 = .ok (.istore 6, 2) := by decide +kernel
theorem dX12_isRightIn_42 : decode cX12_isRightIn 42 = .ok (.iload 6, 2) := by decide +kernel
theorem dX12_isRightIn_44 : decode cX12_isRightIn 44 = .ok (.iload_n 3, 1) := by decide +kernel
theorem dX12_isRightIn_45 : decode cX12_isRightIn 45 = .ok (.if_icmp .ge 82, 3) := by decide +kernel
theorem dX12_isRightIn_48 : decode cX12_isRightIn 48 = .ok (.aload_n 0, 1) := by decide +kernel
theorem dX12_isRightIn_49 : decode cX12_isRightIn 49 = .ok (.getfield 38, 3) := by decide +kernel
theorem dX12_isRightIn_52 : decode cX12_isRightIn 52 = .ok (.iload_n 1, 1) := by decide +kernel
theorem dX12_isRightIn_53 : decode cX12_isRightIn 53 = .ok (.iload_n 2, 1) := by decide +kernel
theorem dX12_isRightIn_54 : decode cX12_isRightIn 54 = .ok (.iload 6, 2) := by decide +kernel
theorem dX12_isRightIn_56 : decode cX12_isRightIn 56 = .ok (.invokestatic 151, 3) := by decide +kernel
theorem dX12_isRightIn_59 : decode cX12_isRightIn 59 = .ok (.iaload, 1) := by decide +kernel
theorem dX12_isRightIn_60 : decode cX12_isRightIn 60 = .ok (.iconst 2, 1) := by decide +kernel
theorem dX12_isRightIn_61 : decode cX12_isRightIn 61 = .ok (.if_icmp .ne 7, 3) := by decide +kernel
theorem dX12_isRightIn_64 : decode cX12_isRightIn 64 = .ok (.iconst 1, 1) := by decide +kernel
theorem dX12_isRightIn_65 : decode cX12_isRightIn 65 = .ok (.goto 4, 3) := by decide +kernel
theorem dX12_isRightIn_68 : decode cX12_isRightIn 68 = .ok (.iconst 0, 1) := by decide +kernel
theorem dX12_isRightIn_69 : decode cX12_isRightIn 69 = .ok (.istore 7, 2) := by decide +kernel
theorem dX12_isRightIn_71 : decode cX12_isRightIn 71 = .ok (.iload 4, 2) := by decide +kernel
theorem dX12_isRightIn_73 : decode cX12_isRightIn 73 = .ok (.ifCond .eq 20, 3) := by decide +kernel
theorem dX12_isRightIn_76 : decode cX12_isRightIn 76 = .ok (.iload 7, 2) := by decide +kernel
theorem dX12_isRightIn_78 : decode cX12_isRightIn 78 = .ok (.ifCond .ne 11, 3) := by decide +kernel
theorem dX12_isRightIn_81 : decode cX12_isRightIn 81 = .ok (.iload 5, 2) := by decide +kernel
theorem dX12_isRightIn_83 : decode cX12_isRightIn 83 = .ok (.bipush 6, 2) := by decide +kernel
theorem dX12_isRightIn_85 : decode cX12_isRightIn 85 = .ok (.irem, 1) := by decide +kernel
theorem dX12_isRightIn_86 : decode cX12_isRightIn 86 = .ok (.ifCond .ne 7, 3) := by decide +kernel
theorem dX12_isRightIn_89 : decode cX12_isRightIn 89 = .ok (.iconst 1, 1) := by decide +kernel
theorem dX12_isRightIn_90 : decode cX12_isRightIn 90 = .ok (.goto 4, 3) := by decide +kernel
theorem dX12_isRightIn_93 : decode cX12_isRightIn 93 = .ok (.iconst 0, 1) := by decide +kernel
theorem dX12_isRightIn_94 : decode cX12_isRightIn 94 = .ok (.istore 4, 2) := by decide +kernel
theorem dX12_isRightIn_96 : decode cX12_isRightIn 96 = .ok (.iload 7, 2) := by decide +kernel
theorem dX12_isRightIn_98 : decode cX12_isRightIn 98 = .ok (.ifCond .eq 20, 3) := by decide +kernel
theorem dX12_isRightIn_101 : decode cX12_isRightIn 101 = .ok (.iload 5, 2) := by decide +kernel
theorem dX12_isRightIn_103 : decode cX12_isRightIn 103 = .ok (.aload_n 0, 1) := by decide +kernel
theorem dX12_isRightIn_104 : decode cX12_isRightIn 104 = .ok (.iload_n 1, 1) := by decide +kernel
theorem dX12_isRightIn_105 : decode cX12_isRightIn 105 = .ok (.iload_n 2, 1) := by decide +kernel
theorem dX12_isRightIn_106 : decode cX12_isRightIn 106 = .ok (.iload 6, 2) := by decide +kernel
theorem dX12_isRightIn_108 : decode cX12_isRightIn 108 = .ok (.invokestatic 151, 3) := by decide +kernel
theorem dX12_isRightIn_111 : decode cX12_isRightIn 111 = .ok (.invokevirtual 155, 3) := by decide +kernel
theorem dX12_isRightIn_114 : decode cX12_isRightIn 114 = .ok (.iadd, 1) := by decide +kernel
theorem dX12_isRightIn_115 : decode cX12_isRightIn 115 = .ok (.goto 4, 3) := by decide +kernel
theorem dX12_isRightIn_118 : decode cX12_isRightIn 118 = .ok (.iconst 0, 1) := by decide +kernel
theorem dX12_isRightIn_119 : decode cX12_isRightIn 119 = .ok (.istore 5, 2) := by decide +kernel
theorem dX12_isRightIn_121 : decode cX12_isRightIn 121 = .ok (.iinc 6 1, 3) := by decide +kernel
theorem dX12_isRightIn_124 : decode cX12_isRightIn 124 = .ok (.goto (-82), 3) := by decide +kernel
theorem dX12_isRightIn_127 : decode cX12_isRightIn 127 = .ok (.iload 4, 2) := by decide +kernel
theorem dX12_isRightIn_129 : decode cX12_isRightIn 129 = .ok (.ifCond .eq 15, 3) := by decide +kernel
theorem dX12_isRightIn_132 : decode cX12_isRightIn 132 = .ok (.iload 5, 2) := by decide +kernel
theorem dX12_isRightIn_134 : decode cX12_isRightIn 134 = .ok (.bipush 6, 2) := by decide +kernel
theorem dX12_isRightIn_136 : decode cX12_isRightIn 136 = .ok (.irem, 1) := by decide +kernel
theorem dX12_isRightIn_137 : decode cX12_isRightIn 137 = .ok (.ifCond .ne 7, 3) := by decide +kernel
theorem dX12_isRightIn_140 : decode cX12_isRightIn 140 = .ok (.iconst 1, 1) := by decide +kernel
theorem dX12_isRightIn_141 : decode cX12_isRightIn 141 = .ok (.goto 4, 3) := by decide +kernel
theorem dX12_isRightIn_144 : decode cX12_isRightIn 144 = .ok (.iconst 0, 1) := by decide +kernel
theorem dX12_isRightIn_145 : decode cX12_isRightIn 145 = .ok (.ireturn, 1) := by decide +kernel
theorem dX12_isRight_0 : decode cX12_isRight 0 = .ok (.aload_n 0, 1) := by decide +kernel
theorem dX12_isRight_1 : decode cX12_isRight 1 = .ok (.iload_n 1, 1) := by decide +kernel
theorem dX12_isRight_2 : decode cX12_isRight 2 = .ok (.invokestatic 184, 3) := by decide +kernel
theorem dX12_isRight_5 : decode cX12_isRight 5 = .ok (.aload_n 0, 1) := by decide +kernel
theorem dX12_isRight_6 : decode cX12_isRight 6 = .ok (.iload_n 2, 1) := by decide +kernel
theorem dX12_isRight_7 : decode cX12_isRight 7 = .ok (.invokevirtual 143, 3) := by decide +kernel
theorem dX12_isRight_10 : decode cX12_isRight 10 = .ok (.iconst 1, 1) := by decide +kernel
theorem dX12_isRight_11 : decode cX12_isRight 11 = .ok (.invokevirtual 165, 3) := by decide +kernel
theorem dX12_isRight_14 : decode cX12_isRight 14 = .ok (.ifCond .eq 16, 3) := by decide +kernel
theorem dX12_isRight_17 : decode cX12_isRight 17 = .ok (.aload_n 0, 1) := by decide +kernel
theorem dX12_isRight_18 : decode cX12_isRight 18 = .ok (.iload_n 1, 1) := by decide +kernel
theorem dX12_isRight_19 : decode cX12_isRight 19 = .ok (.iload_n 2, 1) := by decide +kernel
theorem dX12_isRight_20 : decode cX12_isRight 20 = .ok (.invokevirtual 201, 3) := by decide +kernel
theorem dX12_isRight_23 : decode cX12_isRight 23 = .ok (.ifCond .eq 7, 3) := by decide +kernel
theorem dX12_isRight_26 : decode cX12_isRight 26 = .ok (.iconst 1, 1) := by decide +kernel
theorem dX12_isRight_27 : decode cX12_isRight 27 = .ok (.goto 4, 3) := by decide +kernel
theorem dX12_isRight_30 : decode cX12_isRight 30 = .ok (.iconst 0, 1) := by decide +kernel
theorem dX12_isRight_31 : decode cX12_isRight 31 = .ok (.ireturn, 1) := by decide +kernel
theorem dX12_written_0 : decode cX12_written 0 = .ok (.iload_n 1, 1) := by decide +kernel
theorem dX12_written_1 : decode cX12_written 1 = .ok (.invokestatic 184, 3) := by decide +kernel
theorem dX12_written_4 : decode cX12_written 4 = .ok (.istore 4, 2) := by decide +kernel
theorem dX12_written_6 : decode cX12_written 6 = .ok (.aload_n 0, 1) := by decide +kernel
theorem dX12_written_7 : decode cX12_written 7 = .ok (.iload 4, 2) := by decide +kernel
theorem dX12_written_9 : decode cX12_written 9 = .ok (.iload 4, 2) := by decide +kernel
theorem dX12_written_11 : decode cX12_written 11 = .ok (.ifCond .eq 17, 3) := by decide +kernel
theorem dX12_written_14 : decode cX12_written 14 = .ok (.aload_n 0, 1) := by decide +kernel
theorem dX12_written_15 : decode cX12_written 15 = .ok (.iload_n 1, 1) := by decide +kernel
theorem dX12_written_16 : decode cX12_written 16 = .ok (.iload_n 2, 1) := by decide +kernel
theorem dX12_written_17 : decode cX12_written 17 = .ok (.iload_n 3, 1) := by decide +kernel
theorem dX12_written_18 : decode cX12_written 18 = .ok (.invokevirtual 198, 3) := by decide +kernel
theorem dX12_written_21 : decode cX12_written 21 = .ok (.ifCond .eq 7, 3) := by decide +kernel
theorem dX12_written_24 : decode cX12_written 24 = .ok (.iconst 1, 1) := by decide +kernel
theorem dX12_written_25 : decode cX12_written 25 = .ok (.goto 4, 3) := by decide +kernel
theorem dX12_written_28 : decode cX12_written 28 = .ok (.iconst 0, 1) := by decide +kernel
theorem dX12_written_29 : decode cX12_written 29 = .ok (.iconst 1, 1) := by decide +kernel
theorem dX12_written_30 : decode cX12_written 30 = .ok (.invokevirtual 165, 3) := by decide +kernel
theorem dX12_written_33 : decode cX12_written 33 = .ok (.ifCond .ne 5, 3) := by decide +kernel
theorem dX12_written_36 : decode cX12_written 36 = .ok (.iconst 0, 1) := by decide +kernel
theorem dX12_written_37 : decode cX12_written 37 = .ok (.ireturn, 1) := by decide +kernel
theorem dX12_written_38 : decode cX12_written 38 = .ok (.aload_n 0, 1) := by decide +kernel
theorem dX12_written_39 : decode cX12_written 39 = .ok (.getfield 32, 3) := by decide +kernel
theorem dX12_written_42 : decode cX12_written 42 = .ok (.iload_n 1, 1) := by decide +kernel
theorem dX12_written_43 : decode cX12_written 43 = .ok (.iload_n 2, 1) := by decide +kernel
theorem dX12_written_44 : decode cX12_written 44 = .ok (.iload_n 3, 1) := by decide +kernel
theorem dX12_written_45 : decode cX12_written 45 = .ok (.invokestatic 151, 3) := by decide +kernel
theorem dX12_written_48 : decode cX12_written 48 = .ok (.iaload, 1) := by decide +kernel
theorem dX12_written_49 : decode cX12_written 49 = .ok (.istore 5, 2) := by decide +kernel
theorem dX12_written_51 : decode cX12_written 51 = .ok (.iload 5, 2) := by decide +kernel
theorem dX12_written_53 : decode cX12_written 53 = .ok (.ifCond .ne 7, 3) := by decide +kernel
theorem dX12_written_56 : decode cX12_written 56 = .ok (.iconst (-1), 1) := by decide +kernel
theorem dX12_written_57 : decode cX12_written 57 = .ok (.goto 12, 3) := by decide +kernel
theorem dX12_written_60 : decode cX12_written 60 = .ok (.iload 5, 2) := by decide +kernel
theorem dX12_written_62 : decode cX12_written 62 = .ok (.aload_n 0, 1) := by decide +kernel
theorem dX12_written_63 : decode cX12_written 63 = .ok (.getfield 47, 3) := by decide +kernel
theorem dX12_written_66 : decode cX12_written 66 = .ok (.iload_n 1, 1) := by decide +kernel
theorem dX12_written_67 : decode cX12_written 67 = .ok (.iaload, 1) := by decide +kernel
theorem dX12_written_68 : decode cX12_written 68 = .ok (.iadd, 1) := by decide +kernel
theorem dX12_written_69 : decode cX12_written 69 = .ok (.ireturn, 1) := by decide +kernel
theorem dX12_addPhrase_0 : decode cX12_addPhrase 0 = .ok (.iload_n 1, 1) := by decide +kernel
theorem dX12_addPhrase_1 : decode cX12_addPhrase 1 = .ok (.invokestatic 184, 3) := by decide +kernel
theorem dX12_addPhrase_4 : decode cX12_addPhrase 4 = .ok (.istore 6, 2) := by decide +kernel
theorem dX12_addPhrase_6 : decode cX12_addPhrase 6 = .ok (.iload 6, 2) := by decide +kernel
theorem dX12_addPhrase_8 : decode cX12_addPhrase 8 = .ok (.ifCond .eq 29, 3) := by decide +kernel
theorem dX12_addPhrase_11 : decode cX12_addPhrase 11 = .ok (.aload_n 0, 1) := by decide +kernel
theorem dX12_addPhrase_12 : decode cX12_addPhrase 12 = .ok (.iload_n 1, 1) := by decide +kernel
theorem dX12_addPhrase_13 : decode cX12_addPhrase 13 = .ok (.iload_n 2, 1) := by decide +kernel
theorem dX12_addPhrase_14 : decode cX12_addPhrase 14 = .ok (.iload_n 3, 1) := by decide +kernel
theorem dX12_addPhrase_15 : decode cX12_addPhrase 15 = .ok (.invokevirtual 198, 3) := by decide +kernel
theorem dX12_addPhrase_18 : decode cX12_addPhrase 18 = .ok (.ifCond .eq 19, 3) := by decide +kernel
theorem dX12_addPhrase_21 : decode cX12_addPhrase 21 = .ok (.aload_n 0, 1) := by decide +kernel
theorem dX12_addPhrase_22 : decode cX12_addPhrase 22 = .ok (.iload_n 1, 1) := by decide +kernel
theorem dX12_addPhrase_23 : decode cX12_addPhrase 23 = .ok (.iload 4, 2) := by decide +kernel
theorem dX12_addPhrase_25 : decode cX12_addPhrase 25 = .ok (.iload 5, 2) := by decide +kernel
theorem dX12_addPhrase_27 : decode cX12_addPhrase 27 = .ok (.invokevirtual 198, 3) := by decide +kernel
theorem dX12_addPhrase_30 : decode cX12_addPhrase 30 = .ok (.ifCond .eq 7, 3) := by decide +kernel
theorem dX12_addPhrase_33 : decode cX12_addPhrase 33 = .ok (.iconst 1, 1) := by decide +kernel
theorem dX12_addPhrase_34 : decode cX12_addPhrase 34 = .ok (.goto 4, 3) := by decide +kernel
theorem dX12_addPhrase_37 : decode cX12_addPhrase 37 = .ok (.iconst 0, 1) := by decide +kernel
theorem dX12_addPhrase_38 : decode cX12_addPhrase 38 = .ok (.istore 7, 2) := by decide +kernel
theorem dX12_addPhrase_40 : decode cX12_addPhrase 40 = .ok (.iload 4, 2) := by decide +kernel
theorem dX12_addPhrase_42 : decode cX12_addPhrase 42 = .ok (.iload_n 2, 1) := by decide +kernel
theorem dX12_addPhrase_43 : decode cX12_addPhrase 43 = .ok (.if_icmp .gt 15, 3) := by decide +kernel
theorem dX12_addPhrase_46 : decode cX12_addPhrase 46 = .ok (.iload 4, 2) := by decide +kernel
theorem dX12_addPhrase_48 : decode cX12_addPhrase 48 = .ok (.iload_n 2, 1) := by decide +kernel
theorem dX12_addPhrase_49 : decode cX12_addPhrase 49 = .ok (.if_icmp .ne 13, 3) := by decide +kernel
theorem dX12_addPhrase_52 : decode cX12_addPhrase 52 = .ok (.iload 5, 2) := by decide +kernel
theorem dX12_addPhrase_54 : decode cX12_addPhrase 54 = .ok (.iload_n 3, 1) := by decide +kernel
theorem dX12_addPhrase_55 : decode cX12_addPhrase 55 = .ok (.if_icmp .le 7, 3) := by decide +kernel
theorem dX12_addPhrase_58 : decode cX12_addPhrase 58 = .ok (.iconst 1, 1) := by decide +kernel
theorem dX12_addPhrase_59 : decode cX12_addPhrase 59 = .ok (.goto 4, 3) := by decide +kernel
theorem dX12_addPhrase_62 : decode cX12_addPhrase 62 = .ok (.iconst 0, 1) := by decide +kernel
theorem dX12_addPhrase_63 : decode cX12_addPhrase 63 = .ok (.istore 8, 2) := by decide +kernel
theorem dX12_addPhrase_65 : decode cX12_addPhrase 65 = .ok (.aload_n 0, 1) := by decide +kernel
theorem dX12_addPhrase_66 : decode cX12_addPhrase 66 = .ok (.iload 6, 2) := by decide +kernel
theorem dX12_addPhrase_68 : decode cX12_addPhrase 68 = .ok (.iload 7, 2) := by decide +kernel
theorem dX12_addPhrase_70 : decode cX12_addPhrase 70 = .ok (.iload 8, 2) := by decide +kernel
theorem dX12_addPhrase_72 : decode cX12_addPhrase 72 = .ok (.ifCond .eq 16, 3) := by decide +kernel
theorem dX12_addPhrase_75 : decode cX12_addPhrase 75 = .ok (.aload_n 0, 1) := by decide +kernel
theorem dX12_addPhrase_76 : decode cX12_addPhrase 76 = .ok (.getfield 181, 3) := by decide +kernel
theorem dX12_addPhrase_79 : decode cX12_addPhrase 79 = .ok (.bipush 20, 2) := by decide +kernel
theorem dX12_addPhrase_81 : decode cX12_addPhrase 81 = .ok (.if_icmp .ge 7, 3) := by decide +kernel
theorem dX12_addPhrase_84 : decode cX12_addPhrase 84 = .ok (.iconst 1, 1) := by decide +kernel
theorem dX12_addPhrase_85 : decode cX12_addPhrase 85 = .ok (.goto 4, 3) := by decide +kernel
theorem dX12_addPhrase_88 : decode cX12_addPhrase 88 = .ok (.iconst 0, 1) := by decide +kernel
theorem dX12_addPhrase_89 : decode cX12_addPhrase 89 = .ok (.invokevirtual 165, 3) := by decide +kernel
theorem dX12_addPhrase_92 : decode cX12_addPhrase 92 = .ok (.ifCond .ne 5, 3) := by decide +kernel
theorem dX12_addPhrase_95 : decode cX12_addPhrase 95 = .ok (.iconst 0, 1) := by decide +kernel
theorem dX12_addPhrase_96 : decode cX12_addPhrase 96 = .ok (.ireturn, 1) := by decide +kernel
theorem dX12_addPhrase_97 : decode cX12_addPhrase 97 = .ok (.aload_n 0, 1) := by decide +kernel
theorem dX12_addPhrase_98 : decode cX12_addPhrase 98 = .ok (.getfield 50, 3) := by decide +kernel
theorem dX12_addPhrase_101 : decode cX12_addPhrase 101 = .ok (.aload_n 0, 1) := by decide +kernel
theorem dX12_addPhrase_102 : decode cX12_addPhrase 102 = .ok (.getfield 181, 3) := by decide +kernel
theorem dX12_addPhrase_105 : decode cX12_addPhrase 105 = .ok (.iload_n 1, 1) := by decide +kernel
theorem dX12_addPhrase_106 : decode cX12_addPhrase 106 = .ok (.iastore, 1) := by decide +kernel
theorem dX12_addPhrase_107 : decode cX12_addPhrase 107 = .ok (.aload_n 0, 1) := by decide +kernel
theorem dX12_addPhrase_108 : decode cX12_addPhrase 108 = .ok (.getfield 53, 3) := by decide +kernel
theorem dX12_addPhrase_111 : decode cX12_addPhrase 111 = .ok (.aload_n 0, 1) := by decide +kernel
theorem dX12_addPhrase_112 : decode cX12_addPhrase 112 = .ok (.getfield 181, 3) := by decide +kernel
theorem dX12_addPhrase_115 : decode cX12_addPhrase 115 = .ok (.iload_n 2, 1) := by decide +kernel
theorem dX12_addPhrase_116 : decode cX12_addPhrase 116 = .ok (.iastore, 1) := by decide +kernel
theorem dX12_addPhrase_117 : decode cX12_addPhrase 117 = .ok (.aload_n 0, 1) := by decide +kernel
theorem dX12_addPhrase_118 : decode cX12_addPhrase 118 = .ok (.getfield 56, 3) := by decide +kernel
theorem dX12_addPhrase_121 : decode cX12_addPhrase 121 = .ok (.aload_n 0, 1) := by decide +kernel
theorem dX12_addPhrase_122 : decode cX12_addPhrase 122 = .ok (.getfield 181, 3) := by decide +kernel
theorem dX12_addPhrase_125 : decode cX12_addPhrase 125 = .ok (.iload_n 3, 1) := by decide +kernel
theorem dX12_addPhrase_126 : decode cX12_addPhrase 126 = .ok (.iastore, 1) := by decide +kernel
theorem dX12_addPhrase_127 : decode cX12_addPhrase 127 = .ok (.aload_n 0, 1) := by decide +kernel
theorem dX12_addPhrase_128 : decode cX12_addPhrase 128 = .ok (.getfield 59, 3) := by decide +kernel
theorem dX12_addPhrase_131 : decode cX12_addPhrase 131 = .ok (.aload_n 0, 1) := by decide +kernel
theorem dX12_addPhrase_132 : decode cX12_addPhrase 132 = .ok (.getfield 181, 3) := by decide +kernel
theorem dX12_addPhrase_135 : decode cX12_addPhrase 135 = .ok (.iload 4, 2) := by decide +kernel
theorem dX12_addPhrase_137 : decode cX12_addPhrase 137 = .ok (.iastore, 1) := by decide +kernel
theorem dX12_addPhrase_138 : decode cX12_addPhrase 138 = .ok (.aload_n 0, 1) := by decide +kernel
theorem dX12_addPhrase_139 : decode cX12_addPhrase 139 = .ok (.getfield 62, 3) := by decide +kernel
theorem dX12_addPhrase_142 : decode cX12_addPhrase 142 = .ok (.aload_n 0, 1) := by decide +kernel
theorem dX12_addPhrase_143 : decode cX12_addPhrase 143 = .ok (.getfield 181, 3) := by decide +kernel
theorem dX12_addPhrase_146 : decode cX12_addPhrase 146 = .ok (.iload 5, 2) := by decide +kernel
theorem dX12_addPhrase_148 : decode cX12_addPhrase 148 = .ok (.iastore, 1) := by decide +kernel
theorem dX12_addPhrase_149 : decode cX12_addPhrase 149 = .ok (.aload_n 0, 1) := by decide +kernel
theorem dX12_addPhrase_150 : decode cX12_addPhrase 150 = .ok (.dup, 1) := by decide +kernel
theorem dX12_addPhrase_151 : decode cX12_addPhrase 151 = .ok (.getfield 181, 3) := by decide +kernel
theorem dX12_addPhrase_154 : decode cX12_addPhrase 154 = .ok (.iconst 1, 1) := by decide +kernel
theorem dX12_addPhrase_155 : decode cX12_addPhrase 155 = .ok (.iadd, 1) := by decide +kernel
theorem dX12_addPhrase_156 : decode cX12_addPhrase 156 = .ok (.putfield 181, 3) := by decide +kernel
theorem dX12_addPhrase_159 : decode cX12_addPhrase 159 = .ok (.aload_n 0, 1) := by decide +kernel
theorem dX12_addPhrase_160 : decode cX12_addPhrase 160 = .ok (.getfield 181, 3) := by decide +kernel
theorem dX12_addPhrase_163 : decode cX12_addPhrase 163 = .ok (.iconst 1, 1) := by decide +kernel
theorem dX12_addPhrase_164 : decode cX12_addPhrase 164 = .ok (.isub, 1) := by decide +kernel
theorem dX12_addPhrase_165 : decode cX12_addPhrase 165 = .ok (.ireturn, 1) := by decide +kernel
theorem dX12_dropPhrase_0 : decode cX12_dropPhrase 0 = .ok (.aload_n 0, 1) := by decide +kernel
theorem dX12_dropPhrase_1 : decode cX12_dropPhrase 1 = .ok (.iload_n 1, 1) := by decide +kernel
theorem dX12_dropPhrase_2 : decode cX12_dropPhrase 2 = .ok (.iconst 0, 1) := by decide +kernel
theorem dX12_dropPhrase_3 : decode cX12_dropPhrase 3 = .ok (.aload_n 0, 1) := by decide +kernel
theorem dX12_dropPhrase_4 : decode cX12_dropPhrase 4 = .ok (.getfield 181, 3) := by decide +kernel
theorem dX12_dropPhrase_7 : decode cX12_dropPhrase 7 = .ok (.iconst 1, 1) := by decide +kernel
theorem dX12_dropPhrase_8 : decode cX12_dropPhrase 8 = .ok (.isub, 1) := by decide +kernel
theorem dX12_dropPhrase_9 : decode cX12_dropPhrase 9 = .ok (.invokestatic 135, 3) := by decide +kernel
theorem dX12_dropPhrase_12 : decode cX12_dropPhrase 12 = .ok (.iconst 1, 1) := by decide +kernel
theorem dX12_dropPhrase_13 : decode cX12_dropPhrase 13 = .ok (.iconst 1, 1) := by decide +kernel
theorem dX12_dropPhrase_14 : decode cX12_dropPhrase 14 = .ok (.invokevirtual 165, 3) := by decide +kernel
theorem dX12_dropPhrase_17 : decode cX12_dropPhrase 17 = .ok (.ifCond .ne 5, 3) := by decide +kernel
theorem dX12_dropPhrase_20 : decode cX12_dropPhrase 20 = .ok (.iconst 0, 1) := by decide +kernel
theorem dX12_dropPhrase_21 : decode cX12_dropPhrase 21 = .ok (.ireturn, 1) := by decide +kernel
theorem dX12_dropPhrase_22 : decode cX12_dropPhrase 22 = .ok (.aload_n 0, 1) := by decide +kernel
theorem dX12_dropPhrase_23 : decode cX12_dropPhrase 23 = .ok (.getfield 65, 3) := by decide +kernel
theorem dX12_dropPhrase_26 : decode cX12_dropPhrase 26 = .ok (.iload_n 1, 1) := by decide +kernel
theorem dX12_dropPhrase_27 : decode cX12_dropPhrase 27 = .ok (.baload, 1) := by decide +kernel
theorem dX12_dropPhrase_28 : decode cX12_dropPhrase 28 = .ok (.ifCond .ne 7, 3) := by decide +kernel
theorem dX12_dropPhrase_31 : decode cX12_dropPhrase 31 = .ok (.iconst 1, 1) := by decide +kernel
theorem dX12_dropPhrase_32 : decode cX12_dropPhrase 32 = .ok (.goto 4, 3) := by decide +kernel
theorem dX12_dropPhrase_35 : decode cX12_dropPhrase 35 = .ok (.iconst 0, 1) := by decide +kernel
theorem dX12_dropPhrase_36 : decode cX12_dropPhrase 36 = .ok (.istore_n 2, 1) := by decide +kernel
theorem dX12_dropPhrase_37 : decode cX12_dropPhrase 37 = .ok (.aload_n 0, 1) := by decide +kernel
theorem dX12_dropPhrase_38 : decode cX12_dropPhrase 38 = .ok (.getfield 65, 3) := by decide +kernel
theorem dX12_dropPhrase_41 : decode cX12_dropPhrase 41 = .ok (.iload_n 1, 1) := by decide +kernel
theorem dX12_dropPhrase_42 : decode cX12_dropPhrase 42 = .ok (.iconst 1, 1) := by decide +kernel
theorem dX12_dropPhrase_43 : decode cX12_dropPhrase 43 = .ok (.bastore, 1) := by decide +kernel
theorem dX12_dropPhrase_44 : decode cX12_dropPhrase 44 = .ok (.iload_n 2, 1) := by decide +kernel
theorem dX12_dropPhrase_45 : decode cX12_dropPhrase 45 = .ok (.ireturn, 1) := by decide +kernel
theorem dX12_phrases_0 : decode cX12_phrases 0 = .ok (.iconst 0, 1) := by decide +kernel
theorem dX12_phrases_1 : decode cX12_phrases 1 = .ok (.istore_n 1, 1) := by decide +kernel
theorem dX12_phrases_2 : decode cX12_phrases 2 = .ok (.iconst 0, 1) := by decide +kernel
theorem dX12_phrases_3 : decode cX12_phrases 3 = .ok (.istore_n 2, 1) := by decide +kernel
theorem dX12_phrases_4 : decode cX12_phrases 4 = .ok (.iload_n 2, 1) := by decide +kernel
theorem dX12_phrases_5 : decode cX12_phrases 5 = .ok (.aload_n 0, 1) := by decide +kernel
theorem dX12_phrases_6 : decode cX12_phrases 6 = .ok (.getfield 181, 3) := by decide +kernel
theorem dX12_phrases_9 : decode cX12_phrases 9 = .ok (.if_icmp .ge 26, 3) := by decide +kernel
theorem dX12_phrases_12 : decode cX12_phrases 12 = .ok (.iload_n 1, 1) := by decide +kernel
theorem dX12_phrases_13 : decode cX12_phrases 13 = .ok (.aload_n 0, 1) := by decide +kernel
theorem dX12_phrases_14 : decode cX12_phrases 14 = .ok (.getfield 65, 3) := by decide +kernel
theorem dX12_phrases_17 : decode cX12_phrases 17 = .ok (.iload_n 2, 1) := by decide +kernel
theorem dX12_phrases_18 : decode cX12_phrases 18 = .ok (.baload, 1) := by decide +kernel
theorem dX12_phrases_19 : decode cX12_phrases 19 = .ok (.ifCond .eq 7, 3) := by decide +kernel
theorem dX12_phrases_22 : decode cX12_phrases 22 = .ok (.iconst 0, 1) := by decide +kernel
theorem dX12_phrases_23 : decode cX12_phrases 23 = .ok (.goto 4, 3) := by decide +kernel
theorem dX12_phrases_26 : decode cX12_phrases 26 = .ok (.iconst 1, 1) := by decide +kernel
theorem dX12_phrases_27 : decode cX12_phrases 27 = .ok (.iadd, 1) := by decide +kernel
theorem dX12_phrases_28 : decode cX12_phrases 28 = .ok (.istore_n 1, 1) := by decide +kernel
theorem dX12_phrases_29 : decode cX12_phrases 29 = .ok (.iinc 2 1, 3) := by decide +kernel
theorem dX12_phrases_32 : decode cX12_phrases 32 = .ok (.goto (-28), 3) := by decide +kernel
theorem dX12_phrases_35 : decode cX12_phrases 35 = .ok (.aload_n 0, 1) := by decide +kernel
theorem dX12_phrases_36 : decode cX12_phrases 36 = .ok (.iload_n 1, 1) := by decide +kernel
theorem dX12_phrases_37 : decode cX12_phrases 37 = .ok (.invokevirtual 175, 3) := by decide +kernel
theorem dX12_phrases_40 : decode cX12_phrases 40 = .ok (.ireturn, 1) := by decide +kernel
theorem dX12_allowTurn_0 : decode cX12_allowTurn 0 = .ok (.aload_n 0, 1) := by decide +kernel
theorem dX12_allowTurn_1 : decode cX12_allowTurn 1 = .ok (.iload_n 1, 1) := by decide +kernel
theorem dX12_allowTurn_2 : decode cX12_allowTurn 2 = .ok (.invokestatic 184, 3) := by decide +kernel
theorem dX12_allowTurn_5 : decode cX12_allowTurn 5 = .ok (.aload_n 0, 1) := by decide +kernel
theorem dX12_allowTurn_6 : decode cX12_allowTurn 6 = .ok (.iload_n 2, 1) := by decide +kernel
theorem dX12_allowTurn_7 : decode cX12_allowTurn 7 = .ok (.invokevirtual 143, 3) := by decide +kernel
theorem dX12_allowTurn_10 : decode cX12_allowTurn 10 = .ok (.iconst 1, 1) := by decide +kernel
theorem dX12_allowTurn_11 : decode cX12_allowTurn 11 = .ok (.invokevirtual 165, 3) := by decide +kernel
theorem dX12_allowTurn_14 : decode cX12_allowTurn 14 = .ok (.ifCond .ne 5, 3) := by decide +kernel
theorem dX12_allowTurn_17 : decode cX12_allowTurn 17 = .ok (.iconst 0, 1) := by decide +kernel
theorem dX12_allowTurn_18 : decode cX12_allowTurn 18 = .ok (.ireturn, 1) := by decide +kernel
theorem dX12_allowTurn_19 : decode cX12_allowTurn 19 = .ok (.aload_n 0, 1) := by decide +kernel
theorem dX12_allowTurn_20 : decode cX12_allowTurn 20 = .ok (.getfield 28, 3) := by decide +kernel
theorem dX12_allowTurn_23 : decode cX12_allowTurn 23 = .ok (.iload_n 1, 1) := by decide +kernel
theorem dX12_allowTurn_24 : decode cX12_allowTurn 24 = .ok (.iload_n 2, 1) := by decide +kernel
theorem dX12_allowTurn_25 : decode cX12_allowTurn 25 = .ok (.invokestatic 139, 3) := by decide +kernel
theorem dX12_allowTurn_28 : decode cX12_allowTurn 28 = .ok (.baload, 1) := by decide +kernel
theorem dX12_allowTurn_29 : decode cX12_allowTurn 29 = .ok (.istore 4, 2) := by decide +kernel
theorem dX12_allowTurn_31 : decode cX12_allowTurn 31 = .ok (.aload_n 0, 1) := by decide +kernel
theorem dX12_allowTurn_32 : decode cX12_allowTurn 32 = .ok (.getfield 28, 3) := by decide +kernel
theorem dX12_allowTurn_35 : decode cX12_allowTurn 35 = .ok (.iload_n 1, 1) := by decide +kernel
theorem dX12_allowTurn_36 : decode cX12_allowTurn 36 = .ok (.iload_n 2, 1) := by decide +kernel
theorem dX12_allowTurn_37 : decode cX12_allowTurn 37 = .ok (.invokestatic 139, 3) := by decide +kernel
theorem dX12_allowTurn_40 : decode cX12_allowTurn 40 = .ok (.iload_n 3, 1) := by decide +kernel
theorem dX12_allowTurn_41 : decode cX12_allowTurn 41 = .ok (.bastore, 1) := by decide +kernel
theorem dX12_allowTurn_42 : decode cX12_allowTurn 42 = .ok (.iload 4, 2) := by decide +kernel
theorem dX12_allowTurn_44 : decode cX12_allowTurn 44 = .ok (.ireturn, 1) := by decide +kernel
theorem dX12_repeats_0 : decode cX12_repeats 0 = .ok (.iconst 0, 1) := by decide +kernel
theorem dX12_repeats_1 : decode cX12_repeats 1 = .ok (.istore_n 1, 1) := by decide +kernel
theorem dX12_repeats_2 : decode cX12_repeats 2 = .ok (.iconst 0, 1) := by decide +kernel
theorem dX12_repeats_3 : decode cX12_repeats 3 = .ok (.istore_n 2, 1) := by decide +kernel
theorem dX12_repeats_4 : decode cX12_repeats 4 = .ok (.iload_n 2, 1) := by decide +kernel
theorem dX12_repeats_5 : decode cX12_repeats 5 = .ok (.aload_n 0, 1) := by decide +kernel
theorem dX12_repeats_6 : decode cX12_repeats 6 = .ok (.getfield 132, 3) := by decide +kernel
theorem dX12_repeats_9 : decode cX12_repeats 9 = .ok (.if_icmp .ge 27, 3) := by decide +kernel
theorem dX12_repeats_12 : decode cX12_repeats 12 = .ok (.iload_n 1, 1) := by decide +kernel
theorem dX12_repeats_13 : decode cX12_repeats 13 = .ok (.aload_n 0, 1) := by decide +kernel
theorem dX12_repeats_14 : decode cX12_repeats 14 = .ok (.getfield 19, 3) := by decide +kernel
theorem dX12_repeats_17 : decode cX12_repeats 17 = .ok (.iload_n 2, 1) := by decide +kernel
theorem dX12_repeats_18 : decode cX12_repeats 18 = .ok (.iaload, 1) := by decide +kernel
theorem dX12_repeats_19 : decode cX12_repeats 19 = .ok (.iconst (-1), 1) := by decide +kernel
theorem dX12_repeats_20 : decode cX12_repeats 20 = .ok (.if_icmp .ne 7, 3) := by decide +kernel
theorem dX12_repeats_23 : decode cX12_repeats 23 = .ok (.iconst 0, 1) := by decide +kernel
theorem dX12_repeats_24 : decode cX12_repeats 24 = .ok (.goto 4, 3) := by decide +kernel
theorem dX12_repeats_27 : decode cX12_repeats 27 = .ok (.iconst 1, 1) := by decide +kernel
theorem dX12_repeats_28 : decode cX12_repeats 28 = .ok (.iadd, 1) := by decide +kernel
theorem dX12_repeats_29 : decode cX12_repeats 29 = .ok (.istore_n 1, 1) := by decide +kernel
theorem dX12_repeats_30 : decode cX12_repeats 30 = .ok (.iinc 2 1, 3) := by decide +kernel
theorem dX12_repeats_33 : decode cX12_repeats 33 = .ok (.goto (-29), 3) := by decide +kernel
theorem dX12_repeats_36 : decode cX12_repeats 36 = .ok (.iload_n 1, 1) := by decide +kernel
theorem dX12_repeats_37 : decode cX12_repeats 37 = .ok (.ireturn, 1) := by decide +kernel
theorem dX12_addRepeat_0 : decode cX12_addRepeat 0 = .ok (.aload_n 0, 1) := by decide +kernel
theorem dX12_addRepeat_1 : decode cX12_addRepeat 1 = .ok (.iload_n 1, 1) := by decide +kernel
theorem dX12_addRepeat_2 : decode cX12_addRepeat 2 = .ok (.invokevirtual 143, 3) := by decide +kernel
theorem dX12_addRepeat_5 : decode cX12_addRepeat 5 = .ok (.ifCond .eq 15, 3) := by decide +kernel
theorem dX12_addRepeat_8 : decode cX12_addRepeat 8 = .ok (.aload_n 0, 1) := by decide +kernel
theorem dX12_addRepeat_9 : decode cX12_addRepeat 9 = .ok (.iload_n 2, 1) := by decide +kernel
theorem dX12_addRepeat_10 : decode cX12_addRepeat 10 = .ok (.invokevirtual 143, 3) := by decide +kernel
theorem dX12_addRepeat_13 : decode cX12_addRepeat 13 = .ok (.ifCond .eq 7, 3) := by decide +kernel
theorem dX12_addRepeat_16 : decode cX12_addRepeat 16 = .ok (.iconst 1, 1) := by decide +kernel
theorem dX12_addRepeat_17 : decode cX12_addRepeat 17 = .ok (.goto 4, 3) := by decide +kernel
theorem dX12_addRepeat_20 : decode cX12_addRepeat 20 = .ok (.iconst 0, 1) := by decide +kernel
theorem dX12_addRepeat_21 : decode cX12_addRepeat 21 = .ok (.istore 4, 2) := by decide +kernel
theorem dX12_addRepeat_23 : decode cX12_addRepeat 23 = .ok (.iconst 1, 1) := by decide +kernel
theorem dX12_addRepeat_24 : decode cX12_addRepeat 24 = .ok (.istore 5, 2) := by decide +kernel
theorem dX12_addRepeat_26 : decode cX12_addRepeat 26 = .ok (.iconst 0, 1) := by decide +kernel
theorem dX12_addRepeat_27 : decode cX12_addRepeat 27 = .ok (.istore 6, 2) := by decide +kernel
theorem dX12_addRepeat_29 : decode cX12_addRepeat 29 = .ok (.iload 6, 2) := by decide +kernel
theorem dX12_addRepeat_31 : decode cX12_addRepeat 31 = .ok (.aload_n 0, 1) := by decide +kernel
theorem dX12_addRepeat_32 : decode cX12_addRepeat 32 = .ok (.getfield 132, 3) := by decide +kernel
theorem dX12_addRepeat_35 : decode cX12_addRepeat 35 = .ok (.if_icmp .ge 49, 3) := by decide +kernel
theorem dX12_addRepeat_38 : decode cX12_addRepeat 38 = .ok (.iload 5, 2) := by decide +kernel
theorem dX12_addRepeat_40 : decode cX12_addRepeat 40 = .ok (.ifCond .eq 35, 3) := by decide +kernel
theorem dX12_addRepeat_43 : decode cX12_addRepeat 43 = .ok (.aload_n 0, 1) := by decide +kernel
theorem dX12_addRepeat_44 : decode cX12_addRepeat 44 = .ok (.getfield 19, 3) := by decide +kernel
theorem dX12_addRepeat_47 : decode cX12_addRepeat 47 = .ok (.iload 6, 2) := by decide +kernel
theorem dX12_addRepeat_49 : decode cX12_addRepeat 49 = .ok (.iaload, 1) := by decide +kernel
theorem dX12_addRepeat_50 : decode cX12_addRepeat 50 = .ok (.iconst (-1), 1) := by decide +kernel
theorem dX12_addRepeat_51 : decode cX12_addRepeat 51 = .ok (.if_icmp .eq 20, 3) := by decide +kernel
theorem dX12_addRepeat_54 : decode cX12_addRepeat 54 = .ok (.aload_n 0, 1) := by decide +kernel
theorem dX12_addRepeat_55 : decode cX12_addRepeat 55 = .ok (.getfield 19, 3) := by decide +kernel
theorem dX12_addRepeat_58 : decode cX12_addRepeat 58 = .ok (.iload 6, 2) := by decide +kernel
theorem dX12_addRepeat_60 : decode cX12_addRepeat 60 = .ok (.iaload, 1) := by decide +kernel
theorem dX12_addRepeat_61 : decode cX12_addRepeat 61 = .ok (.iload_n 1, 1) := by decide +kernel
theorem dX12_addRepeat_62 : decode cX12_addRepeat 62 = .ok (.if_icmp .lt 9, 3) := by decide +kernel
theorem dX12_addRepeat_65 : decode cX12_addRepeat 65 = .ok (.iload 6, 2) := by decide +kernel
theorem dX12_addRepeat_67 : decode cX12_addRepeat 67 = .ok (.iload_n 2, 1) := by decide +kernel
theorem dX12_addRepeat_68 : decode cX12_addRepeat 68 = .ok (.if_icmp .le 7, 3) := by decide +kernel
theorem dX12_addRepeat_71 : decode cX12_addRepeat 71 = .ok (.iconst 1, 1) := by decide +kernel
theorem dX12_addRepeat_72 : decode cX12_addRepeat 72 = .ok (.goto 4, 3) := by decide +kernel
theorem dX12_addRepeat_75 : decode cX12_addRepeat 75 = .ok (.iconst 0, 1) := by decide +kernel
theorem dX12_addRepeat_76 : decode cX12_addRepeat 76 = .ok (.istore 5, 2) := by decide +kernel
theorem dX12_addRepeat_78 : decode cX12_addRepeat 78 = .ok (.iinc 6 1, 3) := by decide +kernel
theorem dX12_addRepeat_81 : decode cX12_addRepeat 81 = .ok (.goto (-52), 3) := by decide +kernel
theorem dX12_addRepeat_84 : decode cX12_addRepeat 84 = .ok (.aload_n 0, 1) := by decide +kernel
theorem dX12_addRepeat_85 : decode cX12_addRepeat 85 = .ok (.iload 4, 2) := by decide +kernel
theorem dX12_addRepeat_87 : decode cX12_addRepeat 87 = .ok (.iload_n 2, 1) := by decide +kernel
theorem dX12_addRepeat_88 : decode cX12_addRepeat 88 = .ok (.iload_n 1, 1) := by decide +kernel
theorem dX12_addRepeat_89 : decode cX12_addRepeat 89 = .ok (.if_icmp .lt 18, 3) := by decide +kernel
theorem dX12_addRepeat_92 : decode cX12_addRepeat 92 = .ok (.iload_n 3, 1) := by decide +kernel
theorem dX12_addRepeat_93 : decode cX12_addRepeat 93 = .ok (.iconst 0, 1) := by decide +kernel
theorem dX12_addRepeat_94 : decode cX12_addRepeat 94 = .ok (.iload_n 2, 1) := by decide +kernel
theorem dX12_addRepeat_95 : decode cX12_addRepeat 95 = .ok (.iload_n 1, 1) := by decide +kernel
theorem dX12_addRepeat_96 : decode cX12_addRepeat 96 = .ok (.isub, 1) := by decide +kernel
theorem dX12_addRepeat_97 : decode cX12_addRepeat 97 = .ok (.invokestatic 135, 3) := by decide +kernel
theorem dX12_addRepeat_100 : decode cX12_addRepeat 100 = .ok (.ifCond .eq 7, 3) := by decide +kernel
theorem dX12_addRepeat_103 : decode cX12_addRepeat 103 = .ok (.iconst 1, 1) := by decide +kernel
theorem dX12_addRepeat_104 : decode cX12_addRepeat 104 = .ok (.goto 4, 3) := by decide +kernel
theorem dX12_addRepeat_107 : decode cX12_addRepeat 107 = .ok (.iconst 0, 1) := by decide +kernel
theorem dX12_addRepeat_108 : decode cX12_addRepeat 108 = .ok (.iload 5, 2) := by decide +kernel
theorem dX12_addRepeat_110 : decode cX12_addRepeat 110 = .ok (.invokevirtual 165, 3) := by decide +kernel
theorem dX12_addRepeat_113 : decode cX12_addRepeat 113 = .ok (.ifCond .ne 5, 3) := by decide +kernel
theorem dX12_addRepeat_116 : decode cX12_addRepeat 116 = .ok (.iconst 0, 1) := by decide +kernel
theorem dX12_addRepeat_117 : decode cX12_addRepeat 117 = .ok (.ireturn, 1) := by decide +kernel
theorem dX12_addRepeat_118 : decode cX12_addRepeat 118 = .ok (.aload_n 0, 1) := by decide +kernel
theorem dX12_addRepeat_119 : decode cX12_addRepeat 119 = .ok (.getfield 19, 3) := by decide +kernel
theorem dX12_addRepeat_122 : decode cX12_addRepeat 122 = .ok (.iload_n 1, 1) := by decide +kernel
theorem dX12_addRepeat_123 : decode cX12_addRepeat 123 = .ok (.iload_n 2, 1) := by decide +kernel
theorem dX12_addRepeat_124 : decode cX12_addRepeat 124 = .ok (.iastore, 1) := by decide +kernel
theorem dX12_addRepeat_125 : decode cX12_addRepeat 125 = .ok (.aload_n 0, 1) := by decide +kernel
theorem dX12_addRepeat_126 : decode cX12_addRepeat 126 = .ok (.getfield 22, 3) := by decide +kernel
theorem dX12_addRepeat_129 : decode cX12_addRepeat 129 = .ok (.iload_n 1, 1) := by decide +kernel
theorem dX12_addRepeat_130 : decode cX12_addRepeat 130 = .ok (.iload_n 3, 1) := by decide +kernel
theorem dX12_addRepeat_131 : decode cX12_addRepeat 131 = .ok (.iastore, 1) := by decide +kernel
theorem dX12_addRepeat_132 : decode cX12_addRepeat 132 = .ok (.aload_n 0, 1) := by decide +kernel
theorem dX12_addRepeat_133 : decode cX12_addRepeat 133 = .ok (.invokevirtual 204, 3) := by decide +kernel
theorem dX12_addRepeat_136 : decode cX12_addRepeat 136 = .ok (.ireturn, 1) := by decide +kernel
theorem dX12_dropRepeat_0 : decode cX12_dropRepeat 0 = .ok (.aload_n 0, 1) := by decide +kernel
theorem dX12_dropRepeat_1 : decode cX12_dropRepeat 1 = .ok (.iload_n 1, 1) := by decide +kernel
theorem dX12_dropRepeat_2 : decode cX12_dropRepeat 2 = .ok (.invokevirtual 143, 3) := by decide +kernel
theorem dX12_dropRepeat_5 : decode cX12_dropRepeat 5 = .ok (.istore_n 2, 1) := by decide +kernel
theorem dX12_dropRepeat_6 : decode cX12_dropRepeat 6 = .ok (.aload_n 0, 1) := by decide +kernel
theorem dX12_dropRepeat_7 : decode cX12_dropRepeat 7 = .ok (.iload_n 2, 1) := by decide +kernel
theorem dX12_dropRepeat_8 : decode cX12_dropRepeat 8 = .ok (.iload_n 2, 1) := by decide +kernel
theorem dX12_dropRepeat_9 : decode cX12_dropRepeat 9 = .ok (.ifCond .eq 17, 3) := by decide +kernel
theorem dX12_dropRepeat_12 : decode cX12_dropRepeat 12 = .ok (.aload_n 0, 1) := by decide +kernel
theorem dX12_dropRepeat_13 : decode cX12_dropRepeat 13 = .ok (.getfield 19, 3) := by decide +kernel
theorem dX12_dropRepeat_16 : decode cX12_dropRepeat 16 = .ok (.iload_n 1, 1) := by decide +kernel
theorem dX12_dropRepeat_17 : decode cX12_dropRepeat 17 = .ok (.iaload, 1) := by decide +kernel
theorem dX12_dropRepeat_18 : decode cX12_dropRepeat 18 = .ok (.iconst (-1), 1) := by decide +kernel
theorem dX12_dropRepeat_19 : decode cX12_dropRepeat 19 = .ok (.if_icmp .eq 7, 3) := by decide +kernel
theorem dX12_dropRepeat_22 : decode cX12_dropRepeat 22 = .ok (.iconst 1, 1) := by decide +kernel
theorem dX12_dropRepeat_23 : decode cX12_dropRepeat 23 = .ok (.goto 4, 3) := by decide +kernel
theorem dX12_dropRepeat_26 : decode cX12_dropRepeat 26 = .ok (.iconst 0, 1) := by decide +kernel
theorem dX12_dropRepeat_27 : decode cX12_dropRepeat 27 = .ok (.iconst 1, 1) := by decide +kernel
theorem dX12_dropRepeat_28 : decode cX12_dropRepeat 28 = .ok (.invokevirtual 165, 3) := by decide +kernel
theorem dX12_dropRepeat_31 : decode cX12_dropRepeat 31 = .ok (.ifCond .ne 5, 3) := by decide +kernel
theorem dX12_dropRepeat_34 : decode cX12_dropRepeat 34 = .ok (.iconst 0, 1) := by decide +kernel
theorem dX12_dropRepeat_35 : decode cX12_dropRepeat 35 = .ok (.ireturn, 1) := by decide +kernel
theorem dX12_dropRepeat_36 : decode cX12_dropRepeat 36 = .ok (.aload_n 0, 1) := by decide +kernel
theorem dX12_dropRepeat_37 : decode cX12_dropRepeat 37 = .ok (.getfield 19, 3) := by decide +kernel
theorem dX12_dropRepeat_40 : decode cX12_dropRepeat 40 = .ok (.iload_n 1, 1) := by decide +kernel
theorem dX12_dropRepeat_41 : decode cX12_dropRepeat 41 = .ok (.iaload, 1) := by decide +kernel
theorem dX12_dropRepeat_42 : decode cX12_dropRepeat 42 = .ok (.istore_n 3, 1) := by decide +kernel
theorem dX12_dropRepeat_43 : decode cX12_dropRepeat 43 = .ok (.aload_n 0, 1) := by decide +kernel
theorem dX12_dropRepeat_44 : decode cX12_dropRepeat 44 = .ok (.getfield 19, 3) := by decide +kernel
theorem dX12_dropRepeat_47 : decode cX12_dropRepeat 47 = .ok (.iload_n 1, 1) := by decide +kernel
theorem dX12_dropRepeat_48 : decode cX12_dropRepeat 48 = .ok (.iconst (-1), 1) := by decide +kernel
theorem dX12_dropRepeat_49 : decode cX12_dropRepeat 49 = .ok (.iastore, 1) := by decide +kernel
theorem dX12_dropRepeat_50 : decode cX12_dropRepeat 50 = .ok (.iload_n 3, 1) := by decide +kernel
theorem dX12_dropRepeat_51 : decode cX12_dropRepeat 51 = .ok (.ireturn, 1) := by decide +kernel
theorem dX12_plays_0 : decode cX12_plays 0 = .ok (.iload_n 1, 1) := by decide +kernel
theorem dX12_plays_1 : decode cX12_plays 1 = .ok (.istore_n 3, 1) := by decide +kernel
theorem dX12_plays_2 : decode cX12_plays 2 = .ok (.iload_n 3, 1) := by decide +kernel
theorem dX12_plays_3 : decode cX12_plays 3 = .ok (.iload_n 2, 1) := by decide +kernel
theorem dX12_plays_4 : decode cX12_plays 4 = .ok (.if_icmp .gt 60, 3) := by decide +kernel
theorem dX12_plays_7 : decode cX12_plays 7 = .ok (.aload_n 0, 1) := by decide +kernel
theorem dX12_plays_8 : decode cX12_plays 8 = .ok (.getfield 78, 3) := by decide +kernel
theorem dX12_plays_11 : decode cX12_plays 11 = .ok (.aload_n 0, 1) := by decide +kernel
theorem dX12_plays_12 : decode cX12_plays 12 = .ok (.getfield 208, 3) := by decide +kernel
theorem dX12_plays_15 : decode cX12_plays 15 = .ok (.iload_n 3, 1) := by decide +kernel
theorem dX12_plays_16 : decode cX12_plays 16 = .ok (.iastore, 1) := by decide +kernel
theorem dX12_plays_17 : decode cX12_plays 17 = .ok (.aload_n 0, 1) := by decide +kernel
theorem dX12_plays_18 : decode cX12_plays 18 = .ok (.getfield 81, 3) := by decide +kernel
theorem dX12_plays_21 : decode cX12_plays 21 = .ok (.aload_n 0, 1) := by decide +kernel
theorem dX12_plays_22 : decode cX12_plays 22 = .ok (.getfield 208, 3) := by decide +kernel
theorem dX12_plays_25 : decode cX12_plays 25 = .ok (.iconst 1, 1) := by decide +kernel
theorem dX12_plays_26 : decode cX12_plays 26 = .ok (.iadd, 1) := by decide +kernel
theorem dX12_plays_27 : decode cX12_plays 27 = .ok (.aload_n 0, 1) := by decide +kernel
theorem dX12_plays_28 : decode cX12_plays 28 = .ok (.getfield 81, 3) := by decide +kernel
theorem dX12_plays_31 : decode cX12_plays 31 = .ok (.aload_n 0, 1) := by decide +kernel
theorem dX12_plays_32 : decode cX12_plays 32 = .ok (.getfield 208, 3) := by decide +kernel
theorem dX12_plays_35 : decode cX12_plays 35 = .ok (.iaload, 1) := by decide +kernel
theorem dX12_plays_36 : decode cX12_plays 36 = .ok (.aload_n 0, 1) := by decide +kernel
theorem dX12_plays_37 : decode cX12_plays 37 = .ok (.iload_n 3, 1) := by decide +kernel
theorem dX12_plays_38 : decode cX12_plays 38 = .ok (.aload_n 0, 1) := by decide +kernel
theorem dX12_plays_39 : decode cX12_plays 39 = .ok (.iload_n 3, 1) := by decide +kernel
theorem dX12_plays_40 : decode cX12_plays 40 = .ok (.invokevirtual 172, 3) := by decide +kernel
theorem dX12_plays_43 : decode cX12_plays 43 = .ok (.invokevirtual 178, 3) := by decide +kernel
theorem dX12_plays_46 : decode cX12_plays 46 = .ok (.iadd, 1) := by decide +kernel
theorem dX12_plays_47 : decode cX12_plays 47 = .ok (.iastore, 1) := by decide +kernel
theorem dX12_plays_48 : decode cX12_plays 48 = .ok (.aload_n 0, 1) := by decide +kernel
theorem dX12_plays_49 : decode cX12_plays 49 = .ok (.dup, 1) := by decide +kernel
theorem dX12_plays_50 : decode cX12_plays 50 = .ok (.getfield 208, 3) := by decide +kernel
theorem dX12_plays_53 : decode cX12_plays 53 = .ok (.iconst 1, 1) := by decide +kernel
theorem dX12_plays_54 : decode cX12_plays 54 = .ok (.iadd, 1) := by decide +kernel
theorem dX12_plays_55 : decode cX12_plays 55 = .ok (.putfield 208, 3) := by decide +kernel
theorem dX12_plays_58 : decode cX12_plays 58 = .ok (.iinc 3 1, 3) := by decide +kernel
theorem dX12_plays_61 : decode cX12_plays 61 = .ok (.goto (-59), 3) := by decide +kernel
theorem dX12_plays_64 : decode cX12_plays 64 = .ok (.return_, 1) := by decide +kernel
theorem dX12_laysPlaces_0 : decode cX12_laysPlaces 0 = .ok (.aload_n 0, 1) := by decide +kernel
theorem dX12_laysPlaces_1 : decode cX12_laysPlaces 1 = .ok (.iconst 0, 1) := by decide +kernel
theorem dX12_laysPlaces_2 : decode cX12_laysPlaces 2 = .ok (.putfield 208, 3) := by decide +kernel
theorem dX12_laysPlaces_5 : decode cX12_laysPlaces 5 = .ok (.iconst 0, 1) := by decide +kernel
theorem dX12_laysPlaces_6 : decode cX12_laysPlaces 6 = .ok (.istore_n 1, 1) := by decide +kernel
theorem dX12_laysPlaces_7 : decode cX12_laysPlaces 7 = .ok (.iload_n 1, 1) := by decide +kernel
theorem dX12_laysPlaces_8 : decode cX12_laysPlaces 8 = .ok (.aload_n 0, 1) := by decide +kernel
theorem dX12_laysPlaces_9 : decode cX12_laysPlaces 9 = .ok (.getfield 132, 3) := by decide +kernel
theorem dX12_laysPlaces_12 : decode cX12_laysPlaces 12 = .ok (.if_icmp .ge 60, 3) := by decide +kernel
theorem dX12_laysPlaces_15 : decode cX12_laysPlaces 15 = .ok (.aload_n 0, 1) := by decide +kernel
theorem dX12_laysPlaces_16 : decode cX12_laysPlaces 16 = .ok (.getfield 19, 3) := by decide +kernel
theorem dX12_laysPlaces_19 : decode cX12_laysPlaces 19 = .ok (.iload_n 1, 1) := by decide +kernel
theorem dX12_laysPlaces_20 : decode cX12_laysPlaces 20 = .ok (.iaload, 1) := by decide +kernel
theorem dX12_laysPlaces_21 : decode cX12_laysPlaces 21 = .ok (.iconst (-1), 1) := by decide +kernel
theorem dX12_laysPlaces_22 : decode cX12_laysPlaces 22 = .ok (.if_icmp .ne 7, 3) := by decide +kernel
theorem dX12_laysPlaces_25 : decode cX12_laysPlaces 25 = .ok (.iload_n 1, 1) := by decide +kernel
theorem dX12_laysPlaces_26 : decode cX12_laysPlaces 26 = .ok (.goto 9, 3) := by decide +kernel
theorem dX12_laysPlaces_29 : decode cX12_laysPlaces 29 = .ok (.aload_n 0, 1) := by decide +kernel
theorem dX12_laysPlaces_30 : decode cX12_laysPlaces 30 = .ok (.getfield 19, 3) := by decide +kernel
theorem dX12_laysPlaces_33 : decode cX12_laysPlaces 33 = .ok (.iload_n 1, 1) := by decide +kernel
theorem dX12_laysPlaces_34 : decode cX12_laysPlaces 34 = .ok (.iaload, 1) := by decide +kernel
theorem dX12_laysPlaces_35 : decode cX12_laysPlaces 35 = .ok (.istore_n 2, 1) := by decide +kernel
theorem dX12_laysPlaces_36 : decode cX12_laysPlaces 36 = .ok (.aload_n 0, 1) := by decide +kernel
theorem dX12_laysPlaces_37 : decode cX12_laysPlaces 37 = .ok (.iload_n 1, 1) := by decide +kernel
theorem dX12_laysPlaces_38 : decode cX12_laysPlaces 38 = .ok (.iload_n 2, 1) := by decide +kernel
theorem dX12_laysPlaces_39 : decode cX12_laysPlaces 39 = .ok (.invokevirtual 211, 3) := by decide +kernel
theorem dX12_laysPlaces_42 : decode cX12_laysPlaces 42 = .ok (.aload_n 0, 1) := by decide +kernel
theorem dX12_laysPlaces_43 : decode cX12_laysPlaces 43 = .ok (.getfield 19, 3) := by decide +kernel
theorem dX12_laysPlaces_46 : decode cX12_laysPlaces 46 = .ok (.iload_n 1, 1) := by decide +kernel
theorem dX12_laysPlaces_47 : decode cX12_laysPlaces 47 = .ok (.iaload, 1) := by decide +kernel
theorem dX12_laysPlaces_48 : decode cX12_laysPlaces 48 = .ok (.iconst (-1), 1) := by decide +kernel
theorem dX12_laysPlaces_49 : decode cX12_laysPlaces 49 = .ok (.if_icmp .eq 16, 3) := by decide +kernel
theorem dX12_laysPlaces_52 : decode cX12_laysPlaces 52 = .ok (.aload_n 0, 1) := by decide +kernel
theorem dX12_laysPlaces_53 : decode cX12_laysPlaces 53 = .ok (.iload_n 1, 1) := by decide +kernel
theorem dX12_laysPlaces_54 : decode cX12_laysPlaces 54 = .ok (.iload_n 2, 1) := by decide +kernel
theorem dX12_laysPlaces_55 : decode cX12_laysPlaces 55 = .ok (.aload_n 0, 1) := by decide +kernel
theorem dX12_laysPlaces_56 : decode cX12_laysPlaces 56 = .ok (.getfield 22, 3) := by decide +kernel
theorem dX12_laysPlaces_59 : decode cX12_laysPlaces 59 = .ok (.iload_n 1, 1) := by decide +kernel
theorem dX12_laysPlaces_60 : decode cX12_laysPlaces 60 = .ok (.iaload, 1) := by decide +kernel
theorem dX12_laysPlaces_61 : decode cX12_laysPlaces 61 = .ok (.isub, 1) := by decide +kernel
theorem dX12_laysPlaces_62 : decode cX12_laysPlaces 62 = .ok (.invokevirtual 211, 3) := by decide +kernel
theorem dX12_laysPlaces_65 : decode cX12_laysPlaces 65 = .ok (.iload_n 2, 1) := by decide +kernel
theorem dX12_laysPlaces_66 : decode cX12_laysPlaces 66 = .ok (.iconst 1, 1) := by decide +kernel
theorem dX12_laysPlaces_67 : decode cX12_laysPlaces 67 = .ok (.iadd, 1) := by decide +kernel
theorem dX12_laysPlaces_68 : decode cX12_laysPlaces 68 = .ok (.istore_n 1, 1) := by decide +kernel
theorem dX12_laysPlaces_69 : decode cX12_laysPlaces 69 = .ok (.goto (-62), 3) := by decide +kernel
theorem dX12_laysPlaces_72 : decode cX12_laysPlaces 72 = .ok (.return_, 1) := by decide +kernel
theorem dX12_places_0 : decode cX12_places 0 = .ok (.aload_n 0, 1) := by decide +kernel
theorem dX12_places_1 : decode cX12_places 1 = .ok (.invokevirtual 214, 3) := by decide +kernel
theorem dX12_places_4 : decode cX12_places 4 = .ok (.aload_n 0, 1) := by decide +kernel
theorem dX12_places_5 : decode cX12_places 5 = .ok (.aload_n 0, 1) := by decide +kernel
theorem dX12_places_6 : decode cX12_places 6 = .ok (.getfield 208, 3) := by decide +kernel
theorem dX12_places_9 : decode cX12_places 9 = .ok (.invokevirtual 175, 3) := by decide +kernel
theorem dX12_places_12 : decode cX12_places 12 = .ok (.ireturn, 1) := by decide +kernel
theorem dX12_isPlace_0 : decode cX12_isPlace 0 = .ok (.aload_n 0, 1) := by decide +kernel
theorem dX12_isPlace_1 : decode cX12_isPlace 1 = .ok (.invokevirtual 214, 3) := by decide +kernel
theorem dX12_isPlace_4 : decode cX12_isPlace 4 = .ok (.aload_n 0, 1) := by decide +kernel
theorem dX12_isPlace_5 : decode cX12_isPlace 5 = .ok (.iload_n 1, 1) := by decide +kernel
theorem dX12_isPlace_6 : decode cX12_isPlace 6 = .ok (.iconst 0, 1) := by decide +kernel
theorem dX12_isPlace_7 : decode cX12_isPlace 7 = .ok (.aload_n 0, 1) := by decide +kernel
theorem dX12_isPlace_8 : decode cX12_isPlace 8 = .ok (.getfield 208, 3) := by decide +kernel
theorem dX12_isPlace_11 : decode cX12_isPlace 11 = .ok (.iconst 1, 1) := by decide +kernel
theorem dX12_isPlace_12 : decode cX12_isPlace 12 = .ok (.isub, 1) := by decide +kernel
theorem dX12_isPlace_13 : decode cX12_isPlace 13 = .ok (.invokestatic 135, 3) := by decide +kernel
theorem dX12_isPlace_16 : decode cX12_isPlace 16 = .ok (.iconst 1, 1) := by decide +kernel
theorem dX12_isPlace_17 : decode cX12_isPlace 17 = .ok (.iconst 1, 1) := by decide +kernel
theorem dX12_isPlace_18 : decode cX12_isPlace 18 = .ok (.invokevirtual 165, 3) := by decide +kernel
theorem dX12_isPlace_21 : decode cX12_isPlace 21 = .ok (.ireturn, 1) := by decide +kernel
theorem dX12_barAt_0 : decode cX12_barAt 0 = .ok (.aload_n 0, 1) := by decide +kernel
theorem dX12_barAt_1 : decode cX12_barAt 1 = .ok (.iload_n 1, 1) := by decide +kernel
theorem dX12_barAt_2 : decode cX12_barAt 2 = .ok (.invokevirtual 217, 3) := by decide +kernel
theorem dX12_barAt_5 : decode cX12_barAt 5 = .ok (.ifCond .eq 12, 3) := by decide +kernel
theorem dX12_barAt_8 : decode cX12_barAt 8 = .ok (.aload_n 0, 1) := by decide +kernel
theorem dX12_barAt_9 : decode cX12_barAt 9 = .ok (.getfield 78, 3) := by decide +kernel
theorem dX12_barAt_12 : decode cX12_barAt 12 = .ok (.iload_n 1, 1) := by decide +kernel
theorem dX12_barAt_13 : decode cX12_barAt 13 = .ok (.iaload, 1) := by decide +kernel
theorem dX12_barAt_14 : decode cX12_barAt 14 = .ok (.goto 4, 3) := by decide +kernel
theorem dX12_barAt_17 : decode cX12_barAt 17 = .ok (.iconst 0, 1) := by decide +kernel
theorem dX12_barAt_18 : decode cX12_barAt 18 = .ok (.ireturn, 1) := by decide +kernel
theorem dX12_startOf_0 : decode cX12_startOf 0 = .ok (.aload_n 0, 1) := by decide +kernel
theorem dX12_startOf_1 : decode cX12_startOf 1 = .ok (.iload_n 1, 1) := by decide +kernel
theorem dX12_startOf_2 : decode cX12_startOf 2 = .ok (.invokevirtual 217, 3) := by decide +kernel
theorem dX12_startOf_5 : decode cX12_startOf 5 = .ok (.ifCond .eq 12, 3) := by decide +kernel
theorem dX12_startOf_8 : decode cX12_startOf 8 = .ok (.aload_n 0, 1) := by decide +kernel
theorem dX12_startOf_9 : decode cX12_startOf 9 = .ok (.getfield 81, 3) := by decide +kernel
theorem dX12_startOf_12 : decode cX12_startOf 12 = .ok (.iload_n 1, 1) := by decide +kernel
theorem dX12_startOf_13 : decode cX12_startOf 13 = .ok (.iaload, 1) := by decide +kernel
theorem dX12_startOf_14 : decode cX12_startOf 14 = .ok (.goto 4, 3) := by decide +kernel
theorem dX12_startOf_17 : decode cX12_startOf 17 = .ok (.iconst 0, 1) := by decide +kernel
theorem dX12_startOf_18 : decode cX12_startOf 18 = .ok (.ireturn, 1) := by decide +kernel
theorem dX12_playingTime_0 : decode cX12_playingTime 0 = .ok (.aload_n 0, 1) := by decide +kernel
theorem dX12_playingTime_1 : decode cX12_playingTime 1 = .ok (.invokevirtual 214, 3) := by decide +kernel
theorem dX12_playingTime_4 : decode cX12_playingTime 4 = .ok (.aload_n 0, 1) := by decide +kernel
theorem dX12_playingTime_5 : decode cX12_playingTime 5 = .ok (.aload_n 0, 1) := by decide +kernel
theorem dX12_playingTime_6 : decode cX12_playingTime 6 = .ok (.getfield 81, 3) := by decide +kernel
theorem dX12_playingTime_9 : decode cX12_playingTime 9 = .ok (.aload_n 0, 1) := by decide +kernel
theorem dX12_playingTime_10 : decode cX12_playingTime 10 = .ok (.getfield 208, 3) := by decide +kernel
theorem dX12_playingTime_13 : decode cX12_playingTime 13 = .ok (.iaload, 1) := by decide +kernel
theorem dX12_playingTime_14 : decode cX12_playingTime 14 = .ok (.invokevirtual 175, 3) := by decide +kernel
theorem dX12_playingTime_17 : decode cX12_playingTime 17 = .ok (.ireturn, 1) := by decide +kernel
theorem dX12_timeByEvents_0 : decode cX12_timeByEvents 0 = .ok (.aload_n 0, 1) := by decide +kernel
theorem dX12_timeByEvents_1 : decode cX12_timeByEvents 1 = .ok (.iload_n 1, 1) := by decide +kernel
theorem dX12_timeByEvents_2 : decode cX12_timeByEvents 2 = .ok (.invokestatic 184, 3) := by decide +kernel
theorem dX12_timeByEvents_5 : decode cX12_timeByEvents 5 = .ok (.iconst 1, 1) := by decide +kernel
theorem dX12_timeByEvents_6 : decode cX12_timeByEvents 6 = .ok (.iconst 1, 1) := by decide +kernel
theorem dX12_timeByEvents_7 : decode cX12_timeByEvents 7 = .ok (.invokevirtual 165, 3) := by decide +kernel
theorem dX12_timeByEvents_10 : decode cX12_timeByEvents 10 = .ok (.ifCond .ne 5, 3) := by decide +kernel
theorem dX12_timeByEvents_13 : decode cX12_timeByEvents 13 = .ok (.iconst 0, 1) := by decide +kernel
theorem dX12_timeByEvents_14 : decode cX12_timeByEvents 14 = .ok (.ireturn, 1) := by decide +kernel
theorem dX12_timeByEvents_15 : decode cX12_timeByEvents 15 = .ok (.aload_n 0, 1) := by decide +kernel
theorem dX12_timeByEvents_16 : decode cX12_timeByEvents 16 = .ok (.invokevirtual 214, 3) := by decide +kernel
theorem dX12_timeByEvents_19 : decode cX12_timeByEvents 19 = .ok (.iconst 0, 1) := by decide +kernel
theorem dX12_timeByEvents_20 : decode cX12_timeByEvents 20 = .ok (.istore_n 2, 1) := by decide +kernel
theorem dX12_timeByEvents_21 : decode cX12_timeByEvents 21 = .ok (.iconst 0, 1) := by decide +kernel
theorem dX12_timeByEvents_22 : decode cX12_timeByEvents 22 = .ok (.istore_n 3, 1) := by decide +kernel
theorem dX12_timeByEvents_23 : decode cX12_timeByEvents 23 = .ok (.iload_n 3, 1) := by decide +kernel
theorem dX12_timeByEvents_24 : decode cX12_timeByEvents 24 = .ok (.aload_n 0, 1) := by decide +kernel
theorem dX12_timeByEvents_25 : decode cX12_timeByEvents 25 = .ok (.getfield 208, 3) := by decide +kernel
theorem dX12_timeByEvents_28 : decode cX12_timeByEvents 28 = .ok (.if_icmp .ge 56, 3) := by decide +kernel
theorem dX12_timeByEvents_31 : decode cX12_timeByEvents 31 = .ok (.aload_n 0, 1) := by decide +kernel
theorem dX12_timeByEvents_32 : decode cX12_timeByEvents 32 = .ok (.getfield 78, 3) := by decide +kernel
theorem dX12_timeByEvents_35 : decode cX12_timeByEvents 35 = .ok (.iload_n 3, 1) := by decide +kernel
theorem dX12_timeByEvents_36 : decode cX12_timeByEvents 36 = .ok (.iaload, 1) := by decide +kernel
theorem dX12_timeByEvents_37 : decode cX12_timeByEvents 37 = .ok (.istore 4, 2) := by decide +kernel
theorem dX12_timeByEvents_39 : decode cX12_timeByEvents 39 = .ok (.iload_n 2, 1) := by decide +kernel
theorem dX12_timeByEvents_40 : decode cX12_timeByEvents 40 = .ok (.aload_n 0, 1) := by decide +kernel
theorem dX12_timeByEvents_41 : decode cX12_timeByEvents 41 = .ok (.iload 4, 2) := by decide +kernel
theorem dX12_timeByEvents_43 : decode cX12_timeByEvents 43 = .ok (.aload_n 0, 1) := by decide +kernel
theorem dX12_timeByEvents_44 : decode cX12_timeByEvents 44 = .ok (.getfield 25, 3) := by decide +kernel
theorem dX12_timeByEvents_47 : decode cX12_timeByEvents 47 = .ok (.iload_n 1, 1) := by decide +kernel
theorem dX12_timeByEvents_48 : decode cX12_timeByEvents 48 = .ok (.iload 4, 2) := by decide +kernel
theorem dX12_timeByEvents_50 : decode cX12_timeByEvents 50 = .ok (.invokestatic 139, 3) := by decide +kernel
theorem dX12_timeByEvents_53 : decode cX12_timeByEvents 53 = .ok (.iaload, 1) := by decide +kernel
theorem dX12_timeByEvents_54 : decode cX12_timeByEvents 54 = .ok (.ifCond .ne 12, 3) := by decide +kernel
theorem dX12_timeByEvents_57 : decode cX12_timeByEvents 57 = .ok (.aload_n 0, 1) := by decide +kernel
theorem dX12_timeByEvents_58 : decode cX12_timeByEvents 58 = .ok (.iload 4, 2) := by decide +kernel
theorem dX12_timeByEvents_60 : decode cX12_timeByEvents 60 = .ok (.invokevirtual 172, 3) := by decide +kernel
theorem dX12_timeByEvents_63 : decode cX12_timeByEvents 63 = .ok (.goto 10, 3) := by decide +kernel
theorem dX12_timeByEvents_66 : decode cX12_timeByEvents 66 = .ok (.aload_n 0, 1) := by decide +kernel
theorem dX12_timeByEvents_67 : decode cX12_timeByEvents 67 = .ok (.iload_n 1, 1) := by decide +kernel
theorem dX12_timeByEvents_68 : decode cX12_timeByEvents 68 = .ok (.iload 4, 2) := by decide +kernel
theorem dX12_timeByEvents_70 : decode cX12_timeByEvents 70 = .ok (.invokevirtual 169, 3) := by decide +kernel
theorem dX12_timeByEvents_73 : decode cX12_timeByEvents 73 = .ok (.invokevirtual 178, 3) := by decide +kernel
theorem dX12_timeByEvents_76 : decode cX12_timeByEvents 76 = .ok (.iadd, 1) := by decide +kernel
theorem dX12_timeByEvents_77 : decode cX12_timeByEvents 77 = .ok (.istore_n 2, 1) := by decide +kernel
theorem dX12_timeByEvents_78 : decode cX12_timeByEvents 78 = .ok (.iinc 3 1, 3) := by decide +kernel
theorem dX12_timeByEvents_81 : decode cX12_timeByEvents 81 = .ok (.goto (-58), 3) := by decide +kernel
theorem dX12_timeByEvents_84 : decode cX12_timeByEvents 84 = .ok (.iload_n 2, 1) := by decide +kernel
theorem dX12_timeByEvents_85 : decode cX12_timeByEvents 85 = .ok (.ireturn, 1) := by decide +kernel
theorem dX12_holds_0 : decode cX12_holds 0 = .ok (.aload_n 0, 1) := by decide +kernel
theorem dX12_holds_1 : decode cX12_holds 1 = .ok (.getfield 44, 3) := by decide +kernel
theorem dX12_holds_4 : decode cX12_holds 4 = .ok (.iload_n 1, 1) := by decide +kernel
theorem dX12_holds_5 : decode cX12_holds 5 = .ok (.baload, 1) := by decide +kernel
theorem dX12_holds_6 : decode cX12_holds 6 = .ok (.ifCond .eq 31, 3) := by decide +kernel
theorem dX12_holds_9 : decode cX12_holds 9 = .ok (.aload_n 0, 1) := by decide +kernel
theorem dX12_holds_10 : decode cX12_holds 10 = .ok (.getfield 32, 3) := by decide +kernel
theorem dX12_holds_13 : decode cX12_holds 13 = .ok (.iload_n 1, 1) := by decide +kernel
theorem dX12_holds_14 : decode cX12_holds 14 = .ok (.iaload, 1) := by decide +kernel
theorem dX12_holds_15 : decode cX12_holds 15 = .ok (.ifCond .le 22, 3) := by decide +kernel
theorem dX12_holds_18 : decode cX12_holds 18 = .ok (.aload_n 0, 1) := by decide +kernel
theorem dX12_holds_19 : decode cX12_holds 19 = .ok (.getfield 32, 3) := by decide +kernel
theorem dX12_holds_22 : decode cX12_holds 22 = .ok (.iload_n 1, 1) := by decide +kernel
theorem dX12_holds_23 : decode cX12_holds 23 = .ok (.iaload, 1) := by decide +kernel
theorem dX12_holds_24 : decode cX12_holds 24 = .ok (.aload_n 0, 1) := by decide +kernel
theorem dX12_holds_25 : decode cX12_holds 25 = .ok (.getfield 32, 3) := by decide +kernel
theorem dX12_holds_28 : decode cX12_holds 28 = .ok (.iload_n 2, 1) := by decide +kernel
theorem dX12_holds_29 : decode cX12_holds 29 = .ok (.iaload, 1) := by decide +kernel
theorem dX12_holds_30 : decode cX12_holds 30 = .ok (.if_icmp .ne 7, 3) := by decide +kernel
theorem dX12_holds_33 : decode cX12_holds 33 = .ok (.iconst 1, 1) := by decide +kernel
theorem dX12_holds_34 : decode cX12_holds 34 = .ok (.goto 4, 3) := by decide +kernel
theorem dX12_holds_37 : decode cX12_holds 37 = .ok (.iconst 0, 1) := by decide +kernel
theorem dX12_holds_38 : decode cX12_holds 38 = .ok (.ireturn, 1) := by decide +kernel
theorem dX12_goesOn_0 : decode cX12_goesOn 0 = .ok (.aload_n 0, 1) := by decide +kernel
theorem dX12_goesOn_1 : decode cX12_goesOn 1 = .ok (.getfield 78, 3) := by decide +kernel
theorem dX12_goesOn_4 : decode cX12_goesOn 4 = .ok (.iload_n 2, 1) := by decide +kernel
theorem dX12_goesOn_5 : decode cX12_goesOn 5 = .ok (.iaload, 1) := by decide +kernel
theorem dX12_goesOn_6 : decode cX12_goesOn 6 = .ok (.istore 4, 2) := by decide +kernel
theorem dX12_goesOn_8 : decode cX12_goesOn 8 = .ok (.iload_n 3, 1) := by decide +kernel
theorem dX12_goesOn_9 : decode cX12_goesOn 9 = .ok (.ifCond .le 24, 3) := by decide +kernel
theorem dX12_goesOn_12 : decode cX12_goesOn 12 = .ok (.aload_n 0, 1) := by decide +kernel
theorem dX12_goesOn_13 : decode cX12_goesOn 13 = .ok (.iload_n 1, 1) := by decide +kernel
theorem dX12_goesOn_14 : decode cX12_goesOn 14 = .ok (.iload 4, 2) := by decide +kernel
theorem dX12_goesOn_16 : decode cX12_goesOn 16 = .ok (.iload_n 3, 1) := by decide +kernel
theorem dX12_goesOn_17 : decode cX12_goesOn 17 = .ok (.iconst 1, 1) := by decide +kernel
theorem dX12_goesOn_18 : decode cX12_goesOn 18 = .ok (.isub, 1) := by decide +kernel
theorem dX12_goesOn_19 : decode cX12_goesOn 19 = .ok (.invokestatic 151, 3) := by decide +kernel
theorem dX12_goesOn_22 : decode cX12_goesOn 22 = .ok (.iload_n 1, 1) := by decide +kernel
theorem dX12_goesOn_23 : decode cX12_goesOn 23 = .ok (.iload 4, 2) := by decide +kernel
theorem dX12_goesOn_25 : decode cX12_goesOn 25 = .ok (.iload_n 3, 1) := by decide +kernel
theorem dX12_goesOn_26 : decode cX12_goesOn 26 = .ok (.invokestatic 151, 3) := by decide +kernel
theorem dX12_goesOn_29 : decode cX12_goesOn 29 = .ok (.invokevirtual 220, 3) := by decide +kernel
theorem dX12_goesOn_32 : decode cX12_goesOn 32 = .ok (.ireturn, 1) := by decide +kernel
theorem dX12_goesOn_33 : decode cX12_goesOn 33 = .ok (.iload_n 2, 1) := by decide +kernel
theorem dX12_goesOn_34 : decode cX12_goesOn 34 = .ok (.ifCond .le 42, 3) := by decide +kernel
theorem dX12_goesOn_37 : decode cX12_goesOn 37 = .ok (.aload_n 0, 1) := by decide +kernel
theorem dX12_goesOn_38 : decode cX12_goesOn 38 = .ok (.getfield 78, 3) := by decide +kernel
theorem dX12_goesOn_41 : decode cX12_goesOn 41 = .ok (.iload_n 2, 1) := by decide +kernel
theorem dX12_goesOn_42 : decode cX12_goesOn 42 = .ok (.iconst 1, 1) := by decide +kernel
theorem dX12_goesOn_43 : decode cX12_goesOn 43 = .ok (.isub, 1) := by decide +kernel
theorem dX12_goesOn_44 : decode cX12_goesOn 44 = .ok (.iaload, 1) := by decide +kernel
theorem dX12_goesOn_45 : decode cX12_goesOn 45 = .ok (.iload 4, 2) := by decide +kernel
theorem dX12_goesOn_47 : decode cX12_goesOn 47 = .ok (.iconst 1, 1) := by decide +kernel
theorem dX12_goesOn_48 : decode cX12_goesOn 48 = .ok (.isub, 1) := by decide +kernel
theorem dX12_goesOn_49 : decode cX12_goesOn 49 = .ok (.if_icmp .ne 27, 3) := by decide +kernel
theorem dX12_goesOn_52 : decode cX12_goesOn 52 = .ok (.aload_n 0, 1) := by decide +kernel
theorem dX12_goesOn_53 : decode cX12_goesOn 53 = .ok (.getfield 25, 3) := by decide +kernel
theorem dX12_goesOn_56 : decode cX12_goesOn 56 = .ok (.iload_n 1, 1) := by decide +kernel
theorem dX12_goesOn_57 : decode cX12_goesOn 57 = .ok (.aload_n 0, 1) := by decide +kernel
theorem dX12_goesOn_58 : decode cX12_goesOn 58 = .ok (.getfield 78, 3) := by decide +kernel
theorem dX12_goesOn_61 : decode cX12_goesOn 61 = .ok (.iload_n 2, 1) := by decide +kernel
theorem dX12_goesOn_62 : decode cX12_goesOn 62 = .ok (.iconst 1, 1) := by decide +kernel
theorem dX12_goesOn_63 : decode cX12_goesOn 63 = .ok (.isub, 1) := by decide +kernel
theorem dX12_goesOn_64 : decode cX12_goesOn 64 = .ok (.iaload, 1) := by decide +kernel
theorem dX12_goesOn_65 : decode cX12_goesOn 65 = .ok (.invokestatic 139, 3) := by decide +kernel
theorem dX12_goesOn_68 : decode cX12_goesOn 68 = .ok (.iaload, 1) := by decide +kernel
theorem dX12_goesOn_69 : decode cX12_goesOn 69 = .ok (.ifCond .le 7, 3) := by decide +kernel
theorem dX12_goesOn_72 : decode cX12_goesOn 72 = .ok (.iconst 1, 1) := by decide +kernel
theorem dX12_goesOn_73 : decode cX12_goesOn 73 = .ok (.goto 4, 3) := by decide +kernel
theorem dX12_goesOn_76 : decode cX12_goesOn 76 = .ok (.iconst 0, 1) := by decide +kernel
theorem dX12_goesOn_77 : decode cX12_goesOn 77 = .ok (.istore 5, 2) := by decide +kernel
theorem dX12_goesOn_79 : decode cX12_goesOn 79 = .ok (.iload 5, 2) := by decide +kernel
theorem dX12_goesOn_81 : decode cX12_goesOn 81 = .ok (.ifCond .eq 44, 3) := by decide +kernel
theorem dX12_goesOn_84 : decode cX12_goesOn 84 = .ok (.aload_n 0, 1) := by decide +kernel
theorem dX12_goesOn_85 : decode cX12_goesOn 85 = .ok (.iload_n 1, 1) := by decide +kernel
theorem dX12_goesOn_86 : decode cX12_goesOn 86 = .ok (.iload 4, 2) := by decide +kernel
theorem dX12_goesOn_88 : decode cX12_goesOn 88 = .ok (.iconst 1, 1) := by decide +kernel
theorem dX12_goesOn_89 : decode cX12_goesOn 89 = .ok (.isub, 1) := by decide +kernel
theorem dX12_goesOn_90 : decode cX12_goesOn 90 = .ok (.aload_n 0, 1) := by decide +kernel
theorem dX12_goesOn_91 : decode cX12_goesOn 91 = .ok (.getfield 25, 3) := by decide +kernel
theorem dX12_goesOn_94 : decode cX12_goesOn 94 = .ok (.iload_n 1, 1) := by decide +kernel
theorem dX12_goesOn_95 : decode cX12_goesOn 95 = .ok (.iload 4, 2) := by decide +kernel
theorem dX12_goesOn_97 : decode cX12_goesOn 97 = .ok (.iconst 1, 1) := by decide +kernel
theorem dX12_goesOn_98 : decode cX12_goesOn 98 = .ok (.isub, 1) := by decide +kernel
theorem dX12_goesOn_99 : decode cX12_goesOn 99 = .ok (.invokestatic 139, 3) := by decide +kernel
theorem dX12_goesOn_102 : decode cX12_goesOn 102 = .ok (.iaload, 1) := by decide +kernel
theorem dX12_goesOn_103 : decode cX12_goesOn 103 = .ok (.iconst 1, 1) := by decide +kernel
theorem dX12_goesOn_104 : decode cX12_goesOn 104 = .ok (.isub, 1) := by decide +kernel
theorem dX12_goesOn_105 : decode cX12_goesOn 105 = .ok (.invokestatic 151, 3) := by decide +kernel
theorem dX12_goesOn_108 : decode cX12_goesOn 108 = .ok (.iload_n 1, 1) := by decide +kernel
theorem dX12_goesOn_109 : decode cX12_goesOn 109 = .ok (.iload 4, 2) := by decide +kernel
theorem dX12_goesOn_111 : decode cX12_goesOn 111 = .ok (.iconst 0, 1) := by decide +kernel
theorem dX12_goesOn_112 : decode cX12_goesOn 112 = .ok (.invokestatic 151, 3) := by decide +kernel
theorem dX12_goesOn_115 : decode cX12_goesOn 115 = .ok (.invokevirtual 220, 3) := by decide +kernel
theorem dX12_goesOn_118 : decode cX12_goesOn 118 = .ok (.ifCond .eq 7, 3) := by decide +kernel
theorem dX12_goesOn_121 : decode cX12_goesOn 121 = .ok (.iconst 1, 1) := by decide +kernel
theorem dX12_goesOn_122 : decode cX12_goesOn 122 = .ok (.goto 4, 3) := by decide +kernel
theorem dX12_goesOn_125 : decode cX12_goesOn 125 = .ok (.iconst 0, 1) := by decide +kernel
theorem dX12_goesOn_126 : decode cX12_goesOn 126 = .ok (.ireturn, 1) := by decide +kernel
theorem dX12_over_0 : decode cX12_over 0 = .ok (.aload_n 0, 1) := by decide +kernel
theorem dX12_over_1 : decode cX12_over 1 = .ok (.getfield 81, 3) := by decide +kernel
theorem dX12_over_4 : decode cX12_over 4 = .ok (.iload_n 2, 1) := by decide +kernel
theorem dX12_over_5 : decode cX12_over 5 = .ok (.iaload, 1) := by decide +kernel
theorem dX12_over_6 : decode cX12_over 6 = .ok (.aload_n 0, 1) := by decide +kernel
theorem dX12_over_7 : decode cX12_over 7 = .ok (.aload_n 0, 1) := by decide +kernel
theorem dX12_over_8 : decode cX12_over 8 = .ok (.getfield 78, 3) := by decide +kernel
theorem dX12_over_11 : decode cX12_over 11 = .ok (.iload_n 2, 1) := by decide +kernel
theorem dX12_over_12 : decode cX12_over 12 = .ok (.iaload, 1) := by decide +kernel
theorem dX12_over_13 : decode cX12_over 13 = .ok (.aload_n 0, 1) := by decide +kernel
theorem dX12_over_14 : decode cX12_over 14 = .ok (.iload_n 1, 1) := by decide +kernel
theorem dX12_over_15 : decode cX12_over 15 = .ok (.aload_n 0, 1) := by decide +kernel
theorem dX12_over_16 : decode cX12_over 16 = .ok (.getfield 78, 3) := by decide +kernel
theorem dX12_over_19 : decode cX12_over 19 = .ok (.iload_n 2, 1) := by decide +kernel
theorem dX12_over_20 : decode cX12_over 20 = .ok (.iaload, 1) := by decide +kernel
theorem dX12_over_21 : decode cX12_over 21 = .ok (.iload_n 3, 1) := by decide +kernel
theorem dX12_over_22 : decode cX12_over 22 = .ok (.iconst 1, 1) := by decide +kernel
theorem dX12_over_23 : decode cX12_over 23 = .ok (.iadd, 1) := by decide +kernel
theorem dX12_over_24 : decode cX12_over 24 = .ok (.invokevirtual 158, 3) := by decide +kernel
theorem dX12_over_27 : decode cX12_over 27 = .ok (.invokevirtual 178, 3) := by decide +kernel
theorem dX12_over_30 : decode cX12_over 30 = .ok (.iadd, 1) := by decide +kernel
theorem dX12_over_31 : decode cX12_over 31 = .ok (.ireturn, 1) := by decide +kernel
theorem dX12_laysSounds_0 : decode cX12_laysSounds 0 = .ok (.aload_n 0, 1) := by decide +kernel
theorem dX12_laysSounds_1 : decode cX12_laysSounds 1 = .ok (.getfield 84, 3) := by decide +kernel
theorem dX12_laysSounds_4 : decode cX12_laysSounds 4 = .ok (.iload_n 1, 1) := by decide +kernel
theorem dX12_laysSounds_5 : decode cX12_laysSounds 5 = .ok (.iconst 0, 1) := by decide +kernel
theorem dX12_laysSounds_6 : decode cX12_laysSounds 6 = .ok (.iastore, 1) := by decide +kernel
theorem dX12_laysSounds_7 : decode cX12_laysSounds 7 = .ok (.iconst 0, 1) := by decide +kernel
theorem dX12_laysSounds_8 : decode cX12_laysSounds 8 = .ok (.istore_n 2, 1) := by decide +kernel
theorem dX12_laysSounds_9 : decode cX12_laysSounds 9 = .ok (.iload_n 2, 1) := by decide +kernel
theorem dX12_laysSounds_10 : decode cX12_laysSounds 10 = .ok (.aload_n 0, 1) := by decide +kernel
theorem dX12_laysSounds_11 : decode cX12_laysSounds 11 = .ok (.getfield 208, 3) := by decide +kernel
theorem dX12_laysSounds_14 : decode cX12_laysSounds 14 = .ok (.if_icmp .ge 181, 3) := by decide +kernel
theorem dX12_laysSounds_17 : decode cX12_laysSounds 17 = .ok (.aload_n 0, 1) := by decide +kernel
theorem dX12_laysSounds_18 : decode cX12_laysSounds 18 = .ok (.getfield 78, 3) := by decide +kernel
theorem dX12_laysSounds_21 : decode cX12_laysSounds 21 = .ok (.iload_n 2, 1) := by decide +kernel
theorem dX12_laysSounds_22 : decode cX12_laysSounds 22 = .ok (.iaload, 1) := by decide +kernel
theorem dX12_laysSounds_23 : decode cX12_laysSounds 23 = .ok (.istore_n 3, 1) := by decide +kernel
theorem dX12_laysSounds_24 : decode cX12_laysSounds 24 = .ok (.iconst 0, 1) := by decide +kernel
theorem dX12_laysSounds_25 : decode cX12_laysSounds 25 = .ok (.istore 4, 2) := by decide +kernel
theorem dX12_laysSounds_27 : decode cX12_laysSounds 27 = .ok (.iload 4, 2) := by decide +kernel
theorem dX12_laysSounds_29 : decode cX12_laysSounds 29 = .ok (.aload_n 0, 1) := by decide +kernel
theorem dX12_laysSounds_30 : decode cX12_laysSounds 30 = .ok (.getfield 25, 3) := by decide +kernel
theorem dX12_laysSounds_33 : decode cX12_laysSounds 33 = .ok (.iload_n 1, 1) := by decide +kernel
theorem dX12_laysSounds_34 : decode cX12_laysSounds 34 = .ok (.iload_n 3, 1) := by decide +kernel
theorem dX12_laysSounds_35 : decode cX12_laysSounds 35 = .ok (.invokestatic 139, 3) := by decide +kernel
theorem dX12_laysSounds_38 : decode cX12_laysSounds 38 = .ok (.iaload, 1) := by decide +kernel
theorem dX12_laysSounds_39 : decode cX12_laysSounds 39 = .ok (.if_icmp .ge 150, 3) := by decide +kernel
theorem dX12_laysSounds_42 : decode cX12_laysSounds 42 = .ok (.sipush 768, 3) := by decide +kernel
theorem dX12_laysSounds_45 : decode cX12_laysSounds 45 = .ok (.iload_n 1, 1) := by decide +kernel
theorem dX12_laysSounds_46 : decode cX12_laysSounds 46 = .ok (.imul, 1) := by decide +kernel
theorem dX12_laysSounds_47 : decode cX12_laysSounds 47 = .ok (.aload_n 0, 1) := by decide +kernel
theorem dX12_laysSounds_48 : decode cX12_laysSounds 48 = .ok (.getfield 84, 3) := by decide +kernel
theorem dX12_laysSounds_51 : decode cX12_laysSounds 51 = .ok (.iload_n 1, 1) := by decide +kernel
theorem dX12_laysSounds_52 : decode cX12_laysSounds 52 = .ok (.iaload, 1) := by decide +kernel
theorem dX12_laysSounds_53 : decode cX12_laysSounds 53 = .ok (.iadd, 1) := by decide +kernel
theorem dX12_laysSounds_54 : decode cX12_laysSounds 54 = .ok (.istore 5, 2) := by decide +kernel
theorem dX12_laysSounds_56 : decode cX12_laysSounds 56 = .ok (.aload_n 0, 1) := by decide +kernel
theorem dX12_laysSounds_57 : decode cX12_laysSounds 57 = .ok (.getfield 32, 3) := by decide +kernel
theorem dX12_laysSounds_60 : decode cX12_laysSounds 60 = .ok (.iload_n 1, 1) := by decide +kernel
theorem dX12_laysSounds_61 : decode cX12_laysSounds 61 = .ok (.iload_n 3, 1) := by decide +kernel
theorem dX12_laysSounds_62 : decode cX12_laysSounds 62 = .ok (.iload 4, 2) := by decide +kernel
theorem dX12_laysSounds_64 : decode cX12_laysSounds 64 = .ok (.invokestatic 151, 3) := by decide +kernel
theorem dX12_laysSounds_67 : decode cX12_laysSounds 67 = .ok (.iaload, 1) := by decide +kernel
theorem dX12_laysSounds_68 : decode cX12_laysSounds 68 = .ok (.ifCond .le 34, 3) := by decide +kernel
theorem dX12_laysSounds_71 : decode cX12_laysSounds 71 = .ok (.aload_n 0, 1) := by decide +kernel
theorem dX12_laysSounds_72 : decode cX12_laysSounds 72 = .ok (.iload_n 1, 1) := by decide +kernel
theorem dX12_laysSounds_73 : decode cX12_laysSounds 73 = .ok (.iload_n 2, 1) := by decide +kernel
theorem dX12_laysSounds_74 : decode cX12_laysSounds 74 = .ok (.iload 4, 2) := by decide +kernel
theorem dX12_laysSounds_76 : decode cX12_laysSounds 76 = .ok (.invokevirtual 223, 3) := by decide +kernel
theorem dX12_laysSounds_79 : decode cX12_laysSounds 79 = .ok (.ifCond .eq 23, 3) := by decide +kernel
theorem dX12_laysSounds_82 : decode cX12_laysSounds 82 = .ok (.aload_n 0, 1) := by decide +kernel
theorem dX12_laysSounds_83 : decode cX12_laysSounds 83 = .ok (.getfield 90, 3) := by decide +kernel
theorem dX12_laysSounds_86 : decode cX12_laysSounds 86 = .ok (.iload 5, 2) := by decide +kernel
theorem dX12_laysSounds_88 : decode cX12_laysSounds 88 = .ok (.iconst 1, 1) := by decide +kernel
theorem dX12_laysSounds_89 : decode cX12_laysSounds 89 = .ok (.isub, 1) := by decide +kernel
theorem dX12_laysSounds_90 : decode cX12_laysSounds 90 = .ok (.aload_n 0, 1) := by decide +kernel
theorem dX12_laysSounds_91 : decode cX12_laysSounds 91 = .ok (.iload_n 1, 1) := by decide +kernel
theorem dX12_laysSounds_92 : decode cX12_laysSounds 92 = .ok (.iload_n 2, 1) := by decide +kernel
theorem dX12_laysSounds_93 : decode cX12_laysSounds 93 = .ok (.iload 4, 2) := by decide +kernel
theorem dX12_laysSounds_95 : decode cX12_laysSounds 95 = .ok (.invokevirtual 226, 3) := by decide +kernel
theorem dX12_laysSounds_98 : decode cX12_laysSounds 98 = .ok (.iastore, 1) := by decide +kernel
theorem dX12_laysSounds_99 : decode cX12_laysSounds 99 = .ok (.goto 84, 3) := by decide +kernel
theorem dX12_laysSounds_102 : decode cX12_laysSounds 102 = .ok (.aload_n 0, 1) := by decide +kernel
theorem dX12_laysSounds_103 : decode cX12_laysSounds 103 = .ok (.getfield 32, 3) := by decide +kernel
theorem dX12_laysSounds_106 : decode cX12_laysSounds 106 = .ok (.iload_n 1, 1) := by decide +kernel
theorem dX12_laysSounds_107 : decode cX12_laysSounds 107 = .ok (.iload_n 3, 1) := by decide +kernel
theorem dX12_laysSounds_108 : decode cX12_laysSounds 108 = .ok (.iload 4, 2) := by decide +kernel
theorem dX12_laysSounds_110 : decode cX12_laysSounds 110 = .ok (.invokestatic 151, 3) := by decide +kernel
theorem dX12_laysSounds_113 : decode cX12_laysSounds 113 = .ok (.iaload, 1) := by decide +kernel
theorem dX12_laysSounds_114 : decode cX12_laysSounds 114 = .ok (.ifCond .le 69, 3) := by decide +kernel
theorem dX12_laysSounds_117 : decode cX12_laysSounds 117 = .ok (.aload_n 0, 1) := by decide +kernel
theorem dX12_laysSounds_118 : decode cX12_laysSounds 118 = .ok (.getfield 87, 3) := by decide +kernel
theorem dX12_laysSounds_121 : decode cX12_laysSounds 121 = .ok (.iload 5, 2) := by decide +kernel
theorem dX12_laysSounds_123 : decode cX12_laysSounds 123 = .ok (.aload_n 0, 1) := by decide +kernel
theorem dX12_laysSounds_124 : decode cX12_laysSounds 124 = .ok (.getfield 81, 3) := by decide +kernel
theorem dX12_laysSounds_127 : decode cX12_laysSounds 127 = .ok (.iload_n 2, 1) := by decide +kernel
theorem dX12_laysSounds_128 : decode cX12_laysSounds 128 = .ok (.iaload, 1) := by decide +kernel
theorem dX12_laysSounds_129 : decode cX12_laysSounds 129 = .ok (.aload_n 0, 1) := by decide +kernel
theorem dX12_laysSounds_130 : decode cX12_laysSounds 130 = .ok (.iload_n 3, 1) := by decide +kernel
theorem dX12_laysSounds_131 : decode cX12_laysSounds 131 = .ok (.aload_n 0, 1) := by decide +kernel
theorem dX12_laysSounds_132 : decode cX12_laysSounds 132 = .ok (.iload_n 1, 1) := by decide +kernel
theorem dX12_laysSounds_133 : decode cX12_laysSounds 133 = .ok (.iload_n 3, 1) := by decide +kernel
theorem dX12_laysSounds_134 : decode cX12_laysSounds 134 = .ok (.iload 4, 2) := by decide +kernel
theorem dX12_laysSounds_136 : decode cX12_laysSounds 136 = .ok (.invokevirtual 158, 3) := by decide +kernel
theorem dX12_laysSounds_139 : decode cX12_laysSounds 139 = .ok (.invokevirtual 178, 3) := by decide +kernel
theorem dX12_laysSounds_142 : decode cX12_laysSounds 142 = .ok (.iadd, 1) := by decide +kernel
theorem dX12_laysSounds_143 : decode cX12_laysSounds 143 = .ok (.iastore, 1) := by decide +kernel
theorem dX12_laysSounds_144 : decode cX12_laysSounds 144 = .ok (.aload_n 0, 1) := by decide +kernel
theorem dX12_laysSounds_145 : decode cX12_laysSounds 145 = .ok (.getfield 90, 3) := by decide +kernel
theorem dX12_laysSounds_148 : decode cX12_laysSounds 148 = .ok (.iload 5, 2) := by decide +kernel
theorem dX12_laysSounds_150 : decode cX12_laysSounds 150 = .ok (.aload_n 0, 1) := by decide +kernel
theorem dX12_laysSounds_151 : decode cX12_laysSounds 151 = .ok (.iload_n 1, 1) := by decide +kernel
theorem dX12_laysSounds_152 : decode cX12_laysSounds 152 = .ok (.iload_n 2, 1) := by decide +kernel
theorem dX12_laysSounds_153 : decode cX12_laysSounds 153 = .ok (.iload 4, 2) := by decide +kernel
theorem dX12_laysSounds_155 : decode cX12_laysSounds 155 = .ok (.invokevirtual 226, 3) := by decide +kernel
theorem dX12_laysSounds_158 : decode cX12_laysSounds 158 = .ok (.iastore, 1) := by decide +kernel
theorem dX12_laysSounds_159 : decode cX12_laysSounds 159 = .ok (.aload_n 0, 1) := by decide +kernel
theorem dX12_laysSounds_160 : decode cX12_laysSounds 160 = .ok (.getfield 93, 3) := by decide +kernel
theorem dX12_laysSounds_163 : decode cX12_laysSounds 163 = .ok (.iload 5, 2) := by decide +kernel
theorem dX12_laysSounds_165 : decode cX12_laysSounds 165 = .ok (.bipush 16, 2) := by decide +kernel
theorem dX12_laysSounds_167 : decode cX12_laysSounds 167 = .ok (.iload_n 3, 1) := by decide +kernel
theorem dX12_laysSounds_168 : decode cX12_laysSounds 168 = .ok (.imul, 1) := by decide +kernel
theorem dX12_laysSounds_169 : decode cX12_laysSounds 169 = .ok (.iload 4, 2) := by decide +kernel
theorem dX12_laysSounds_171 : decode cX12_laysSounds 171 = .ok (.iadd, 1) := by decide +kernel
theorem dX12_laysSounds_172 : decode cX12_laysSounds 172 = .ok (.iastore, 1) := by decide +kernel
theorem dX12_laysSounds_173 : decode cX12_laysSounds 173 = .ok (.aload_n 0, 1) := by decide +kernel
theorem dX12_laysSounds_174 : decode cX12_laysSounds 174 = .ok (.getfield 84, 3) := by decide +kernel
theorem dX12_laysSounds_177 : decode cX12_laysSounds 177 = .ok (.iload_n 1, 1) := by decide +kernel
theorem dX12_laysSounds_178 : decode cX12_laysSounds 178 = .ok (.dup2, 1) := by decide +kernel
theorem dX12_laysSounds_179 : decode cX12_laysSounds 179 = .ok (.iaload, 1) := by decide +kernel
theorem dX12_laysSounds_180 : decode cX12_laysSounds 180 = .ok (.iconst 1, 1) := by decide +kernel
theorem dX12_laysSounds_181 : decode cX12_laysSounds 181 = .ok (.iadd, 1) := by decide +kernel
theorem dX12_laysSounds_182 : decode cX12_laysSounds 182 = .ok (.iastore, 1) := by decide +kernel
theorem dX12_laysSounds_183 : decode cX12_laysSounds 183 = .ok (.iinc 4 1, 3) := by decide +kernel
theorem dX12_laysSounds_186 : decode cX12_laysSounds 186 = .ok (.goto (-159), 3) := by decide +kernel
theorem dX12_laysSounds_189 : decode cX12_laysSounds 189 = .ok (.iinc 2 1, 3) := by decide +kernel
theorem dX12_laysSounds_192 : decode cX12_laysSounds 192 = .ok (.goto (-183), 3) := by decide +kernel
theorem dX12_laysSounds_195 : decode cX12_laysSounds 195 = .ok (.return_, 1) := by decide +kernel
theorem dX12_laysAllSounds_0 : decode cX12_laysAllSounds 0 = .ok (.aload_n 0, 1) := by decide +kernel
theorem dX12_laysAllSounds_1 : decode cX12_laysAllSounds 1 = .ok (.invokevirtual 214, 3) := by decide +kernel
theorem dX12_laysAllSounds_4 : decode cX12_laysAllSounds 4 = .ok (.iconst 0, 1) := by decide +kernel
theorem dX12_laysAllSounds_5 : decode cX12_laysAllSounds 5 = .ok (.istore_n 1, 1) := by decide +kernel
theorem dX12_laysAllSounds_6 : decode cX12_laysAllSounds 6 = .ok (.iconst 0, 1) := by decide +kernel
theorem dX12_laysAllSounds_7 : decode cX12_laysAllSounds 7 = .ok (.istore_n 2, 1) := by decide +kernel
theorem dX12_laysAllSounds_8 : decode cX12_laysAllSounds 8 = .ok (.iload_n 2, 1) := by decide +kernel
theorem dX12_laysAllSounds_9 : decode cX12_laysAllSounds 9 = .ok (.iconst 4, 1) := by decide +kernel
theorem dX12_laysAllSounds_10 : decode cX12_laysAllSounds 10 = .ok (.if_icmp .ge 23, 3) := by decide +kernel
theorem dX12_laysAllSounds_13 : decode cX12_laysAllSounds 13 = .ok (.aload_n 0, 1) := by decide +kernel
theorem dX12_laysAllSounds_14 : decode cX12_laysAllSounds 14 = .ok (.iload_n 2, 1) := by decide +kernel
theorem dX12_laysAllSounds_15 : decode cX12_laysAllSounds 15 = .ok (.invokevirtual 229, 3) := by decide +kernel
theorem dX12_laysAllSounds_18 : decode cX12_laysAllSounds 18 = .ok (.iload_n 1, 1) := by decide +kernel
theorem dX12_laysAllSounds_19 : decode cX12_laysAllSounds 19 = .ok (.aload_n 0, 1) := by decide +kernel
theorem dX12_laysAllSounds_20 : decode cX12_laysAllSounds 20 = .ok (.getfield 84, 3) := by decide +kernel
theorem dX12_laysAllSounds_23 : decode cX12_laysAllSounds 23 = .ok (.iload_n 2, 1) := by decide +kernel
theorem dX12_laysAllSounds_24 : decode cX12_laysAllSounds 24 = .ok (.iaload, 1) := by decide +kernel
theorem dX12_laysAllSounds_25 : decode cX12_laysAllSounds 25 = .ok (.iadd, 1) := by decide +kernel
theorem dX12_laysAllSounds_26 : decode cX12_laysAllSounds 26 = .ok (.istore_n 1, 1) := by decide +kernel
theorem dX12_laysAllSounds_27 : decode cX12_laysAllSounds 27 = .ok (.iinc 2 1, 3) := by decide +kernel
theorem dX12_laysAllSounds_30 : decode cX12_laysAllSounds 30 = .ok (.goto (-22), 3) := by decide +kernel
theorem dX12_laysAllSounds_33 : decode cX12_laysAllSounds 33 = .ok (.iload_n 1, 1) := by decide +kernel
theorem dX12_laysAllSounds_34 : decode cX12_laysAllSounds 34 = .ok (.ireturn, 1) := by decide +kernel
theorem dX12_soundAt_0 : decode cX12_soundAt 0 = .ok (.iconst (-1), 1) := by decide +kernel
theorem dX12_soundAt_1 : decode cX12_soundAt 1 = .ok (.istore_n 2, 1) := by decide +kernel
theorem dX12_soundAt_2 : decode cX12_soundAt 2 = .ok (.iconst 0, 1) := by decide +kernel
theorem dX12_soundAt_3 : decode cX12_soundAt 3 = .ok (.istore_n 3, 1) := by decide +kernel
theorem dX12_soundAt_4 : decode cX12_soundAt 4 = .ok (.iload_n 3, 1) := by decide +kernel
theorem dX12_soundAt_5 : decode cX12_soundAt 5 = .ok (.iconst 4, 1) := by decide +kernel
theorem dX12_soundAt_6 : decode cX12_soundAt 6 = .ok (.if_icmp .ge 16, 3) := by decide +kernel
theorem dX12_soundAt_9 : decode cX12_soundAt 9 = .ok (.aload_n 0, 1) := by decide +kernel
theorem dX12_soundAt_10 : decode cX12_soundAt 10 = .ok (.getfield 96, 3) := by decide +kernel
theorem dX12_soundAt_13 : decode cX12_soundAt 13 = .ok (.iload_n 3, 1) := by decide +kernel
theorem dX12_soundAt_14 : decode cX12_soundAt 14 = .ok (.iconst 0, 1) := by decide +kernel
theorem dX12_soundAt_15 : decode cX12_soundAt 15 = .ok (.iastore, 1) := by decide +kernel
theorem dX12_soundAt_16 : decode cX12_soundAt 16 = .ok (.iinc 3 1, 3) := by decide +kernel
theorem dX12_soundAt_19 : decode cX12_soundAt 19 = .ok (.goto (-15), 3) := by decide +kernel
theorem dX12_soundAt_22 : decode cX12_soundAt 22 = .ok (.iconst 0, 1) := by decide +kernel
theorem dX12_soundAt_23 : decode cX12_soundAt 23 = .ok (.istore_n 3, 1) := by decide +kernel
theorem dX12_soundAt_24 : decode cX12_soundAt 24 = .ok (.iload_n 3, 1) := by decide +kernel
theorem dX12_soundAt_25 : decode cX12_soundAt 25 = .ok (.iload_n 1, 1) := by decide +kernel
theorem dX12_soundAt_26 : decode cX12_soundAt 26 = .ok (.if_icmp .gt 138, 3) := by decide +kernel
theorem dX12_soundAt_29 : decode cX12_soundAt 29 = .ok (.iconst (-1), 1) := by decide +kernel
theorem dX12_soundAt_30 : decode cX12_soundAt 30 = .ok (.istore 4, 2) := by decide +kernel
theorem dX12_soundAt_32 : decode cX12_soundAt 32 = .ok (.iconst 0, 1) := by decide +kernel
theorem dX12_soundAt_33 : decode cX12_soundAt 33 = .ok (.istore 5, 2) := by decide +kernel
theorem dX12_soundAt_35 : decode cX12_soundAt 35 = .ok (.iload 5, 2) := by decide +kernel
theorem dX12_soundAt_37 : decode cX12_soundAt 37 = .ok (.iconst 4, 1) := by decide +kernel
theorem dX12_soundAt_38 : decode cX12_soundAt 38 = .ok (.if_icmp .ge 94, 3) := by decide +kernel
theorem dX12_soundAt_41 : decode cX12_soundAt 41 = .ok (.aload_n 0, 1) := by decide +kernel
theorem dX12_soundAt_42 : decode cX12_soundAt 42 = .ok (.getfield 96, 3) := by decide +kernel
theorem dX12_soundAt_45 : decode cX12_soundAt 45 = .ok (.iload 5, 2) := by decide +kernel
theorem dX12_soundAt_47 : decode cX12_soundAt 47 = .ok (.iaload, 1) := by decide +kernel
theorem dX12_soundAt_48 : decode cX12_soundAt 48 = .ok (.aload_n 0, 1) := by decide +kernel
theorem dX12_soundAt_49 : decode cX12_soundAt 49 = .ok (.getfield 84, 3) := by decide +kernel
theorem dX12_soundAt_52 : decode cX12_soundAt 52 = .ok (.iload 5, 2) := by decide +kernel
theorem dX12_soundAt_54 : decode cX12_soundAt 54 = .ok (.iaload, 1) := by decide +kernel
theorem dX12_soundAt_55 : decode cX12_soundAt 55 = .ok (.if_icmp .ge 54, 3) := by decide +kernel
theorem dX12_soundAt_58 : decode cX12_soundAt 58 = .ok (.iload 4, 2) := by decide +kernel
theorem dX12_soundAt_60 : decode cX12_soundAt 60 = .ok (.iconst (-1), 1) := by decide +kernel
theorem dX12_soundAt_61 : decode cX12_soundAt 61 = .ok (.if_icmp .eq 44, 3) := by decide +kernel
theorem dX12_soundAt_64 : decode cX12_soundAt 64 = .ok (.aload_n 0, 1) := by decide +kernel
theorem dX12_soundAt_65 : decode cX12_soundAt 65 = .ok (.getfield 87, 3) := by decide +kernel
theorem dX12_soundAt_68 : decode cX12_soundAt 68 = .ok (.sipush 768, 3) := by decide +kernel
theorem dX12_soundAt_71 : decode cX12_soundAt 71 = .ok (.iload 5, 2) := by decide +kernel
theorem dX12_soundAt_73 : decode cX12_soundAt 73 = .ok (.imul, 1) := by decide +kernel
theorem dX12_soundAt_74 : decode cX12_soundAt 74 = .ok (.aload_n 0, 1) := by decide +kernel
theorem dX12_soundAt_75 : decode cX12_soundAt 75 = .ok (.getfield 96, 3) := by decide +kernel
theorem dX12_soundAt_78 : decode cX12_soundAt 78 = .ok (.iload 5, 2) := by decide +kernel
theorem dX12_soundAt_80 : decode cX12_soundAt 80 = .ok (.iaload, 1) := by decide +kernel
theorem dX12_soundAt_81 : decode cX12_soundAt 81 = .ok (.iadd, 1) := by decide +kernel
theorem dX12_soundAt_82 : decode cX12_soundAt 82 = .ok (.iaload, 1) := by decide +kernel
theorem dX12_soundAt_83 : decode cX12_soundAt 83 = .ok (.aload_n 0, 1) := by decide +kernel
theorem dX12_soundAt_84 : decode cX12_soundAt 84 = .ok (.getfield 87, 3) := by decide +kernel
theorem dX12_soundAt_87 : decode cX12_soundAt 87 = .ok (.sipush 768, 3) := by decide +kernel
theorem dX12_soundAt_90 : decode cX12_soundAt 90 = .ok (.iload 4, 2) := by decide +kernel
theorem dX12_soundAt_92 : decode cX12_soundAt 92 = .ok (.imul, 1) := by decide +kernel
theorem dX12_soundAt_93 : decode cX12_soundAt 93 = .ok (.aload_n 0, 1) := by decide +kernel
theorem dX12_soundAt_94 : decode cX12_soundAt 94 = .ok (.getfield 96, 3) := by decide +kernel
theorem dX12_soundAt_97 : decode cX12_soundAt 97 = .ok (.iload 4, 2) := by decide +kernel
theorem dX12_soundAt_99 : decode cX12_soundAt 99 = .ok (.iaload, 1) := by decide +kernel
theorem dX12_soundAt_100 : decode cX12_soundAt 100 = .ok (.iadd, 1) := by decide +kernel
theorem dX12_soundAt_101 : decode cX12_soundAt 101 = .ok (.iaload, 1) := by decide +kernel
theorem dX12_soundAt_102 : decode cX12_soundAt 102 = .ok (.if_icmp .ge 7, 3) := by decide +kernel
theorem dX12_soundAt_105 : decode cX12_soundAt 105 = .ok (.iconst 1, 1) := by decide +kernel
theorem dX12_soundAt_106 : decode cX12_soundAt 106 = .ok (.goto 4, 3) := by decide +kernel
theorem dX12_soundAt_109 : decode cX12_soundAt 109 = .ok (.iconst 0, 1) := by decide +kernel
theorem dX12_soundAt_110 : decode cX12_soundAt 110 = .ok (.istore 6, 2) := by decide +kernel
theorem dX12_soundAt_112 : decode cX12_soundAt 112 = .ok (.iload 6, 2) := by decide +kernel
theorem dX12_soundAt_114 : decode cX12_soundAt 114 = .ok (.ifCond .eq 8, 3) := by decide +kernel
theorem dX12_soundAt_117 : decode cX12_soundAt 117 = .ok (.iload 5, 2) := by decide +kernel
theorem dX12_soundAt_119 : decode cX12_soundAt 119 = .ok (.goto 5, 3) := by decide +kernel
theorem dX12_soundAt_122 : decode cX12_soundAt 122 = .ok (.iload 4, 2) := by decide +kernel
theorem dX12_soundAt_124 : decode cX12_soundAt 124 = .ok (.istore 4, 2) := by decide +kernel
theorem dX12_soundAt_126 : decode cX12_soundAt 126 = .ok (.iinc 5 1, 3) := by decide +kernel
theorem dX12_soundAt_129 : decode cX12_soundAt 129 = .ok (.goto (-94), 3) := by decide +kernel
theorem dX12_soundAt_132 : decode cX12_soundAt 132 = .ok (.sipush 768, 3) := by decide +kernel
theorem dX12_soundAt_135 : decode cX12_soundAt 135 = .ok (.iload 4, 2) := by decide +kernel
theorem dX12_soundAt_137 : decode cX12_soundAt 137 = .ok (.imul, 1) := by decide +kernel
theorem dX12_soundAt_138 : decode cX12_soundAt 138 = .ok (.aload_n 0, 1) := by decide +kernel
theorem dX12_soundAt_139 : decode cX12_soundAt 139 = .ok (.getfield 96, 3) := by decide +kernel
theorem dX12_soundAt_142 : decode cX12_soundAt 142 = .ok (.iload 4, 2) := by decide +kernel
theorem dX12_soundAt_144 : decode cX12_soundAt 144 = .ok (.iaload, 1) := by decide +kernel
theorem dX12_soundAt_145 : decode cX12_soundAt 145 = .ok (.iadd, 1) := by decide +kernel
theorem dX12_soundAt_146 : decode cX12_soundAt 146 = .ok (.istore_n 2, 1) := by decide +kernel
theorem dX12_soundAt_147 : decode cX12_soundAt 147 = .ok (.aload_n 0, 1) := by decide +kernel
theorem dX12_soundAt_148 : decode cX12_soundAt 148 = .ok (.getfield 96, 3) := by decide +kernel
theorem dX12_soundAt_151 : decode cX12_soundAt 151 = .ok (.iload 4, 2) := by decide +kernel
theorem dX12_soundAt_153 : decode cX12_soundAt 153 = .ok (.dup2, 1) := by decide +kernel
theorem dX12_soundAt_154 : decode cX12_soundAt 154 = .ok (.iaload, 1) := by decide +kernel
theorem dX12_soundAt_155 : decode cX12_soundAt 155 = .ok (.iconst 1, 1) := by decide +kernel
theorem dX12_soundAt_156 : decode cX12_soundAt 156 = .ok (.iadd, 1) := by decide +kernel
theorem dX12_soundAt_157 : decode cX12_soundAt 157 = .ok (.iastore, 1) := by decide +kernel
theorem dX12_soundAt_158 : decode cX12_soundAt 158 = .ok (.iinc 3 1, 3) := by decide +kernel
theorem dX12_soundAt_161 : decode cX12_soundAt 161 = .ok (.goto (-137), 3) := by decide +kernel
theorem dX12_soundAt_164 : decode cX12_soundAt 164 = .ok (.iload_n 2, 1) := by decide +kernel
theorem dX12_soundAt_165 : decode cX12_soundAt 165 = .ok (.ireturn, 1) := by decide +kernel
theorem dX12_isSound_0 : decode cX12_isSound 0 = .ok (.aload_n 0, 1) := by decide +kernel
theorem dX12_isSound_1 : decode cX12_isSound 1 = .ok (.invokevirtual 233, 3) := by decide +kernel
theorem dX12_isSound_4 : decode cX12_isSound 4 = .ok (.istore_n 2, 1) := by decide +kernel
theorem dX12_isSound_5 : decode cX12_isSound 5 = .ok (.aload_n 0, 1) := by decide +kernel
theorem dX12_isSound_6 : decode cX12_isSound 6 = .ok (.iload_n 1, 1) := by decide +kernel
theorem dX12_isSound_7 : decode cX12_isSound 7 = .ok (.iconst 0, 1) := by decide +kernel
theorem dX12_isSound_8 : decode cX12_isSound 8 = .ok (.iload_n 2, 1) := by decide +kernel
theorem dX12_isSound_9 : decode cX12_isSound 9 = .ok (.iconst 1, 1) := by decide +kernel
theorem dX12_isSound_10 : decode cX12_isSound 10 = .ok (.isub, 1) := by decide +kernel
theorem dX12_isSound_11 : decode cX12_isSound 11 = .ok (.invokestatic 135, 3) := by decide +kernel
theorem dX12_isSound_14 : decode cX12_isSound 14 = .ok (.iconst 1, 1) := by decide +kernel
theorem dX12_isSound_15 : decode cX12_isSound 15 = .ok (.iconst 1, 1) := by decide +kernel
theorem dX12_isSound_16 : decode cX12_isSound 16 = .ok (.invokevirtual 165, 3) := by decide +kernel
theorem dX12_isSound_19 : decode cX12_isSound 19 = .ok (.ireturn, 1) := by decide +kernel
theorem dX12_sounds_0 : decode cX12_sounds 0 = .ok (.aload_n 0, 1) := by decide +kernel
theorem dX12_sounds_1 : decode cX12_sounds 1 = .ok (.aload_n 0, 1) := by decide +kernel
theorem dX12_sounds_2 : decode cX12_sounds 2 = .ok (.invokevirtual 233, 3) := by decide +kernel
theorem dX12_sounds_5 : decode cX12_sounds 5 = .ok (.invokevirtual 175, 3) := by decide +kernel
theorem dX12_sounds_8 : decode cX12_sounds 8 = .ok (.ireturn, 1) := by decide +kernel
theorem dX12_soundVoice_0 : decode cX12_soundVoice 0 = .ok (.aload_n 0, 1) := by decide +kernel
theorem dX12_soundVoice_1 : decode cX12_soundVoice 1 = .ok (.iload_n 1, 1) := by decide +kernel
theorem dX12_soundVoice_2 : decode cX12_soundVoice 2 = .ok (.invokevirtual 236, 3) := by decide +kernel
theorem dX12_soundVoice_5 : decode cX12_soundVoice 5 = .ok (.ifCond .eq 15, 3) := by decide +kernel
theorem dX12_soundVoice_8 : decode cX12_soundVoice 8 = .ok (.aload_n 0, 1) := by decide +kernel
theorem dX12_soundVoice_9 : decode cX12_soundVoice 9 = .ok (.iload_n 1, 1) := by decide +kernel
theorem dX12_soundVoice_10 : decode cX12_soundVoice 10 = .ok (.invokevirtual 239, 3) := by decide +kernel
theorem dX12_soundVoice_13 : decode cX12_soundVoice 13 = .ok (.sipush 768, 3) := by decide +kernel
theorem dX12_soundVoice_16 : decode cX12_soundVoice 16 = .ok (.idiv, 1) := by decide +kernel
theorem dX12_soundVoice_17 : decode cX12_soundVoice 17 = .ok (.goto 4, 3) := by decide +kernel
theorem dX12_soundVoice_20 : decode cX12_soundVoice 20 = .ok (.iconst 0, 1) := by decide +kernel
theorem dX12_soundVoice_21 : decode cX12_soundVoice 21 = .ok (.ireturn, 1) := by decide +kernel
theorem dX12_soundStart_0 : decode cX12_soundStart 0 = .ok (.aload_n 0, 1) := by decide +kernel
theorem dX12_soundStart_1 : decode cX12_soundStart 1 = .ok (.iload_n 1, 1) := by decide +kernel
theorem dX12_soundStart_2 : decode cX12_soundStart 2 = .ok (.invokevirtual 236, 3) := by decide +kernel
theorem dX12_soundStart_5 : decode cX12_soundStart 5 = .ok (.ifCond .eq 16, 3) := by decide +kernel
theorem dX12_soundStart_8 : decode cX12_soundStart 8 = .ok (.aload_n 0, 1) := by decide +kernel
theorem dX12_soundStart_9 : decode cX12_soundStart 9 = .ok (.getfield 87, 3) := by decide +kernel
theorem dX12_soundStart_12 : decode cX12_soundStart 12 = .ok (.aload_n 0, 1) := by decide +kernel
theorem dX12_soundStart_13 : decode cX12_soundStart 13 = .ok (.iload_n 1, 1) := by decide +kernel
theorem dX12_soundStart_14 : decode cX12_soundStart 14 = .ok (.invokevirtual 239, 3) := by decide +kernel
theorem dX12_soundStart_17 : decode cX12_soundStart 17 = .ok (.iaload, 1) := by decide +kernel
theorem dX12_soundStart_18 : decode cX12_soundStart 18 = .ok (.goto 4, 3) := by decide +kernel
theorem dX12_soundStart_21 : decode cX12_soundStart 21 = .ok (.iconst 0, 1) := by decide +kernel
theorem dX12_soundStart_22 : decode cX12_soundStart 22 = .ok (.ireturn, 1) := by decide +kernel
theorem dX12_soundTime_0 : decode cX12_soundTime 0 = .ok (.aload_n 0, 1) := by decide +kernel
theorem dX12_soundTime_1 : decode cX12_soundTime 1 = .ok (.iload_n 1, 1) := by decide +kernel
theorem dX12_soundTime_2 : decode cX12_soundTime 2 = .ok (.invokevirtual 236, 3) := by decide +kernel
theorem dX12_soundTime_5 : decode cX12_soundTime 5 = .ok (.ifCond .eq 27, 3) := by decide +kernel
theorem dX12_soundTime_8 : decode cX12_soundTime 8 = .ok (.aload_n 0, 1) := by decide +kernel
theorem dX12_soundTime_9 : decode cX12_soundTime 9 = .ok (.getfield 90, 3) := by decide +kernel
theorem dX12_soundTime_12 : decode cX12_soundTime 12 = .ok (.aload_n 0, 1) := by decide +kernel
theorem dX12_soundTime_13 : decode cX12_soundTime 13 = .ok (.iload_n 1, 1) := by decide +kernel
theorem dX12_soundTime_14 : decode cX12_soundTime 14 = .ok (.invokevirtual 239, 3) := by decide +kernel
theorem dX12_soundTime_17 : decode cX12_soundTime 17 = .ok (.iaload, 1) := by decide +kernel
theorem dX12_soundTime_18 : decode cX12_soundTime 18 = .ok (.aload_n 0, 1) := by decide +kernel
theorem dX12_soundTime_19 : decode cX12_soundTime 19 = .ok (.getfield 87, 3) := by decide +kernel
theorem dX12_soundTime_22 : decode cX12_soundTime 22 = .ok (.aload_n 0, 1) := by decide +kernel
theorem dX12_soundTime_23 : decode cX12_soundTime 23 = .ok (.iload_n 1, 1) := by decide +kernel
theorem dX12_soundTime_24 : decode cX12_soundTime 24 = .ok (.invokevirtual 239, 3) := by decide +kernel
theorem dX12_soundTime_27 : decode cX12_soundTime 27 = .ok (.iaload, 1) := by decide +kernel
theorem dX12_soundTime_28 : decode cX12_soundTime 28 = .ok (.isub, 1) := by decide +kernel
theorem dX12_soundTime_29 : decode cX12_soundTime 29 = .ok (.goto 4, 3) := by decide +kernel
theorem dX12_soundTime_32 : decode cX12_soundTime 32 = .ok (.iconst 0, 1) := by decide +kernel
theorem dX12_soundTime_33 : decode cX12_soundTime 33 = .ok (.ireturn, 1) := by decide +kernel
theorem dX12_eventOf_0 : decode cX12_eventOf 0 = .ok (.sipush 384, 3) := by decide +kernel
theorem dX12_eventOf_3 : decode cX12_eventOf 3 = .ok (.iload_n 1, 1) := by decide +kernel
theorem dX12_eventOf_4 : decode cX12_eventOf 4 = .ok (.sipush 768, 3) := by decide +kernel
theorem dX12_eventOf_7 : decode cX12_eventOf 7 = .ok (.idiv, 1) := by decide +kernel
theorem dX12_eventOf_8 : decode cX12_eventOf 8 = .ok (.imul, 1) := by decide +kernel
theorem dX12_eventOf_9 : decode cX12_eventOf 9 = .ok (.aload_n 0, 1) := by decide +kernel
theorem dX12_eventOf_10 : decode cX12_eventOf 10 = .ok (.getfield 93, 3) := by decide +kernel
theorem dX12_eventOf_13 : decode cX12_eventOf 13 = .ok (.iload_n 1, 1) := by decide +kernel
theorem dX12_eventOf_14 : decode cX12_eventOf 14 = .ok (.iaload, 1) := by decide +kernel
theorem dX12_eventOf_15 : decode cX12_eventOf 15 = .ok (.iadd, 1) := by decide +kernel
theorem dX12_eventOf_16 : decode cX12_eventOf 16 = .ok (.ireturn, 1) := by decide +kernel
theorem dX12_soundPitch_0 : decode cX12_soundPitch 0 = .ok (.aload_n 0, 1) := by decide +kernel
theorem dX12_soundPitch_1 : decode cX12_soundPitch 1 = .ok (.iload_n 1, 1) := by decide +kernel
theorem dX12_soundPitch_2 : decode cX12_soundPitch 2 = .ok (.invokevirtual 236, 3) := by decide +kernel
theorem dX12_soundPitch_5 : decode cX12_soundPitch 5 = .ok (.ifCond .eq 20, 3) := by decide +kernel
theorem dX12_soundPitch_8 : decode cX12_soundPitch 8 = .ok (.aload_n 0, 1) := by decide +kernel
theorem dX12_soundPitch_9 : decode cX12_soundPitch 9 = .ok (.getfield 32, 3) := by decide +kernel
theorem dX12_soundPitch_12 : decode cX12_soundPitch 12 = .ok (.aload_n 0, 1) := by decide +kernel
theorem dX12_soundPitch_13 : decode cX12_soundPitch 13 = .ok (.aload_n 0, 1) := by decide +kernel
theorem dX12_soundPitch_14 : decode cX12_soundPitch 14 = .ok (.iload_n 1, 1) := by decide +kernel
theorem dX12_soundPitch_15 : decode cX12_soundPitch 15 = .ok (.invokevirtual 239, 3) := by decide +kernel
theorem dX12_soundPitch_18 : decode cX12_soundPitch 18 = .ok (.invokevirtual 242, 3) := by decide +kernel
theorem dX12_soundPitch_21 : decode cX12_soundPitch 21 = .ok (.iaload, 1) := by decide +kernel
theorem dX12_soundPitch_22 : decode cX12_soundPitch 22 = .ok (.goto 4, 3) := by decide +kernel
theorem dX12_soundPitch_25 : decode cX12_soundPitch 25 = .ok (.iconst 0, 1) := by decide +kernel
theorem dX12_soundPitch_26 : decode cX12_soundPitch 26 = .ok (.ireturn, 1) := by decide +kernel
theorem dX12_loudness_0 : decode cX12_loudness 0 = .ok (.aload_n 0, 1) := by decide +kernel
theorem dX12_loudness_1 : decode cX12_loudness 1 = .ok (.iload_n 1, 1) := by decide +kernel
theorem dX12_loudness_2 : decode cX12_loudness 2 = .ok (.invokevirtual 236, 3) := by decide +kernel
theorem dX12_loudness_5 : decode cX12_loudness 5 = .ok (.ifCond .ne 5, 3) := by decide +kernel
theorem dX12_loudness_8 : decode cX12_loudness 8 = .ok (.iconst 0, 1) := by decide +kernel
theorem dX12_loudness_9 : decode cX12_loudness 9 = .ok (.ireturn, 1) := by decide +kernel
theorem dX12_loudness_10 : decode cX12_loudness 10 = .ok (.aload_n 0, 1) := by decide +kernel
theorem dX12_loudness_11 : decode cX12_loudness 11 = .ok (.iload_n 1, 1) := by decide +kernel
theorem dX12_loudness_12 : decode cX12_loudness 12 = .ok (.invokevirtual 239, 3) := by decide +kernel
theorem dX12_loudness_15 : decode cX12_loudness 15 = .ok (.istore_n 2, 1) := by decide +kernel
theorem dX12_loudness_16 : decode cX12_loudness 16 = .ok (.iload_n 2, 1) := by decide +kernel
theorem dX12_loudness_17 : decode cX12_loudness 17 = .ok (.sipush 768, 3) := by decide +kernel
theorem dX12_loudness_20 : decode cX12_loudness 20 = .ok (.idiv, 1) := by decide +kernel
theorem dX12_loudness_21 : decode cX12_loudness 21 = .ok (.istore_n 3, 1) := by decide +kernel
theorem dX12_loudness_22 : decode cX12_loudness 22 = .ok (.iconst 2, 1) := by decide +kernel
theorem dX12_loudness_23 : decode cX12_loudness 23 = .ok (.istore 4, 2) := by decide +kernel
theorem dX12_loudness_25 : decode cX12_loudness 25 = .ok (.iconst 0, 1) := by decide +kernel
theorem dX12_loudness_26 : decode cX12_loudness 26 = .ok (.istore 5, 2) := by decide +kernel
theorem dX12_loudness_28 : decode cX12_loudness 28 = .ok (.iload 5, 2) := by decide +kernel
theorem dX12_loudness_30 : decode cX12_loudness 30 = .ok (.aload_n 0, 1) := by decide +kernel
theorem dX12_loudness_31 : decode cX12_loudness 31 = .ok (.getfield 93, 3) := by decide +kernel
theorem dX12_loudness_34 : decode cX12_loudness 34 = .ok (.iload_n 2, 1) := by decide +kernel
theorem dX12_loudness_35 : decode cX12_loudness 35 = .ok (.iaload, 1) := by decide +kernel
theorem dX12_loudness_36 : decode cX12_loudness 36 = .ok (.if_icmp .gt 92, 3) := by decide +kernel
theorem dX12_loudness_39 : decode cX12_loudness 39 = .ok (.iload 5, 2) := by decide +kernel
theorem dX12_loudness_41 : decode cX12_loudness 41 = .ok (.bipush 16, 2) := by decide +kernel
theorem dX12_loudness_43 : decode cX12_loudness 43 = .ok (.irem, 1) := by decide +kernel
theorem dX12_loudness_44 : decode cX12_loudness 44 = .ok (.aload_n 0, 1) := by decide +kernel
theorem dX12_loudness_45 : decode cX12_loudness 45 = .ok (.getfield 25, 3) := by decide +kernel
theorem dX12_loudness_48 : decode cX12_loudness 48 = .ok (.iload_n 3, 1) := by decide +kernel
theorem dX12_loudness_49 : decode cX12_loudness 49 = .ok (.iload 5, 2) := by decide +kernel
theorem dX12_loudness_51 : decode cX12_loudness 51 = .ok (.bipush 16, 2) := by decide +kernel
theorem dX12_loudness_53 : decode cX12_loudness 53 = .ok (.idiv, 1) := by decide +kernel
theorem dX12_loudness_54 : decode cX12_loudness 54 = .ok (.invokestatic 139, 3) := by decide +kernel
theorem dX12_loudness_57 : decode cX12_loudness 57 = .ok (.iaload, 1) := by decide +kernel
theorem dX12_loudness_58 : decode cX12_loudness 58 = .ok (.if_icmp .ge 30, 3) := by decide +kernel
theorem dX12_loudness_61 : decode cX12_loudness 61 = .ok (.aload_n 0, 1) := by decide +kernel
theorem dX12_loudness_62 : decode cX12_loudness 62 = .ok (.getfield 41, 3) := by decide +kernel
theorem dX12_loudness_65 : decode cX12_loudness 65 = .ok (.iload_n 3, 1) := by decide +kernel
theorem dX12_loudness_66 : decode cX12_loudness 66 = .ok (.iload 5, 2) := by decide +kernel
theorem dX12_loudness_68 : decode cX12_loudness 68 = .ok (.bipush 16, 2) := by decide +kernel
theorem dX12_loudness_70 : decode cX12_loudness 70 = .ok (.idiv, 1) := by decide +kernel
theorem dX12_loudness_71 : decode cX12_loudness 71 = .ok (.iload 5, 2) := by decide +kernel
theorem dX12_loudness_73 : decode cX12_loudness 73 = .ok (.bipush 16, 2) := by decide +kernel
theorem dX12_loudness_75 : decode cX12_loudness 75 = .ok (.irem, 1) := by decide +kernel
theorem dX12_loudness_76 : decode cX12_loudness 76 = .ok (.invokestatic 151, 3) := by decide +kernel
theorem dX12_loudness_79 : decode cX12_loudness 79 = .ok (.iaload, 1) := by decide +kernel
theorem dX12_loudness_80 : decode cX12_loudness 80 = .ok (.iconst (-1), 1) := by decide +kernel
theorem dX12_loudness_81 : decode cX12_loudness 81 = .ok (.if_icmp .eq 7, 3) := by decide +kernel
theorem dX12_loudness_84 : decode cX12_loudness 84 = .ok (.iconst 1, 1) := by decide +kernel
theorem dX12_loudness_85 : decode cX12_loudness 85 = .ok (.goto 4, 3) := by decide +kernel
theorem dX12_loudness_88 : decode cX12_loudness 88 = .ok (.iconst 0, 1) := by decide +kernel
theorem dX12_loudness_89 : decode cX12_loudness 89 = .ok (.istore 6, 2) := by decide +kernel
theorem dX12_loudness_91 : decode cX12_loudness 91 = .ok (.iload 6, 2) := by decide +kernel
theorem dX12_loudness_93 : decode cX12_loudness 93 = .ok (.ifCond .eq 25, 3) := by decide +kernel
theorem dX12_loudness_96 : decode cX12_loudness 96 = .ok (.aload_n 0, 1) := by decide +kernel
theorem dX12_loudness_97 : decode cX12_loudness 97 = .ok (.getfield 41, 3) := by decide +kernel
theorem dX12_loudness_100 : decode cX12_loudness 100 = .ok (.iload_n 3, 1) := by decide +kernel
theorem dX12_loudness_101 : decode cX12_loudness 101 = .ok (.iload 5, 2) := by decide +kernel
theorem dX12_loudness_103 : decode cX12_loudness 103 = .ok (.bipush 16, 2) := by decide +kernel
theorem dX12_loudness_105 : decode cX12_loudness 105 = .ok (.idiv, 1) := by decide +kernel
theorem dX12_loudness_106 : decode cX12_loudness 106 = .ok (.iload 5, 2) := by decide +kernel
theorem dX12_loudness_108 : decode cX12_loudness 108 = .ok (.bipush 16, 2) := by decide +kernel
theorem dX12_loudness_110 : decode cX12_loudness 110 = .ok (.irem, 1) := by decide +kernel
theorem dX12_loudness_111 : decode cX12_loudness 111 = .ok (.invokestatic 151, 3) := by decide +kernel
theorem dX12_loudness_114 : decode cX12_loudness 114 = .ok (.iaload, 1) := by decide +kernel
theorem dX12_loudness_115 : decode cX12_loudness 115 = .ok (.goto 5, 3) := by decide +kernel
theorem dX12_loudness_118 : decode cX12_loudness 118 = .ok (.iload 4, 2) := by decide +kernel
theorem dX12_loudness_120 : decode cX12_loudness 120 = .ok (.istore 4, 2) := by decide +kernel
theorem dX12_loudness_122 : decode cX12_loudness 122 = .ok (.iinc 5 1, 3) := by decide +kernel
theorem dX12_loudness_125 : decode cX12_loudness 125 = .ok (.goto (-97), 3) := by decide +kernel
theorem dX12_loudness_128 : decode cX12_loudness 128 = .ok (.iload 4, 2) := by decide +kernel
theorem dX12_loudness_130 : decode cX12_loudness 130 = .ok (.ireturn, 1) := by decide +kernel
theorem dX12_setPaper_0 : decode cX12_setPaper 0 = .ok (.aload_n 0, 1) := by decide +kernel
theorem dX12_setPaper_1 : decode cX12_setPaper 1 = .ok (.iload_n 1, 1) := by decide +kernel
theorem dX12_setPaper_2 : decode cX12_setPaper 2 = .ok (.bipush 40, 2) := by decide +kernel
theorem dX12_setPaper_4 : decode cX12_setPaper 4 = .ok (.sipush 400, 3) := by decide +kernel
theorem dX12_setPaper_7 : decode cX12_setPaper 7 = .ok (.invokestatic 135, 3) := by decide +kernel
theorem dX12_setPaper_10 : decode cX12_setPaper 10 = .ok (.ifCond .eq 28, 3) := by decide +kernel
theorem dX12_setPaper_13 : decode cX12_setPaper 13 = .ok (.iload_n 2, 1) := by decide +kernel
theorem dX12_setPaper_14 : decode cX12_setPaper 14 = .ok (.iconst 1, 1) := by decide +kernel
theorem dX12_setPaper_15 : decode cX12_setPaper 15 = .ok (.bipush 6, 2) := by decide +kernel
theorem dX12_setPaper_17 : decode cX12_setPaper 17 = .ok (.invokestatic 135, 3) := by decide +kernel
theorem dX12_setPaper_20 : decode cX12_setPaper 20 = .ok (.ifCond .eq 18, 3) := by decide +kernel
theorem dX12_setPaper_23 : decode cX12_setPaper 23 = .ok (.iload_n 3, 1) := by decide +kernel
theorem dX12_setPaper_24 : decode cX12_setPaper 24 = .ok (.iconst 0, 1) := by decide +kernel
theorem dX12_setPaper_25 : decode cX12_setPaper 25 = .ok (.sipush 20000, 3) := by decide +kernel
theorem dX12_setPaper_28 : decode cX12_setPaper 28 = .ok (.invokestatic 135, 3) := by decide +kernel
theorem dX12_setPaper_31 : decode cX12_setPaper 31 = .ok (.ifCond .eq 7, 3) := by decide +kernel
theorem dX12_setPaper_34 : decode cX12_setPaper 34 = .ok (.iconst 1, 1) := by decide +kernel
theorem dX12_setPaper_35 : decode cX12_setPaper 35 = .ok (.goto 4, 3) := by decide +kernel
theorem dX12_setPaper_38 : decode cX12_setPaper 38 = .ok (.iconst 0, 1) := by decide +kernel
theorem dX12_setPaper_39 : decode cX12_setPaper 39 = .ok (.iconst 1, 1) := by decide +kernel
theorem dX12_setPaper_40 : decode cX12_setPaper 40 = .ok (.iconst 1, 1) := by decide +kernel
theorem dX12_setPaper_41 : decode cX12_setPaper 41 = .ok (.invokevirtual 165, 3) := by decide +kernel
theorem dX12_setPaper_44 : decode cX12_setPaper 44 = .ok (.ifCond .eq 18, 3) := by decide +kernel
theorem dX12_setPaper_47 : decode cX12_setPaper 47 = .ok (.aload_n 0, 1) := by decide +kernel
theorem dX12_setPaper_48 : decode cX12_setPaper 48 = .ok (.iload_n 1, 1) := by decide +kernel
theorem dX12_setPaper_49 : decode cX12_setPaper 49 = .ok (.putfield 68, 3) := by decide +kernel
theorem dX12_setPaper_52 : decode cX12_setPaper 52 = .ok (.aload_n 0, 1) := by decide +kernel
theorem dX12_setPaper_53 : decode cX12_setPaper 53 = .ok (.iload_n 2, 1) := by decide +kernel
theorem dX12_setPaper_54 : decode cX12_setPaper 54 = .ok (.putfield 72, 3) := by decide +kernel
theorem dX12_setPaper_57 : decode cX12_setPaper 57 = .ok (.aload_n 0, 1) := by decide +kernel
theorem dX12_setPaper_58 : decode cX12_setPaper 58 = .ok (.iload_n 3, 1) := by decide +kernel
theorem dX12_setPaper_59 : decode cX12_setPaper 59 = .ok (.putfield 75, 3) := by decide +kernel
theorem dX12_setPaper_62 : decode cX12_setPaper 62 = .ok (.return_, 1) := by decide +kernel
theorem dX12_canDraw_0 : decode cX12_canDraw 0 = .ok (.aload_n 0, 1) := by decide +kernel
theorem dX12_canDraw_1 : decode cX12_canDraw 1 = .ok (.getfield 132, 3) := by decide +kernel
theorem dX12_canDraw_4 : decode cX12_canDraw 4 = .ok (.ifCond .le 7, 3) := by decide +kernel
theorem dX12_canDraw_7 : decode cX12_canDraw 7 = .ok (.iconst 1, 1) := by decide +kernel
theorem dX12_canDraw_8 : decode cX12_canDraw 8 = .ok (.goto 4, 3) := by decide +kernel
theorem dX12_canDraw_11 : decode cX12_canDraw 11 = .ok (.iconst 0, 1) := by decide +kernel
theorem dX12_canDraw_12 : decode cX12_canDraw 12 = .ok (.istore_n 2, 1) := by decide +kernel
theorem dX12_canDraw_13 : decode cX12_canDraw 13 = .ok (.iconst 0, 1) := by decide +kernel
theorem dX12_canDraw_14 : decode cX12_canDraw 14 = .ok (.istore_n 3, 1) := by decide +kernel
theorem dX12_canDraw_15 : decode cX12_canDraw 15 = .ok (.iload_n 3, 1) := by decide +kernel
theorem dX12_canDraw_16 : decode cX12_canDraw 16 = .ok (.aload_n 0, 1) := by decide +kernel
theorem dX12_canDraw_17 : decode cX12_canDraw 17 = .ok (.getfield 132, 3) := by decide +kernel
theorem dX12_canDraw_20 : decode cX12_canDraw 20 = .ok (.if_icmp .ge 28, 3) := by decide +kernel
theorem dX12_canDraw_23 : decode cX12_canDraw 23 = .ok (.iload_n 2, 1) := by decide +kernel
theorem dX12_canDraw_24 : decode cX12_canDraw 24 = .ok (.ifCond .eq 16, 3) := by decide +kernel
theorem dX12_canDraw_27 : decode cX12_canDraw 27 = .ok (.aload_n 0, 1) := by decide +kernel
theorem dX12_canDraw_28 : decode cX12_canDraw 28 = .ok (.iload_n 1, 1) := by decide +kernel
theorem dX12_canDraw_29 : decode cX12_canDraw 29 = .ok (.iload_n 3, 1) := by decide +kernel
theorem dX12_canDraw_30 : decode cX12_canDraw 30 = .ok (.invokevirtual 201, 3) := by decide +kernel
theorem dX12_canDraw_33 : decode cX12_canDraw 33 = .ok (.ifCond .eq 7, 3) := by decide +kernel
theorem dX12_canDraw_36 : decode cX12_canDraw 36 = .ok (.iconst 1, 1) := by decide +kernel
theorem dX12_canDraw_37 : decode cX12_canDraw 37 = .ok (.goto 4, 3) := by decide +kernel
theorem dX12_canDraw_40 : decode cX12_canDraw 40 = .ok (.iconst 0, 1) := by decide +kernel
theorem dX12_canDraw_41 : decode cX12_canDraw 41 = .ok (.istore_n 2, 1) := by decide +kernel
theorem dX12_canDraw_42 : decode cX12_canDraw 42 = .ok (.iinc 3 1, 3) := by decide +kernel
theorem dX12_canDraw_45 : decode cX12_canDraw 45 = .ok (.goto (-30), 3) := by decide +kernel
theorem dX12_canDraw_48 : decode cX12_canDraw 48 = .ok (.iload_n 2, 1) := by decide +kernel
theorem dX12_canDraw_49 : decode cX12_canDraw 49 = .ok (.ireturn, 1) := by decide +kernel
theorem dX12_isNewMetre_0 : decode cX12_isNewMetre 0 = .ok (.iload_n 1, 1) := by decide +kernel
theorem dX12_isNewMetre_1 : decode cX12_isNewMetre 1 = .ok (.ifCond .eq 37, 3) := by decide +kernel
theorem dX12_isNewMetre_4 : decode cX12_isNewMetre 4 = .ok (.aload_n 0, 1) := by decide +kernel
theorem dX12_isNewMetre_5 : decode cX12_isNewMetre 5 = .ok (.getfield 7, 3) := by decide +kernel
theorem dX12_isNewMetre_8 : decode cX12_isNewMetre 8 = .ok (.iload_n 1, 1) := by decide +kernel
theorem dX12_isNewMetre_9 : decode cX12_isNewMetre 9 = .ok (.iaload, 1) := by decide +kernel
theorem dX12_isNewMetre_10 : decode cX12_isNewMetre 10 = .ok (.aload_n 0, 1) := by decide +kernel
theorem dX12_isNewMetre_11 : decode cX12_isNewMetre 11 = .ok (.getfield 7, 3) := by decide +kernel
theorem dX12_isNewMetre_14 : decode cX12_isNewMetre 14 = .ok (.iload_n 1, 1) := by decide +kernel
theorem dX12_isNewMetre_15 : decode cX12_isNewMetre 15 = .ok (.iconst 1, 1) := by decide +kernel
theorem dX12_isNewMetre_16 : decode cX12_isNewMetre 16 = .ok (.isub, 1) := by decide +kernel
theorem dX12_isNewMetre_17 : decode cX12_isNewMetre 17 = .ok (.iaload, 1) := by decide +kernel
theorem dX12_isNewMetre_18 : decode cX12_isNewMetre 18 = .ok (.if_icmp .ne 20, 3) := by decide +kernel
theorem dX12_isNewMetre_21 : decode cX12_isNewMetre 21 = .ok (.aload_n 0, 1) := by decide +kernel
theorem dX12_isNewMetre_22 : decode cX12_isNewMetre 22 = .ok (.getfield 13, 3) := by decide +kernel
theorem dX12_isNewMetre_25 : decode cX12_isNewMetre 25 = .ok (.iload_n 1, 1) := by decide +kernel
theorem dX12_isNewMetre_26 : decode cX12_isNewMetre 26 = .ok (.iaload, 1) := by decide +kernel
theorem dX12_isNewMetre_27 : decode cX12_isNewMetre 27 = .ok (.aload_n 0, 1) := by decide +kernel
theorem dX12_isNewMetre_28 : decode cX12_isNewMetre 28 = .ok (.getfield 13, 3) := by decide +kernel
theorem dX12_isNewMetre_31 : decode cX12_isNewMetre 31 = .ok (.iload_n 1, 1) := by decide +kernel
theorem dX12_isNewMetre_32 : decode cX12_isNewMetre 32 = .ok (.iconst 1, 1) := by decide +kernel
theorem dX12_isNewMetre_33 : decode cX12_isNewMetre 33 = .ok (.isub, 1) := by decide +kernel
theorem dX12_isNewMetre_34 : decode cX12_isNewMetre 34 = .ok (.iaload, 1) := by decide +kernel
theorem dX12_isNewMetre_35 : decode cX12_isNewMetre 35 = .ok (.if_icmp .eq 7, 3) := by decide +kernel
theorem dX12_isNewMetre_38 : decode cX12_isNewMetre 38 = .ok (.iconst 1, 1) := by decide +kernel
theorem dX12_isNewMetre_39 : decode cX12_isNewMetre 39 = .ok (.goto 4, 3) := by decide +kernel
theorem dX12_isNewMetre_42 : decode cX12_isNewMetre 42 = .ok (.iconst 0, 1) := by decide +kernel
theorem dX12_isNewMetre_43 : decode cX12_isNewMetre 43 = .ok (.ireturn, 1) := by decide +kernel
theorem dX12_isEdge_0 : decode cX12_isEdge 0 = .ok (.iconst 0, 1) := by decide +kernel
theorem dX12_isEdge_1 : decode cX12_isEdge 1 = .ok (.istore_n 3, 1) := by decide +kernel
theorem dX12_isEdge_2 : decode cX12_isEdge 2 = .ok (.iconst 0, 1) := by decide +kernel
theorem dX12_isEdge_3 : decode cX12_isEdge 3 = .ok (.istore 4, 2) := by decide +kernel
theorem dX12_isEdge_5 : decode cX12_isEdge 5 = .ok (.iload 4, 2) := by decide +kernel
theorem dX12_isEdge_7 : decode cX12_isEdge 7 = .ok (.aload_n 0, 1) := by decide +kernel
theorem dX12_isEdge_8 : decode cX12_isEdge 8 = .ok (.getfield 132, 3) := by decide +kernel
theorem dX12_isEdge_11 : decode cX12_isEdge 11 = .ok (.if_icmp .ge 96, 3) := by decide +kernel
theorem dX12_isEdge_14 : decode cX12_isEdge 14 = .ok (.iload_n 2, 1) := by decide +kernel
theorem dX12_isEdge_15 : decode cX12_isEdge 15 = .ok (.ifCond .eq 42, 3) := by decide +kernel
theorem dX12_isEdge_18 : decode cX12_isEdge 18 = .ok (.aload_n 0, 1) := by decide +kernel
theorem dX12_isEdge_19 : decode cX12_isEdge 19 = .ok (.getfield 22, 3) := by decide +kernel
theorem dX12_isEdge_22 : decode cX12_isEdge 22 = .ok (.iload 4, 2) := by decide +kernel
theorem dX12_isEdge_24 : decode cX12_isEdge 24 = .ok (.iaload, 1) := by decide +kernel
theorem dX12_isEdge_25 : decode cX12_isEdge 25 = .ok (.ifCond .le 28, 3) := by decide +kernel
theorem dX12_isEdge_28 : decode cX12_isEdge 28 = .ok (.aload_n 0, 1) := by decide +kernel
theorem dX12_isEdge_29 : decode cX12_isEdge 29 = .ok (.getfield 19, 3) := by decide +kernel
theorem dX12_isEdge_32 : decode cX12_isEdge 32 = .ok (.iload 4, 2) := by decide +kernel
theorem dX12_isEdge_34 : decode cX12_isEdge 34 = .ok (.iaload, 1) := by decide +kernel
theorem dX12_isEdge_35 : decode cX12_isEdge 35 = .ok (.iconst 1, 1) := by decide +kernel
theorem dX12_isEdge_36 : decode cX12_isEdge 36 = .ok (.iadd, 1) := by decide +kernel
theorem dX12_isEdge_37 : decode cX12_isEdge 37 = .ok (.aload_n 0, 1) := by decide +kernel
theorem dX12_isEdge_38 : decode cX12_isEdge 38 = .ok (.getfield 22, 3) := by decide +kernel
theorem dX12_isEdge_41 : decode cX12_isEdge 41 = .ok (.iload 4, 2) := by decide +kernel
theorem dX12_isEdge_43 : decode cX12_isEdge 43 = .ok (.iaload, 1) := by decide +kernel
theorem dX12_isEdge_44 : decode cX12_isEdge 44 = .ok (.isub, 1) := by decide +kernel
theorem dX12_isEdge_45 : decode cX12_isEdge 45 = .ok (.iload_n 1, 1) := by decide +kernel
theorem dX12_isEdge_46 : decode cX12_isEdge 46 = .ok (.if_icmp .ne 7, 3) := by decide +kernel
theorem dX12_isEdge_49 : decode cX12_isEdge 49 = .ok (.iconst 1, 1) := by decide +kernel
theorem dX12_isEdge_50 : decode cX12_isEdge 50 = .ok (.goto 23, 3) := by decide +kernel
theorem dX12_isEdge_53 : decode cX12_isEdge 53 = .ok (.iconst 0, 1) := by decide +kernel
theorem dX12_isEdge_54 : decode cX12_isEdge 54 = .ok (.goto 19, 3) := by decide +kernel
theorem dX12_isEdge_57 : decode cX12_isEdge 57 = .ok (.aload_n 0, 1) := by decide +kernel
theorem dX12_isEdge_58 : decode cX12_isEdge 58 = .ok (.getfield 19, 3) := by decide +kernel
theorem dX12_isEdge_61 : decode cX12_isEdge 61 = .ok (.iload 4, 2) := by decide +kernel
theorem dX12_isEdge_63 : decode cX12_isEdge 63 = .ok (.iaload, 1) := by decide +kernel
theorem dX12_isEdge_64 : decode cX12_isEdge 64 = .ok (.iload_n 1, 1) := by decide +kernel
theorem dX12_isEdge_65 : decode cX12_isEdge 65 = .ok (.if_icmp .ne 7, 3) := by decide +kernel
theorem dX12_isEdge_68 : decode cX12_isEdge 68 = .ok (.iconst 1, 1) := by decide +kernel
theorem dX12_isEdge_69 : decode cX12_isEdge 69 = .ok (.goto 4, 3) := by decide +kernel
theorem dX12_isEdge_72 : decode cX12_isEdge 72 = .ok (.iconst 0, 1) := by decide +kernel
theorem dX12_isEdge_73 : decode cX12_isEdge 73 = .ok (.istore 5, 2) := by decide +kernel
theorem dX12_isEdge_75 : decode cX12_isEdge 75 = .ok (.iload_n 3, 1) := by decide +kernel
theorem dX12_isEdge_76 : decode cX12_isEdge 76 = .ok (.ifCond .ne 19, 3) := by decide +kernel
theorem dX12_isEdge_79 : decode cX12_isEdge 79 = .ok (.aload_n 0, 1) := by decide +kernel
theorem dX12_isEdge_80 : decode cX12_isEdge 80 = .ok (.getfield 19, 3) := by decide +kernel
theorem dX12_isEdge_83 : decode cX12_isEdge 83 = .ok (.iload 4, 2) := by decide +kernel
theorem dX12_isEdge_85 : decode cX12_isEdge 85 = .ok (.iaload, 1) := by decide +kernel
theorem dX12_isEdge_86 : decode cX12_isEdge 86 = .ok (.iconst (-1), 1) := by decide +kernel
theorem dX12_isEdge_87 : decode cX12_isEdge 87 = .ok (.if_icmp .eq 12, 3) := by decide +kernel
theorem dX12_isEdge_90 : decode cX12_isEdge 90 = .ok (.iload 5, 2) := by decide +kernel
theorem dX12_isEdge_92 : decode cX12_isEdge 92 = .ok (.ifCond .eq 7, 3) := by decide +kernel
theorem dX12_isEdge_95 : decode cX12_isEdge 95 = .ok (.iconst 1, 1) := by decide +kernel
theorem dX12_isEdge_96 : decode cX12_isEdge 96 = .ok (.goto 4, 3) := by decide +kernel
theorem dX12_isEdge_99 : decode cX12_isEdge 99 = .ok (.iconst 0, 1) := by decide +kernel
theorem dX12_isEdge_100 : decode cX12_isEdge 100 = .ok (.istore_n 3, 1) := by decide +kernel
theorem dX12_isEdge_101 : decode cX12_isEdge 101 = .ok (.iinc 4 1, 3) := by decide +kernel
theorem dX12_isEdge_104 : decode cX12_isEdge 104 = .ok (.goto (-99), 3) := by decide +kernel
theorem dX12_isEdge_107 : decode cX12_isEdge 107 = .ok (.iload_n 3, 1) := by decide +kernel
theorem dX12_isEdge_108 : decode cX12_isEdge 108 = .ok (.ireturn, 1) := by decide +kernel
theorem dX12_parts_0 : decode cX12_parts 0 = .ok (.aload_n 0, 1) := by decide +kernel
theorem dX12_parts_1 : decode cX12_parts 1 = .ok (.iload_n 1, 1) := by decide +kernel
theorem dX12_parts_2 : decode cX12_parts 2 = .ok (.invokevirtual 245, 3) := by decide +kernel
theorem dX12_parts_5 : decode cX12_parts 5 = .ok (.ifCond .ne 43, 3) := by decide +kernel
theorem dX12_parts_8 : decode cX12_parts 8 = .ok (.aload_n 0, 1) := by decide +kernel
theorem dX12_parts_9 : decode cX12_parts 9 = .ok (.getfield 16, 3) := by decide +kernel
theorem dX12_parts_12 : decode cX12_parts 12 = .ok (.iload_n 1, 1) := by decide +kernel
theorem dX12_parts_13 : decode cX12_parts 13 = .ok (.iaload, 1) := by decide +kernel
theorem dX12_parts_14 : decode cX12_parts 14 = .ok (.iconst (-1), 1) := by decide +kernel
theorem dX12_parts_15 : decode cX12_parts 15 = .ok (.if_icmp .ne 33, 3) := by decide +kernel
theorem dX12_parts_18 : decode cX12_parts 18 = .ok (.aload_n 0, 1) := by decide +kernel
theorem dX12_parts_19 : decode cX12_parts 19 = .ok (.getfield 19, 3) := by decide +kernel
theorem dX12_parts_22 : decode cX12_parts 22 = .ok (.iload_n 1, 1) := by decide +kernel
theorem dX12_parts_23 : decode cX12_parts 23 = .ok (.iaload, 1) := by decide +kernel
theorem dX12_parts_24 : decode cX12_parts 24 = .ok (.iconst (-1), 1) := by decide +kernel
theorem dX12_parts_25 : decode cX12_parts 25 = .ok (.if_icmp .ne 23, 3) := by decide +kernel
theorem dX12_parts_28 : decode cX12_parts 28 = .ok (.aload_n 0, 1) := by decide +kernel
theorem dX12_parts_29 : decode cX12_parts 29 = .ok (.iload_n 1, 1) := by decide +kernel
theorem dX12_parts_30 : decode cX12_parts 30 = .ok (.iconst 1, 1) := by decide +kernel
theorem dX12_parts_31 : decode cX12_parts 31 = .ok (.invokevirtual 248, 3) := by decide +kernel
theorem dX12_parts_34 : decode cX12_parts 34 = .ok (.ifCond .ne 14, 3) := by decide +kernel
theorem dX12_parts_37 : decode cX12_parts 37 = .ok (.aload_n 0, 1) := by decide +kernel
theorem dX12_parts_38 : decode cX12_parts 38 = .ok (.iload_n 1, 1) := by decide +kernel
theorem dX12_parts_39 : decode cX12_parts 39 = .ok (.iconst 1, 1) := by decide +kernel
theorem dX12_parts_40 : decode cX12_parts 40 = .ok (.isub, 1) := by decide +kernel
theorem dX12_parts_41 : decode cX12_parts 41 = .ok (.iconst 0, 1) := by decide +kernel
theorem dX12_parts_42 : decode cX12_parts 42 = .ok (.invokevirtual 248, 3) := by decide +kernel
theorem dX12_parts_45 : decode cX12_parts 45 = .ok (.ifCond .eq 7, 3) := by decide +kernel
theorem dX12_parts_48 : decode cX12_parts 48 = .ok (.iconst 1, 1) := by decide +kernel
theorem dX12_parts_49 : decode cX12_parts 49 = .ok (.goto 4, 3) := by decide +kernel
theorem dX12_parts_52 : decode cX12_parts 52 = .ok (.iconst 0, 1) := by decide +kernel
theorem dX12_parts_53 : decode cX12_parts 53 = .ok (.ireturn, 1) := by decide +kernel
theorem dX12_cueOf_0 : decode cX12_cueOf 0 = .ok (.iconst (-1), 1) := by decide +kernel
theorem dX12_cueOf_1 : decode cX12_cueOf 1 = .ok (.istore_n 3, 1) := by decide +kernel
theorem dX12_cueOf_2 : decode cX12_cueOf 2 = .ok (.iconst 3, 1) := by decide +kernel
theorem dX12_cueOf_3 : decode cX12_cueOf 3 = .ok (.istore 4, 2) := by decide +kernel
theorem dX12_cueOf_5 : decode cX12_cueOf 5 = .ok (.iload 4, 2) := by decide +kernel
theorem dX12_cueOf_7 : decode cX12_cueOf 7 = .ok (.ifCond .lt 36, 3) := by decide +kernel
theorem dX12_cueOf_10 : decode cX12_cueOf 10 = .ok (.iload 4, 2) := by decide +kernel
theorem dX12_cueOf_12 : decode cX12_cueOf 12 = .ok (.iload_n 1, 1) := by decide +kernel
theorem dX12_cueOf_13 : decode cX12_cueOf 13 = .ok (.if_icmp .eq 22, 3) := by decide +kernel
theorem dX12_cueOf_16 : decode cX12_cueOf 16 = .ok (.aload_n 0, 1) := by decide +kernel
theorem dX12_cueOf_17 : decode cX12_cueOf 17 = .ok (.getfield 25, 3) := by decide +kernel
theorem dX12_cueOf_20 : decode cX12_cueOf 20 = .ok (.iload 4, 2) := by decide +kernel
theorem dX12_cueOf_22 : decode cX12_cueOf 22 = .ok (.iload_n 2, 1) := by decide +kernel
theorem dX12_cueOf_23 : decode cX12_cueOf 23 = .ok (.invokestatic 139, 3) := by decide +kernel
theorem dX12_cueOf_26 : decode cX12_cueOf 26 = .ok (.iaload, 1) := by decide +kernel
theorem dX12_cueOf_27 : decode cX12_cueOf 27 = .ok (.ifCond .le 8, 3) := by decide +kernel
theorem dX12_cueOf_30 : decode cX12_cueOf 30 = .ok (.iload 4, 2) := by decide +kernel
theorem dX12_cueOf_32 : decode cX12_cueOf 32 = .ok (.goto 4, 3) := by decide +kernel
theorem dX12_cueOf_35 : decode cX12_cueOf 35 = .ok (.iload_n 3, 1) := by decide +kernel
theorem dX12_cueOf_36 : decode cX12_cueOf 36 = .ok (.istore_n 3, 1) := by decide +kernel
theorem dX12_cueOf_37 : decode cX12_cueOf 37 = .ok (.iinc 4 (-1), 3) := by decide +kernel
theorem dX12_cueOf_40 : decode cX12_cueOf 40 = .ok (.goto (-35), 3) := by decide +kernel
theorem dX12_cueOf_43 : decode cX12_cueOf 43 = .ok (.iload_n 3, 1) := by decide +kernel
theorem dX12_cueOf_44 : decode cX12_cueOf 44 = .ok (.ireturn, 1) := by decide +kernel
theorem dX12_signs_0 : decode cX12_signs 0 = .ok (.aload_n 0, 1) := by decide +kernel
theorem dX12_signs_1 : decode cX12_signs 1 = .ok (.iload_n 1, 1) := by decide +kernel
theorem dX12_signs_2 : decode cX12_signs 2 = .ok (.invokevirtual 245, 3) := by decide +kernel
theorem dX12_signs_5 : decode cX12_signs 5 = .ok (.ifCond .eq 7, 3) := by decide +kernel
theorem dX12_signs_8 : decode cX12_signs 8 = .ok (.iconst 3, 1) := by decide +kernel
theorem dX12_signs_9 : decode cX12_signs 9 = .ok (.goto 4, 3) := by decide +kernel
theorem dX12_signs_12 : decode cX12_signs 12 = .ok (.iconst 0, 1) := by decide +kernel
theorem dX12_signs_13 : decode cX12_signs 13 = .ok (.aload_n 0, 1) := by decide +kernel
theorem dX12_signs_14 : decode cX12_signs 14 = .ok (.getfield 16, 3) := by decide +kernel
theorem dX12_signs_17 : decode cX12_signs 17 = .ok (.iload_n 1, 1) := by decide +kernel
theorem dX12_signs_18 : decode cX12_signs 18 = .ok (.iaload, 1) := by decide +kernel
theorem dX12_signs_19 : decode cX12_signs 19 = .ok (.iconst (-1), 1) := by decide +kernel
theorem dX12_signs_20 : decode cX12_signs 20 = .ok (.if_icmp .eq 7, 3) := by decide +kernel
theorem dX12_signs_23 : decode cX12_signs 23 = .ok (.iconst 4, 1) := by decide +kernel
theorem dX12_signs_24 : decode cX12_signs 24 = .ok (.goto 4, 3) := by decide +kernel
theorem dX12_signs_27 : decode cX12_signs 27 = .ok (.iconst 0, 1) := by decide +kernel
theorem dX12_signs_28 : decode cX12_signs 28 = .ok (.iadd, 1) := by decide +kernel
theorem dX12_signs_29 : decode cX12_signs 29 = .ok (.aload_n 0, 1) := by decide +kernel
theorem dX12_signs_30 : decode cX12_signs 30 = .ok (.getfield 19, 3) := by decide +kernel
theorem dX12_signs_33 : decode cX12_signs 33 = .ok (.iload_n 1, 1) := by decide +kernel
theorem dX12_signs_34 : decode cX12_signs 34 = .ok (.iaload, 1) := by decide +kernel
theorem dX12_signs_35 : decode cX12_signs 35 = .ok (.iconst (-1), 1) := by decide +kernel
theorem dX12_signs_36 : decode cX12_signs 36 = .ok (.if_icmp .eq 7, 3) := by decide +kernel
theorem dX12_signs_39 : decode cX12_signs 39 = .ok (.iconst 2, 1) := by decide +kernel
theorem dX12_signs_40 : decode cX12_signs 40 = .ok (.goto 4, 3) := by decide +kernel
theorem dX12_signs_43 : decode cX12_signs 43 = .ok (.iconst 0, 1) := by decide +kernel
theorem dX12_signs_44 : decode cX12_signs 44 = .ok (.iadd, 1) := by decide +kernel
theorem dX12_signs_45 : decode cX12_signs 45 = .ok (.aload_n 0, 1) := by decide +kernel
theorem dX12_signs_46 : decode cX12_signs 46 = .ok (.iload_n 1, 1) := by decide +kernel
theorem dX12_signs_47 : decode cX12_signs 47 = .ok (.iconst 0, 1) := by decide +kernel
theorem dX12_signs_48 : decode cX12_signs 48 = .ok (.invokevirtual 248, 3) := by decide +kernel
theorem dX12_signs_51 : decode cX12_signs 51 = .ok (.ifCond .eq 7, 3) := by decide +kernel
theorem dX12_signs_54 : decode cX12_signs 54 = .ok (.iconst 2, 1) := by decide +kernel
theorem dX12_signs_55 : decode cX12_signs 55 = .ok (.goto 4, 3) := by decide +kernel
theorem dX12_signs_58 : decode cX12_signs 58 = .ok (.iconst 0, 1) := by decide +kernel
theorem dX12_signs_59 : decode cX12_signs 59 = .ok (.iadd, 1) := by decide +kernel
theorem dX12_signs_60 : decode cX12_signs 60 = .ok (.ireturn, 1) := by decide +kernel
theorem dX12_barWidth_0 : decode cX12_barWidth 0 = .ok (.bipush 10, 2) := by decide +kernel
theorem dX12_barWidth_2 : decode cX12_barWidth 2 = .ok (.istore_n 3, 1) := by decide +kernel
theorem dX12_barWidth_3 : decode cX12_barWidth 3 = .ok (.iconst 0, 1) := by decide +kernel
theorem dX12_barWidth_4 : decode cX12_barWidth 4 = .ok (.istore 4, 2) := by decide +kernel
theorem dX12_barWidth_6 : decode cX12_barWidth 6 = .ok (.iload 4, 2) := by decide +kernel
theorem dX12_barWidth_8 : decode cX12_barWidth 8 = .ok (.aload_n 0, 1) := by decide +kernel
theorem dX12_barWidth_9 : decode cX12_barWidth 9 = .ok (.getfield 25, 3) := by decide +kernel
theorem dX12_barWidth_12 : decode cX12_barWidth 12 = .ok (.iload_n 1, 1) := by decide +kernel
theorem dX12_barWidth_13 : decode cX12_barWidth 13 = .ok (.iload_n 2, 1) := by decide +kernel
theorem dX12_barWidth_14 : decode cX12_barWidth 14 = .ok (.invokestatic 139, 3) := by decide +kernel
theorem dX12_barWidth_17 : decode cX12_barWidth 17 = .ok (.iaload, 1) := by decide +kernel
theorem dX12_barWidth_18 : decode cX12_barWidth 18 = .ok (.if_icmp .ge 109, 3) := by decide +kernel
theorem dX12_barWidth_21 : decode cX12_barWidth 21 = .ok (.iload_n 1, 1) := by decide +kernel
theorem dX12_barWidth_22 : decode cX12_barWidth 22 = .ok (.iload_n 2, 1) := by decide +kernel
theorem dX12_barWidth_23 : decode cX12_barWidth 23 = .ok (.iload 4, 2) := by decide +kernel
theorem dX12_barWidth_25 : decode cX12_barWidth 25 = .ok (.invokestatic 151, 3) := by decide +kernel
theorem dX12_barWidth_28 : decode cX12_barWidth 28 = .ok (.istore 5, 2) := by decide +kernel
theorem dX12_barWidth_30 : decode cX12_barWidth 30 = .ok (.aload_n 0, 1) := by decide +kernel
theorem dX12_barWidth_31 : decode cX12_barWidth 31 = .ok (.getfield 41, 3) := by decide +kernel
theorem dX12_barWidth_34 : decode cX12_barWidth 34 = .ok (.iload 5, 2) := by decide +kernel
theorem dX12_barWidth_36 : decode cX12_barWidth 36 = .ok (.iaload, 1) := by decide +kernel
theorem dX12_barWidth_37 : decode cX12_barWidth 37 = .ok (.iconst (-1), 1) := by decide +kernel
theorem dX12_barWidth_38 : decode cX12_barWidth 38 = .ok (.if_icmp .eq 7, 3) := by decide +kernel
theorem dX12_barWidth_41 : decode cX12_barWidth 41 = .ok (.iconst 1, 1) := by decide +kernel
theorem dX12_barWidth_42 : decode cX12_barWidth 42 = .ok (.goto 4, 3) := by decide +kernel
theorem dX12_barWidth_45 : decode cX12_barWidth 45 = .ok (.iconst 0, 1) := by decide +kernel
theorem dX12_barWidth_46 : decode cX12_barWidth 46 = .ok (.istore 6, 2) := by decide +kernel
theorem dX12_barWidth_48 : decode cX12_barWidth 48 = .ok (.iload_n 3, 1) := by decide +kernel
theorem dX12_barWidth_49 : decode cX12_barWidth 49 = .ok (.iconst 4, 1) := by decide +kernel
theorem dX12_barWidth_50 : decode cX12_barWidth 50 = .ok (.aload_n 0, 1) := by decide +kernel
theorem dX12_barWidth_51 : decode cX12_barWidth 51 = .ok (.iload 5, 2) := by decide +kernel
theorem dX12_barWidth_53 : decode cX12_barWidth 53 = .ok (.invokevirtual 155, 3) := by decide +kernel
theorem dX12_barWidth_56 : decode cX12_barWidth 56 = .ok (.bipush 6, 2) := by decide +kernel
theorem dX12_barWidth_58 : decode cX12_barWidth 58 = .ok (.idiv, 1) := by decide +kernel
theorem dX12_barWidth_59 : decode cX12_barWidth 59 = .ok (.iadd, 1) := by decide +kernel
theorem dX12_barWidth_60 : decode cX12_barWidth 60 = .ok (.aload_n 0, 1) := by decide +kernel
theorem dX12_barWidth_61 : decode cX12_barWidth 61 = .ok (.getfield 38, 3) := by decide +kernel
theorem dX12_barWidth_64 : decode cX12_barWidth 64 = .ok (.iload 5, 2) := by decide +kernel
theorem dX12_barWidth_66 : decode cX12_barWidth 66 = .ok (.iaload, 1) := by decide +kernel
theorem dX12_barWidth_67 : decode cX12_barWidth 67 = .ok (.iconst 1, 1) := by decide +kernel
theorem dX12_barWidth_68 : decode cX12_barWidth 68 = .ok (.if_icmp .ne 7, 3) := by decide +kernel
theorem dX12_barWidth_71 : decode cX12_barWidth 71 = .ok (.iconst 2, 1) := by decide +kernel
theorem dX12_barWidth_72 : decode cX12_barWidth 72 = .ok (.goto 4, 3) := by decide +kernel
theorem dX12_barWidth_75 : decode cX12_barWidth 75 = .ok (.iconst 0, 1) := by decide +kernel
theorem dX12_barWidth_76 : decode cX12_barWidth 76 = .ok (.iadd, 1) := by decide +kernel
theorem dX12_barWidth_77 : decode cX12_barWidth 77 = .ok (.iload 6, 2) := by decide +kernel
theorem dX12_barWidth_79 : decode cX12_barWidth 79 = .ok (.ifCond .eq 7, 3) := by decide +kernel
theorem dX12_barWidth_82 : decode cX12_barWidth 82 = .ok (.iconst 3, 1) := by decide +kernel
theorem dX12_barWidth_83 : decode cX12_barWidth 83 = .ok (.goto 4, 3) := by decide +kernel
theorem dX12_barWidth_86 : decode cX12_barWidth 86 = .ok (.iconst 0, 1) := by decide +kernel
theorem dX12_barWidth_87 : decode cX12_barWidth 87 = .ok (.iadd, 1) := by decide +kernel
theorem dX12_barWidth_88 : decode cX12_barWidth 88 = .ok (.iadd, 1) := by decide +kernel
theorem dX12_barWidth_89 : decode cX12_barWidth 89 = .ok (.istore_n 3, 1) := by decide +kernel
theorem dX12_barWidth_90 : decode cX12_barWidth 90 = .ok (.iload_n 3, 1) := by decide +kernel
theorem dX12_barWidth_91 : decode cX12_barWidth 91 = .ok (.iload 6, 2) := by decide +kernel
theorem dX12_barWidth_93 : decode cX12_barWidth 93 = .ok (.ifCond .eq 25, 3) := by decide +kernel
theorem dX12_barWidth_96 : decode cX12_barWidth 96 = .ok (.iload 4, 2) := by decide +kernel
theorem dX12_barWidth_98 : decode cX12_barWidth 98 = .ok (.ifCond .le 20, 3) := by decide +kernel
theorem dX12_barWidth_101 : decode cX12_barWidth 101 = .ok (.aload_n 0, 1) := by decide +kernel
theorem dX12_barWidth_102 : decode cX12_barWidth 102 = .ok (.getfield 41, 3) := by decide +kernel
theorem dX12_barWidth_105 : decode cX12_barWidth 105 = .ok (.iload 5, 2) := by decide +kernel
theorem dX12_barWidth_107 : decode cX12_barWidth 107 = .ok (.iconst 1, 1) := by decide +kernel
theorem dX12_barWidth_108 : decode cX12_barWidth 108 = .ok (.isub, 1) := by decide +kernel
theorem dX12_barWidth_109 : decode cX12_barWidth 109 = .ok (.iaload, 1) := by decide +kernel
theorem dX12_barWidth_110 : decode cX12_barWidth 110 = .ok (.iconst (-1), 1) := by decide +kernel
theorem dX12_barWidth_111 : decode cX12_barWidth 111 = .ok (.if_icmp .eq 7, 3) := by decide +kernel
theorem dX12_barWidth_114 : decode cX12_barWidth 114 = .ok (.iconst 2, 1) := by decide +kernel
theorem dX12_barWidth_115 : decode cX12_barWidth 115 = .ok (.goto 4, 3) := by decide +kernel
theorem dX12_barWidth_118 : decode cX12_barWidth 118 = .ok (.iconst 0, 1) := by decide +kernel
theorem dX12_barWidth_119 : decode cX12_barWidth 119 = .ok (.iadd, 1) := by decide +kernel
theorem dX12_barWidth_120 : decode cX12_barWidth 120 = .ok (.istore_n 3, 1) := by decide +kernel
theorem dX12_barWidth_121 : decode cX12_barWidth 121 = .ok (.iinc 4 1, 3) := by decide +kernel
theorem dX12_barWidth_124 : decode cX12_barWidth 124 = .ok (.goto (-118), 3) := by decide +kernel
theorem dX12_barWidth_127 : decode cX12_barWidth 127 = .ok (.iload_n 3, 1) := by decide +kernel
theorem dX12_barWidth_128 : decode cX12_barWidth 128 = .ok (.ireturn, 1) := by decide +kernel
theorem dX12_cueWidth_0 : decode cX12_cueWidth 0 = .ok (.bipush 10, 2) := by decide +kernel
theorem dX12_cueWidth_2 : decode cX12_cueWidth 2 = .ok (.istore_n 3, 1) := by decide +kernel
theorem dX12_cueWidth_3 : decode cX12_cueWidth 3 = .ok (.iconst 0, 1) := by decide +kernel
theorem dX12_cueWidth_4 : decode cX12_cueWidth 4 = .ok (.istore 4, 2) := by decide +kernel
theorem dX12_cueWidth_6 : decode cX12_cueWidth 6 = .ok (.iload 4, 2) := by decide +kernel
theorem dX12_cueWidth_8 : decode cX12_cueWidth 8 = .ok (.aload_n 0, 1) := by decide +kernel
theorem dX12_cueWidth_9 : decode cX12_cueWidth 9 = .ok (.getfield 25, 3) := by decide +kernel
theorem dX12_cueWidth_12 : decode cX12_cueWidth 12 = .ok (.iload_n 1, 1) := by decide +kernel
theorem dX12_cueWidth_13 : decode cX12_cueWidth 13 = .ok (.iload_n 2, 1) := by decide +kernel
theorem dX12_cueWidth_14 : decode cX12_cueWidth 14 = .ok (.invokestatic 139, 3) := by decide +kernel
theorem dX12_cueWidth_17 : decode cX12_cueWidth 17 = .ok (.iaload, 1) := by decide +kernel
theorem dX12_cueWidth_18 : decode cX12_cueWidth 18 = .ok (.if_icmp .ge 28, 3) := by decide +kernel
theorem dX12_cueWidth_21 : decode cX12_cueWidth 21 = .ok (.iload_n 3, 1) := by decide +kernel
theorem dX12_cueWidth_22 : decode cX12_cueWidth 22 = .ok (.iconst 3, 1) := by decide +kernel
theorem dX12_cueWidth_23 : decode cX12_cueWidth 23 = .ok (.aload_n 0, 1) := by decide +kernel
theorem dX12_cueWidth_24 : decode cX12_cueWidth 24 = .ok (.iload_n 1, 1) := by decide +kernel
theorem dX12_cueWidth_25 : decode cX12_cueWidth 25 = .ok (.iload_n 2, 1) := by decide +kernel
theorem dX12_cueWidth_26 : decode cX12_cueWidth 26 = .ok (.iload 4, 2) := by decide +kernel
theorem dX12_cueWidth_28 : decode cX12_cueWidth 28 = .ok (.invokestatic 151, 3) := by decide +kernel
theorem dX12_cueWidth_31 : decode cX12_cueWidth 31 = .ok (.invokevirtual 155, 3) := by decide +kernel
theorem dX12_cueWidth_34 : decode cX12_cueWidth 34 = .ok (.bipush 8, 2) := by decide +kernel
theorem dX12_cueWidth_36 : decode cX12_cueWidth 36 = .ok (.idiv, 1) := by decide +kernel
theorem dX12_cueWidth_37 : decode cX12_cueWidth 37 = .ok (.iadd, 1) := by decide +kernel
theorem dX12_cueWidth_38 : decode cX12_cueWidth 38 = .ok (.iadd, 1) := by decide +kernel
theorem dX12_cueWidth_39 : decode cX12_cueWidth 39 = .ok (.istore_n 3, 1) := by decide +kernel
theorem dX12_cueWidth_40 : decode cX12_cueWidth 40 = .ok (.iinc 4 1, 3) := by decide +kernel
theorem dX12_cueWidth_43 : decode cX12_cueWidth 43 = .ok (.goto (-37), 3) := by decide +kernel
theorem dX12_cueWidth_46 : decode cX12_cueWidth 46 = .ok (.iload_n 3, 1) := by decide +kernel
theorem dX12_cueWidth_47 : decode cX12_cueWidth 47 = .ok (.ireturn, 1) := by decide +kernel
theorem dX12_addsItem_0 : decode cX12_addsItem 0 = .ok (.iload_n 2, 1) := by decide +kernel
theorem dX12_addsItem_1 : decode cX12_addsItem 1 = .ok (.ifCond .ne 12, 3) := by decide +kernel
theorem dX12_addsItem_4 : decode cX12_addsItem 4 = .ok (.aload_n 0, 1) := by decide +kernel
theorem dX12_addsItem_5 : decode cX12_addsItem 5 = .ok (.iload_n 1, 1) := by decide +kernel
theorem dX12_addsItem_6 : decode cX12_addsItem 6 = .ok (.iload_n 3, 1) := by decide +kernel
theorem dX12_addsItem_7 : decode cX12_addsItem 7 = .ok (.invokevirtual 252, 3) := by decide +kernel
theorem dX12_addsItem_10 : decode cX12_addsItem 10 = .ok (.goto 23, 3) := by decide +kernel
theorem dX12_addsItem_13 : decode cX12_addsItem 13 = .ok (.iload_n 2, 1) := by decide +kernel
theorem dX12_addsItem_14 : decode cX12_addsItem 14 = .ok (.iconst 1, 1) := by decide +kernel
theorem dX12_addsItem_15 : decode cX12_addsItem 15 = .ok (.if_icmp .ne 11, 3) := by decide +kernel
theorem dX12_addsItem_18 : decode cX12_addsItem 18 = .ok (.bipush 16, 2) := by decide +kernel
theorem dX12_addsItem_20 : decode cX12_addsItem 20 = .ok (.iload 4, 2) := by decide +kernel
theorem dX12_addsItem_22 : decode cX12_addsItem 22 = .ok (.iadd, 1) := by decide +kernel
theorem dX12_addsItem_23 : decode cX12_addsItem 23 = .ok (.goto 10, 3) := by decide +kernel
theorem dX12_addsItem_26 : decode cX12_addsItem 26 = .ok (.aload_n 0, 1) := by decide +kernel
theorem dX12_addsItem_27 : decode cX12_addsItem 27 = .ok (.iload 5, 2) := by decide +kernel
theorem dX12_addsItem_29 : decode cX12_addsItem 29 = .ok (.iload_n 3, 1) := by decide +kernel
theorem dX12_addsItem_30 : decode cX12_addsItem 30 = .ok (.invokevirtual 255, 3) := by decide +kernel
theorem dX12_addsItem_33 : decode cX12_addsItem 33 = .ok (.istore 6, 2) := by decide +kernel
theorem dX12_addsItem_35 : decode cX12_addsItem 35 = .ok (.iconst 0, 1) := by decide +kernel
theorem dX12_addsItem_36 : decode cX12_addsItem 36 = .ok (.istore 7, 2) := by decide +kernel
theorem dX12_addsItem_38 : decode cX12_addsItem 38 = .ok (.iload 7, 2) := by decide +kernel
theorem dX12_addsItem_40 : decode cX12_addsItem 40 = .ok (.iload 4, 2) := by decide +kernel
theorem dX12_addsItem_42 : decode cX12_addsItem 42 = .ok (.if_icmp .ge 22, 3) := by decide +kernel
theorem dX12_addsItem_45 : decode cX12_addsItem 45 = .ok (.iload 6, 2) := by decide +kernel
theorem dX12_addsItem_47 : decode cX12_addsItem 47 = .ok (.aload_n 0, 1) := by decide +kernel
theorem dX12_addsItem_48 : decode cX12_addsItem 48 = .ok (.iload_n 3, 1) := by decide +kernel
theorem dX12_addsItem_49 : decode cX12_addsItem 49 = .ok (.iload 7, 2) := by decide +kernel
theorem dX12_addsItem_51 : decode cX12_addsItem 51 = .ok (.iadd, 1) := by decide +kernel
theorem dX12_addsItem_52 : decode cX12_addsItem 52 = .ok (.invokevirtual 258, 3) := by decide +kernel
theorem dX12_addsItem_55 : decode cX12_addsItem 55 = .ok (.iadd, 1) := by decide +kernel
theorem dX12_addsItem_56 : decode cX12_addsItem 56 = .ok (.istore 6, 2) := by decide +kernel
theorem dX12_addsItem_58 : decode cX12_addsItem 58 = .ok (.iinc 7 1, 3) := by decide +kernel
theorem dX12_addsItem_61 : decode cX12_addsItem 61 = .ok (.goto (-23), 3) := by decide +kernel
theorem dX12_addsItem_64 : decode cX12_addsItem 64 = .ok (.aload_n 0, 1) := by decide +kernel
theorem dX12_addsItem_65 : decode cX12_addsItem 65 = .ok (.getfield 99, 3) := by decide +kernel
theorem dX12_addsItem_68 : decode cX12_addsItem 68 = .ok (.aload_n 0, 1) := by decide +kernel
theorem dX12_addsItem_69 : decode cX12_addsItem 69 = .ok (.getfield 261, 3) := by decide +kernel
theorem dX12_addsItem_72 : decode cX12_addsItem 72 = .ok (.iload_n 2, 1) := by decide +kernel
theorem dX12_addsItem_73 : decode cX12_addsItem 73 = .ok (.iastore, 1) := by decide +kernel
theorem dX12_addsItem_74 : decode cX12_addsItem 74 = .ok (.aload_n 0, 1) := by decide +kernel
theorem dX12_addsItem_75 : decode cX12_addsItem 75 = .ok (.getfield 102, 3) := by decide +kernel
theorem dX12_addsItem_78 : decode cX12_addsItem 78 = .ok (.aload_n 0, 1) := by decide +kernel
theorem dX12_addsItem_79 : decode cX12_addsItem 79 = .ok (.getfield 261, 3) := by decide +kernel
theorem dX12_addsItem_82 : decode cX12_addsItem 82 = .ok (.iload_n 3, 1) := by decide +kernel
theorem dX12_addsItem_83 : decode cX12_addsItem 83 = .ok (.iastore, 1) := by decide +kernel
theorem dX12_addsItem_84 : decode cX12_addsItem 84 = .ok (.aload_n 0, 1) := by decide +kernel
theorem dX12_addsItem_85 : decode cX12_addsItem 85 = .ok (.getfield 105, 3) := by decide +kernel
theorem dX12_addsItem_88 : decode cX12_addsItem 88 = .ok (.aload_n 0, 1) := by decide +kernel
theorem dX12_addsItem_89 : decode cX12_addsItem 89 = .ok (.getfield 261, 3) := by decide +kernel
theorem dX12_addsItem_92 : decode cX12_addsItem 92 = .ok (.iload 4, 2) := by decide +kernel
theorem dX12_addsItem_94 : decode cX12_addsItem 94 = .ok (.iastore, 1) := by decide +kernel
theorem dX12_addsItem_95 : decode cX12_addsItem 95 = .ok (.aload_n 0, 1) := by decide +kernel
theorem dX12_addsItem_96 : decode cX12_addsItem 96 = .ok (.getfield 108, 3) := by decide +kernel
theorem dX12_addsItem_99 : decode cX12_addsItem 99 = .ok (.aload_n 0, 1) := by decide +kernel
theorem dX12_addsItem_100 : decode cX12_addsItem 100 = .ok (.getfield 261, 3) := by decide +kernel
theorem dX12_addsItem_103 : decode cX12_addsItem 103 = .ok (.iload 5, 2) := by decide +kernel
theorem dX12_addsItem_105 : decode cX12_addsItem 105 = .ok (.iastore, 1) := by decide +kernel
theorem dX12_addsItem_106 : decode cX12_addsItem 106 = .ok (.aload_n 0, 1) := by decide +kernel
theorem dX12_addsItem_107 : decode cX12_addsItem 107 = .ok (.getfield 111, 3) := by decide +kernel
theorem dX12_addsItem_110 : decode cX12_addsItem 110 = .ok (.aload_n 0, 1) := by decide +kernel
theorem dX12_addsItem_111 : decode cX12_addsItem 111 = .ok (.getfield 261, 3) := by decide +kernel
theorem dX12_addsItem_114 : decode cX12_addsItem 114 = .ok (.iload 6, 2) := by decide +kernel
theorem dX12_addsItem_116 : decode cX12_addsItem 116 = .ok (.iastore, 1) := by decide +kernel
theorem dX12_addsItem_117 : decode cX12_addsItem 117 = .ok (.aload_n 0, 1) := by decide +kernel
theorem dX12_addsItem_118 : decode cX12_addsItem 118 = .ok (.dup, 1) := by decide +kernel
theorem dX12_addsItem_119 : decode cX12_addsItem 119 = .ok (.getfield 261, 3) := by decide +kernel
theorem dX12_addsItem_122 : decode cX12_addsItem 122 = .ok (.iconst 1, 1) := by decide +kernel
theorem dX12_addsItem_123 : decode cX12_addsItem 123 = .ok (.iadd, 1) := by decide +kernel
theorem dX12_addsItem_124 : decode cX12_addsItem 124 = .ok (.putfield 261, 3) := by decide +kernel
theorem dX12_addsItem_127 : decode cX12_addsItem 127 = .ok (.return_, 1) := by decide +kernel
theorem dX12_isEmpty_0 : decode cX12_isEmpty 0 = .ok (.aload_n 0, 1) := by decide +kernel
theorem dX12_isEmpty_1 : decode cX12_isEmpty 1 = .ok (.getfield 25, 3) := by decide +kernel
theorem dX12_isEmpty_4 : decode cX12_isEmpty 4 = .ok (.iload_n 1, 1) := by decide +kernel
theorem dX12_isEmpty_5 : decode cX12_isEmpty 5 = .ok (.iload_n 2, 1) := by decide +kernel
theorem dX12_isEmpty_6 : decode cX12_isEmpty 6 = .ok (.invokestatic 139, 3) := by decide +kernel
theorem dX12_isEmpty_9 : decode cX12_isEmpty 9 = .ok (.iaload, 1) := by decide +kernel
theorem dX12_isEmpty_10 : decode cX12_isEmpty 10 = .ok (.ifCond .ne 7, 3) := by decide +kernel
theorem dX12_isEmpty_13 : decode cX12_isEmpty 13 = .ok (.iconst 1, 1) := by decide +kernel
theorem dX12_isEmpty_14 : decode cX12_isEmpty 14 = .ok (.goto 4, 3) := by decide +kernel
theorem dX12_isEmpty_17 : decode cX12_isEmpty 17 = .ok (.iconst 0, 1) := by decide +kernel
theorem dX12_isEmpty_18 : decode cX12_isEmpty 18 = .ok (.ireturn, 1) := by decide +kernel
theorem dX12_draws_0 : decode cX12_draws 0 = .ok (.aload_n 0, 1) := by decide +kernel
theorem dX12_draws_1 : decode cX12_draws 1 = .ok (.iconst 0, 1) := by decide +kernel
theorem dX12_draws_2 : decode cX12_draws 2 = .ok (.putfield 261, 3) := by decide +kernel
theorem dX12_draws_5 : decode cX12_draws 5 = .ok (.iconst 0, 1) := by decide +kernel
theorem dX12_draws_6 : decode cX12_draws 6 = .ok (.istore_n 2, 1) := by decide +kernel
theorem dX12_draws_7 : decode cX12_draws 7 = .ok (.iload_n 2, 1) := by decide +kernel
theorem dX12_draws_8 : decode cX12_draws 8 = .ok (.aload_n 0, 1) := by decide +kernel
theorem dX12_draws_9 : decode cX12_draws 9 = .ok (.getfield 132, 3) := by decide +kernel
theorem dX12_draws_12 : decode cX12_draws 12 = .ok (.if_icmp .ge 168, 3) := by decide +kernel
theorem dX12_draws_15 : decode cX12_draws 15 = .ok (.iload_n 2, 1) := by decide +kernel
theorem dX12_draws_16 : decode cX12_draws 16 = .ok (.iconst 1, 1) := by decide +kernel
theorem dX12_draws_17 : decode cX12_draws 17 = .ok (.iadd, 1) := by decide +kernel
theorem dX12_draws_18 : decode cX12_draws 18 = .ok (.istore_n 3, 1) := by decide +kernel
theorem dX12_draws_19 : decode cX12_draws 19 = .ok (.aload_n 0, 1) := by decide +kernel
theorem dX12_draws_20 : decode cX12_draws 20 = .ok (.iload_n 1, 1) := by decide +kernel
theorem dX12_draws_21 : decode cX12_draws 21 = .ok (.iload_n 2, 1) := by decide +kernel
theorem dX12_draws_22 : decode cX12_draws 22 = .ok (.invokevirtual 264, 3) := by decide +kernel
theorem dX12_draws_25 : decode cX12_draws 25 = .ok (.ifCond .eq 34, 3) := by decide +kernel
theorem dX12_draws_28 : decode cX12_draws 28 = .ok (.iload_n 3, 1) := by decide +kernel
theorem dX12_draws_29 : decode cX12_draws 29 = .ok (.aload_n 0, 1) := by decide +kernel
theorem dX12_draws_30 : decode cX12_draws 30 = .ok (.getfield 132, 3) := by decide +kernel
theorem dX12_draws_33 : decode cX12_draws 33 = .ok (.if_icmp .ge 26, 3) := by decide +kernel
theorem dX12_draws_36 : decode cX12_draws 36 = .ok (.aload_n 0, 1) := by decide +kernel
theorem dX12_draws_37 : decode cX12_draws 37 = .ok (.iload_n 1, 1) := by decide +kernel
theorem dX12_draws_38 : decode cX12_draws 38 = .ok (.iload_n 3, 1) := by decide +kernel
theorem dX12_draws_39 : decode cX12_draws 39 = .ok (.invokevirtual 264, 3) := by decide +kernel
theorem dX12_draws_42 : decode cX12_draws 42 = .ok (.ifCond .eq 17, 3) := by decide +kernel
theorem dX12_draws_45 : decode cX12_draws 45 = .ok (.aload_n 0, 1) := by decide +kernel
theorem dX12_draws_46 : decode cX12_draws 46 = .ok (.iload_n 3, 1) := by decide +kernel
theorem dX12_draws_47 : decode cX12_draws 47 = .ok (.invokevirtual 267, 3) := by decide +kernel
theorem dX12_draws_50 : decode cX12_draws 50 = .ok (.ifCond .ne 9, 3) := by decide +kernel
theorem dX12_draws_53 : decode cX12_draws 53 = .ok (.iinc 3 1, 3) := by decide +kernel
theorem dX12_draws_56 : decode cX12_draws 56 = .ok (.goto (-37), 3) := by decide +kernel
theorem dX12_draws_59 : decode cX12_draws 59 = .ok (.iload_n 3, 1) := by decide +kernel
theorem dX12_draws_60 : decode cX12_draws 60 = .ok (.iload_n 2, 1) := by decide +kernel
theorem dX12_draws_61 : decode cX12_draws 61 = .ok (.isub, 1) := by decide +kernel
theorem dX12_draws_62 : decode cX12_draws 62 = .ok (.iconst 4, 1) := by decide +kernel
theorem dX12_draws_63 : decode cX12_draws 63 = .ok (.if_icmp .lt 24, 3) := by decide +kernel
theorem dX12_draws_66 : decode cX12_draws 66 = .ok (.iload_n 3, 1) := by decide +kernel
theorem dX12_draws_67 : decode cX12_draws 67 = .ok (.aload_n 0, 1) := by decide +kernel
theorem dX12_draws_68 : decode cX12_draws 68 = .ok (.getfield 132, 3) := by decide +kernel
theorem dX12_draws_71 : decode cX12_draws 71 = .ok (.if_icmp .ge 16, 3) := by decide +kernel
theorem dX12_draws_74 : decode cX12_draws 74 = .ok (.aload_n 0, 1) := by decide +kernel
theorem dX12_draws_75 : decode cX12_draws 75 = .ok (.iload_n 1, 1) := by decide +kernel
theorem dX12_draws_76 : decode cX12_draws 76 = .ok (.iload_n 3, 1) := by decide +kernel
theorem dX12_draws_77 : decode cX12_draws 77 = .ok (.invokevirtual 264, 3) := by decide +kernel
theorem dX12_draws_80 : decode cX12_draws 80 = .ok (.ifCond .ne 7, 3) := by decide +kernel
theorem dX12_draws_83 : decode cX12_draws 83 = .ok (.iconst 1, 1) := by decide +kernel
theorem dX12_draws_84 : decode cX12_draws 84 = .ok (.goto 4, 3) := by decide +kernel
theorem dX12_draws_87 : decode cX12_draws 87 = .ok (.iconst 0, 1) := by decide +kernel
theorem dX12_draws_88 : decode cX12_draws 88 = .ok (.istore 4, 2) := by decide +kernel
theorem dX12_draws_90 : decode cX12_draws 90 = .ok (.iload 4, 2) := by decide +kernel
theorem dX12_draws_92 : decode cX12_draws 92 = .ok (.ifCond .eq 14, 3) := by decide +kernel
theorem dX12_draws_95 : decode cX12_draws 95 = .ok (.aload_n 0, 1) := by decide +kernel
theorem dX12_draws_96 : decode cX12_draws 96 = .ok (.iload_n 1, 1) := by decide +kernel
theorem dX12_draws_97 : decode cX12_draws 97 = .ok (.iload_n 3, 1) := by decide +kernel
theorem dX12_draws_98 : decode cX12_draws 98 = .ok (.iconst 1, 1) := by decide +kernel
theorem dX12_draws_99 : decode cX12_draws 99 = .ok (.isub, 1) := by decide +kernel
theorem dX12_draws_100 : decode cX12_draws 100 = .ok (.invokevirtual 270, 3) := by decide +kernel
theorem dX12_draws_103 : decode cX12_draws 103 = .ok (.goto 4, 3) := by decide +kernel
theorem dX12_draws_106 : decode cX12_draws 106 = .ok (.iconst (-1), 1) := by decide +kernel
theorem dX12_draws_107 : decode cX12_draws 107 = .ok (.istore 5, 2) := by decide +kernel
theorem dX12_draws_109 : decode cX12_draws 109 = .ok (.aload_n 0, 1) := by decide +kernel
theorem dX12_draws_110 : decode cX12_draws 110 = .ok (.iload_n 1, 1) := by decide +kernel
theorem dX12_draws_111 : decode cX12_draws 111 = .ok (.iload_n 2, 1) := by decide +kernel
theorem dX12_draws_112 : decode cX12_draws 112 = .ok (.invokevirtual 264, 3) := by decide +kernel
theorem dX12_draws_115 : decode cX12_draws 115 = .ok (.ifCond .ne 15, 3) := by decide +kernel
theorem dX12_draws_118 : decode cX12_draws 118 = .ok (.aload_n 0, 1) := by decide +kernel
theorem dX12_draws_119 : decode cX12_draws 119 = .ok (.iload_n 1, 1) := by decide +kernel
theorem dX12_draws_120 : decode cX12_draws 120 = .ok (.iconst 0, 1) := by decide +kernel
theorem dX12_draws_121 : decode cX12_draws 121 = .ok (.iload_n 2, 1) := by decide +kernel
theorem dX12_draws_122 : decode cX12_draws 122 = .ok (.iconst 1, 1) := by decide +kernel
theorem dX12_draws_123 : decode cX12_draws 123 = .ok (.iconst (-1), 1) := by decide +kernel
theorem dX12_draws_124 : decode cX12_draws 124 = .ok (.invokevirtual 273, 3) := by decide +kernel
theorem dX12_draws_127 : decode cX12_draws 127 = .ok (.goto 48, 3) := by decide +kernel
theorem dX12_draws_130 : decode cX12_draws 130 = .ok (.iload 5, 2) := by decide +kernel
theorem dX12_draws_132 : decode cX12_draws 132 = .ok (.iconst (-1), 1) := by decide +kernel
theorem dX12_draws_133 : decode cX12_draws 133 = .ok (.if_icmp .ne 17, 3) := by decide +kernel
theorem dX12_draws_136 : decode cX12_draws 136 = .ok (.aload_n 0, 1) := by decide +kernel
theorem dX12_draws_137 : decode cX12_draws 137 = .ok (.iload_n 1, 1) := by decide +kernel
theorem dX12_draws_138 : decode cX12_draws 138 = .ok (.iconst 1, 1) := by decide +kernel
theorem dX12_draws_139 : decode cX12_draws 139 = .ok (.iload_n 2, 1) := by decide +kernel
theorem dX12_draws_140 : decode cX12_draws 140 = .ok (.iload_n 3, 1) := by decide +kernel
theorem dX12_draws_141 : decode cX12_draws 141 = .ok (.iload_n 2, 1) := by decide +kernel
theorem dX12_draws_142 : decode cX12_draws 142 = .ok (.isub, 1) := by decide +kernel
theorem dX12_draws_143 : decode cX12_draws 143 = .ok (.iconst (-1), 1) := by decide +kernel
theorem dX12_draws_144 : decode cX12_draws 144 = .ok (.invokevirtual 273, 3) := by decide +kernel
theorem dX12_draws_147 : decode cX12_draws 147 = .ok (.goto 28, 3) := by decide +kernel
theorem dX12_draws_150 : decode cX12_draws 150 = .ok (.aload_n 0, 1) := by decide +kernel
theorem dX12_draws_151 : decode cX12_draws 151 = .ok (.iload_n 1, 1) := by decide +kernel
theorem dX12_draws_152 : decode cX12_draws 152 = .ok (.iconst 1, 1) := by decide +kernel
theorem dX12_draws_153 : decode cX12_draws 153 = .ok (.iload_n 2, 1) := by decide +kernel
theorem dX12_draws_154 : decode cX12_draws 154 = .ok (.iload_n 3, 1) := by decide +kernel
theorem dX12_draws_155 : decode cX12_draws 155 = .ok (.iload_n 2, 1) := by decide +kernel
theorem dX12_draws_156 : decode cX12_draws 156 = .ok (.isub, 1) := by decide +kernel
theorem dX12_draws_157 : decode cX12_draws 157 = .ok (.iconst 1, 1) := by decide +kernel
theorem dX12_draws_158 : decode cX12_draws 158 = .ok (.isub, 1) := by decide +kernel
theorem dX12_draws_159 : decode cX12_draws 159 = .ok (.iconst (-1), 1) := by decide +kernel
theorem dX12_draws_160 : decode cX12_draws 160 = .ok (.invokevirtual 273, 3) := by decide +kernel
theorem dX12_draws_163 : decode cX12_draws 163 = .ok (.aload_n 0, 1) := by decide +kernel
theorem dX12_draws_164 : decode cX12_draws 164 = .ok (.iload_n 1, 1) := by decide +kernel
theorem dX12_draws_165 : decode cX12_draws 165 = .ok (.iconst 2, 1) := by decide +kernel
theorem dX12_draws_166 : decode cX12_draws 166 = .ok (.iload_n 3, 1) := by decide +kernel
theorem dX12_draws_167 : decode cX12_draws 167 = .ok (.iconst 1, 1) := by decide +kernel
theorem dX12_draws_168 : decode cX12_draws 168 = .ok (.isub, 1) := by decide +kernel
theorem dX12_draws_169 : decode cX12_draws 169 = .ok (.iconst 1, 1) := by decide +kernel
theorem dX12_draws_170 : decode cX12_draws 170 = .ok (.iload 5, 2) := by decide +kernel
theorem dX12_draws_172 : decode cX12_draws 172 = .ok (.invokevirtual 273, 3) := by decide +kernel
theorem dX12_draws_175 : decode cX12_draws 175 = .ok (.iload_n 3, 1) := by decide +kernel
theorem dX12_draws_176 : decode cX12_draws 176 = .ok (.istore_n 2, 1) := by decide +kernel
theorem dX12_draws_177 : decode cX12_draws 177 = .ok (.goto (-170), 3) := by decide +kernel
theorem dX12_draws_180 : decode cX12_draws 180 = .ok (.return_, 1) := by decide +kernel
theorem dX12_isDrawn_0 : decode cX12_isDrawn 0 = .ok (.iload_n 1, 1) := by decide +kernel
theorem dX12_isDrawn_1 : decode cX12_isDrawn 1 = .ok (.invokestatic 184, 3) := by decide +kernel
theorem dX12_isDrawn_4 : decode cX12_isDrawn 4 = .ok (.ifCond .eq 15, 3) := by decide +kernel
theorem dX12_isDrawn_7 : decode cX12_isDrawn 7 = .ok (.aload_n 0, 1) := by decide +kernel
theorem dX12_isDrawn_8 : decode cX12_isDrawn 8 = .ok (.iload_n 1, 1) := by decide +kernel
theorem dX12_isDrawn_9 : decode cX12_isDrawn 9 = .ok (.invokevirtual 277, 3) := by decide +kernel
theorem dX12_isDrawn_12 : decode cX12_isDrawn 12 = .ok (.ifCond .eq 7, 3) := by decide +kernel
theorem dX12_isDrawn_15 : decode cX12_isDrawn 15 = .ok (.iconst 1, 1) := by decide +kernel
theorem dX12_isDrawn_16 : decode cX12_isDrawn 16 = .ok (.goto 4, 3) := by decide +kernel
theorem dX12_isDrawn_19 : decode cX12_isDrawn 19 = .ok (.iconst 0, 1) := by decide +kernel
theorem dX12_isDrawn_20 : decode cX12_isDrawn 20 = .ok (.istore_n 2, 1) := by decide +kernel
theorem dX12_isDrawn_21 : decode cX12_isDrawn 21 = .ok (.iload_n 2, 1) := by decide +kernel
theorem dX12_isDrawn_22 : decode cX12_isDrawn 22 = .ok (.ifCond .eq 8, 3) := by decide +kernel
theorem dX12_isDrawn_25 : decode cX12_isDrawn 25 = .ok (.aload_n 0, 1) := by decide +kernel
theorem dX12_isDrawn_26 : decode cX12_isDrawn 26 = .ok (.iload_n 1, 1) := by decide +kernel
theorem dX12_isDrawn_27 : decode cX12_isDrawn 27 = .ok (.invokevirtual 280, 3) := by decide +kernel
theorem dX12_isDrawn_30 : decode cX12_isDrawn 30 = .ok (.iload_n 2, 1) := by decide +kernel
theorem dX12_isDrawn_31 : decode cX12_isDrawn 31 = .ok (.ireturn, 1) := by decide +kernel
theorem dX12_isItem_0 : decode cX12_isItem 0 = .ok (.aload_n 0, 1) := by decide +kernel
theorem dX12_isItem_1 : decode cX12_isItem 1 = .ok (.iload_n 1, 1) := by decide +kernel
theorem dX12_isItem_2 : decode cX12_isItem 2 = .ok (.invokevirtual 283, 3) := by decide +kernel
theorem dX12_isItem_5 : decode cX12_isItem 5 = .ok (.istore_n 3, 1) := by decide +kernel
theorem dX12_isItem_6 : decode cX12_isItem 6 = .ok (.aload_n 0, 1) := by decide +kernel
theorem dX12_isItem_7 : decode cX12_isItem 7 = .ok (.iload_n 1, 1) := by decide +kernel
theorem dX12_isItem_8 : decode cX12_isItem 8 = .ok (.invokestatic 184, 3) := by decide +kernel
theorem dX12_isItem_11 : decode cX12_isItem 11 = .ok (.iload_n 3, 1) := by decide +kernel
theorem dX12_isItem_12 : decode cX12_isItem 12 = .ok (.iload_n 3, 1) := by decide +kernel
theorem dX12_isItem_13 : decode cX12_isItem 13 = .ok (.ifCond .eq 21, 3) := by decide +kernel
theorem dX12_isItem_16 : decode cX12_isItem 16 = .ok (.iload_n 2, 1) := by decide +kernel
theorem dX12_isItem_17 : decode cX12_isItem 17 = .ok (.iconst 0, 1) := by decide +kernel
theorem dX12_isItem_18 : decode cX12_isItem 18 = .ok (.aload_n 0, 1) := by decide +kernel
theorem dX12_isItem_19 : decode cX12_isItem 19 = .ok (.getfield 261, 3) := by decide +kernel
theorem dX12_isItem_22 : decode cX12_isItem 22 = .ok (.iconst 1, 1) := by decide +kernel
theorem dX12_isItem_23 : decode cX12_isItem 23 = .ok (.isub, 1) := by decide +kernel
theorem dX12_isItem_24 : decode cX12_isItem 24 = .ok (.invokestatic 135, 3) := by decide +kernel
theorem dX12_isItem_27 : decode cX12_isItem 27 = .ok (.ifCond .eq 7, 3) := by decide +kernel
theorem dX12_isItem_30 : decode cX12_isItem 30 = .ok (.iconst 1, 1) := by decide +kernel
theorem dX12_isItem_31 : decode cX12_isItem 31 = .ok (.goto 4, 3) := by decide +kernel
theorem dX12_isItem_34 : decode cX12_isItem 34 = .ok (.iconst 0, 1) := by decide +kernel
theorem dX12_isItem_35 : decode cX12_isItem 35 = .ok (.invokevirtual 165, 3) := by decide +kernel
theorem dX12_isItem_38 : decode cX12_isItem 38 = .ok (.ireturn, 1) := by decide +kernel
theorem dX12_items_0 : decode cX12_items 0 = .ok (.aload_n 0, 1) := by decide +kernel
theorem dX12_items_1 : decode cX12_items 1 = .ok (.iload_n 1, 1) := by decide +kernel
theorem dX12_items_2 : decode cX12_items 2 = .ok (.invokevirtual 283, 3) := by decide +kernel
theorem dX12_items_5 : decode cX12_items 5 = .ok (.istore_n 2, 1) := by decide +kernel
theorem dX12_items_6 : decode cX12_items 6 = .ok (.aload_n 0, 1) := by decide +kernel
theorem dX12_items_7 : decode cX12_items 7 = .ok (.iload_n 1, 1) := by decide +kernel
theorem dX12_items_8 : decode cX12_items 8 = .ok (.invokestatic 184, 3) := by decide +kernel
theorem dX12_items_11 : decode cX12_items 11 = .ok (.iload_n 2, 1) := by decide +kernel
theorem dX12_items_12 : decode cX12_items 12 = .ok (.iconst 1, 1) := by decide +kernel
theorem dX12_items_13 : decode cX12_items 13 = .ok (.invokevirtual 165, 3) := by decide +kernel
theorem dX12_items_16 : decode cX12_items 16 = .ok (.ifCond .eq 10, 3) := by decide +kernel
theorem dX12_items_19 : decode cX12_items 19 = .ok (.aload_n 0, 1) := by decide +kernel
theorem dX12_items_20 : decode cX12_items 20 = .ok (.getfield 261, 3) := by decide +kernel
theorem dX12_items_23 : decode cX12_items 23 = .ok (.goto 4, 3) := by decide +kernel
theorem dX12_items_26 : decode cX12_items 26 = .ok (.iconst 0, 1) := by decide +kernel
theorem dX12_items_27 : decode cX12_items 27 = .ok (.ireturn, 1) := by decide +kernel
theorem dX12_itemKind_0 : decode cX12_itemKind 0 = .ok (.aload_n 0, 1) := by decide +kernel
theorem dX12_itemKind_1 : decode cX12_itemKind 1 = .ok (.iload_n 1, 1) := by decide +kernel
theorem dX12_itemKind_2 : decode cX12_itemKind 2 = .ok (.iload_n 2, 1) := by decide +kernel
theorem dX12_itemKind_3 : decode cX12_itemKind 3 = .ok (.invokevirtual 286, 3) := by decide +kernel
theorem dX12_itemKind_6 : decode cX12_itemKind 6 = .ok (.ifCond .eq 12, 3) := by decide +kernel
theorem dX12_itemKind_9 : decode cX12_itemKind 9 = .ok (.aload_n 0, 1) := by decide +kernel
theorem dX12_itemKind_10 : decode cX12_itemKind 10 = .ok (.getfield 99, 3) := by decide +kernel
theorem dX12_itemKind_13 : decode cX12_itemKind 13 = .ok (.iload_n 2, 1) := by decide +kernel
theorem dX12_itemKind_14 : decode cX12_itemKind 14 = .ok (.iaload, 1) := by decide +kernel
theorem dX12_itemKind_15 : decode cX12_itemKind 15 = .ok (.goto 4, 3) := by decide +kernel
theorem dX12_itemKind_18 : decode cX12_itemKind 18 = .ok (.iconst 0, 1) := by decide +kernel
theorem dX12_itemKind_19 : decode cX12_itemKind 19 = .ok (.ireturn, 1) := by decide +kernel
theorem dX12_itemBar_0 : decode cX12_itemBar 0 = .ok (.aload_n 0, 1) := by decide +kernel
theorem dX12_itemBar_1 : decode cX12_itemBar 1 = .ok (.iload_n 1, 1) := by decide +kernel
theorem dX12_itemBar_2 : decode cX12_itemBar 2 = .ok (.iload_n 2, 1) := by decide +kernel
theorem dX12_itemBar_3 : decode cX12_itemBar 3 = .ok (.invokevirtual 286, 3) := by decide +kernel
theorem dX12_itemBar_6 : decode cX12_itemBar 6 = .ok (.ifCond .eq 12, 3) := by decide +kernel
theorem dX12_itemBar_9 : decode cX12_itemBar 9 = .ok (.aload_n 0, 1) := by decide +kernel
theorem dX12_itemBar_10 : decode cX12_itemBar 10 = .ok (.getfield 102, 3) := by decide +kernel
theorem dX12_itemBar_13 : decode cX12_itemBar 13 = .ok (.iload_n 2, 1) := by decide +kernel
theorem dX12_itemBar_14 : decode cX12_itemBar 14 = .ok (.iaload, 1) := by decide +kernel
theorem dX12_itemBar_15 : decode cX12_itemBar 15 = .ok (.goto 4, 3) := by decide +kernel
theorem dX12_itemBar_18 : decode cX12_itemBar 18 = .ok (.iconst 0, 1) := by decide +kernel
theorem dX12_itemBar_19 : decode cX12_itemBar 19 = .ok (.ireturn, 1) := by decide +kernel
theorem dX12_itemBars_0 : decode cX12_itemBars 0 = .ok (.aload_n 0, 1) := by decide +kernel
theorem dX12_itemBars_1 : decode cX12_itemBars 1 = .ok (.iload_n 1, 1) := by decide +kernel
theorem dX12_itemBars_2 : decode cX12_itemBars 2 = .ok (.iload_n 2, 1) := by decide +kernel
theorem dX12_itemBars_3 : decode cX12_itemBars 3 = .ok (.invokevirtual 286, 3) := by decide +kernel
theorem dX12_itemBars_6 : decode cX12_itemBars 6 = .ok (.ifCond .eq 12, 3) := by decide +kernel
theorem dX12_itemBars_9 : decode cX12_itemBars 9 = .ok (.aload_n 0, 1) := by decide +kernel
theorem dX12_itemBars_10 : decode cX12_itemBars 10 = .ok (.getfield 105, 3) := by decide +kernel
theorem dX12_itemBars_13 : decode cX12_itemBars 13 = .ok (.iload_n 2, 1) := by decide +kernel
theorem dX12_itemBars_14 : decode cX12_itemBars 14 = .ok (.iaload, 1) := by decide +kernel
theorem dX12_itemBars_15 : decode cX12_itemBars 15 = .ok (.goto 4, 3) := by decide +kernel
theorem dX12_itemBars_18 : decode cX12_itemBars 18 = .ok (.iconst 0, 1) := by decide +kernel
theorem dX12_itemBars_19 : decode cX12_itemBars 19 = .ok (.ireturn, 1) := by decide +kernel
theorem dX12_cue_0 : decode cX12_cue 0 = .ok (.aload_n 0, 1) := by decide +kernel
theorem dX12_cue_1 : decode cX12_cue 1 = .ok (.iload_n 1, 1) := by decide +kernel
theorem dX12_cue_2 : decode cX12_cue 2 = .ok (.iload_n 2, 1) := by decide +kernel
theorem dX12_cue_3 : decode cX12_cue 3 = .ok (.invokevirtual 286, 3) := by decide +kernel
theorem dX12_cue_6 : decode cX12_cue 6 = .ok (.ifCond .eq 12, 3) := by decide +kernel
theorem dX12_cue_9 : decode cX12_cue 9 = .ok (.aload_n 0, 1) := by decide +kernel
theorem dX12_cue_10 : decode cX12_cue 10 = .ok (.getfield 108, 3) := by decide +kernel
theorem dX12_cue_13 : decode cX12_cue 13 = .ok (.iload_n 2, 1) := by decide +kernel
theorem dX12_cue_14 : decode cX12_cue 14 = .ok (.iaload, 1) := by decide +kernel
theorem dX12_cue_15 : decode cX12_cue 15 = .ok (.goto 4, 3) := by decide +kernel
theorem dX12_cue_18 : decode cX12_cue 18 = .ok (.iconst 0, 1) := by decide +kernel
theorem dX12_cue_19 : decode cX12_cue 19 = .ok (.ireturn, 1) := by decide +kernel
theorem dX12_itemWidth_0 : decode cX12_itemWidth 0 = .ok (.aload_n 0, 1) := by decide +kernel
theorem dX12_itemWidth_1 : decode cX12_itemWidth 1 = .ok (.iload_n 1, 1) := by decide +kernel
theorem dX12_itemWidth_2 : decode cX12_itemWidth 2 = .ok (.iload_n 2, 1) := by decide +kernel
theorem dX12_itemWidth_3 : decode cX12_itemWidth 3 = .ok (.invokevirtual 286, 3) := by decide +kernel
theorem dX12_itemWidth_6 : decode cX12_itemWidth 6 = .ok (.ifCond .eq 12, 3) := by decide +kernel
theorem dX12_itemWidth_9 : decode cX12_itemWidth 9 = .ok (.aload_n 0, 1) := by decide +kernel
theorem dX12_itemWidth_10 : decode cX12_itemWidth 10 = .ok (.getfield 111, 3) := by decide +kernel
theorem dX12_itemWidth_13 : decode cX12_itemWidth 13 = .ok (.iload_n 2, 1) := by decide +kernel
theorem dX12_itemWidth_14 : decode cX12_itemWidth 14 = .ok (.iaload, 1) := by decide +kernel
theorem dX12_itemWidth_15 : decode cX12_itemWidth 15 = .ok (.goto 4, 3) := by decide +kernel
theorem dX12_itemWidth_18 : decode cX12_itemWidth 18 = .ok (.iconst 0, 1) := by decide +kernel
theorem dX12_itemWidth_19 : decode cX12_itemWidth 19 = .ok (.ireturn, 1) := by decide +kernel
theorem dX12_badnessOf_0 : decode cX12_badnessOf 0 = .ok (.aload_n 0, 1) := by decide +kernel
theorem dX12_badnessOf_1 : decode cX12_badnessOf 1 = .ok (.getfield 68, 3) := by decide +kernel
theorem dX12_badnessOf_4 : decode cX12_badnessOf 4 = .ok (.iload_n 1, 1) := by decide +kernel
theorem dX12_badnessOf_5 : decode cX12_badnessOf 5 = .ok (.isub, 1) := by decide +kernel
theorem dX12_badnessOf_6 : decode cX12_badnessOf 6 = .ok (.istore_n 3, 1) := by decide +kernel
theorem dX12_badnessOf_7 : decode cX12_badnessOf 7 = .ok (.iload_n 3, 1) := by decide +kernel
theorem dX12_badnessOf_8 : decode cX12_badnessOf 8 = .ok (.ifCond .ge 13, 3) := by decide +kernel
theorem dX12_badnessOf_11 : decode cX12_badnessOf 11 = .ok (.ldc_w 289, 3) := by decide +kernel
theorem dX12_badnessOf_14 : decode cX12_badnessOf 14 = .ok (.iload_n 3, 1) := by decide +kernel
theorem dX12_badnessOf_15 : decode cX12_badnessOf 15 = .ok (.iload_n 3, 1) := by decide +kernel
theorem dX12_badnessOf_16 : decode cX12_badnessOf 16 = .ok (.imul, 1) := by decide +kernel
theorem dX12_badnessOf_17 : decode cX12_badnessOf 17 = .ok (.iadd, 1) := by decide +kernel
theorem dX12_badnessOf_18 : decode cX12_badnessOf 18 = .ok (.goto 18, 3) := by decide +kernel
theorem dX12_badnessOf_21 : decode cX12_badnessOf 21 = .ok (.iload_n 2, 1) := by decide +kernel
theorem dX12_badnessOf_22 : decode cX12_badnessOf 22 = .ok (.ifCond .eq 11, 3) := by decide +kernel
theorem dX12_badnessOf_25 : decode cX12_badnessOf 25 = .ok (.iload_n 3, 1) := by decide +kernel
theorem dX12_badnessOf_26 : decode cX12_badnessOf 26 = .ok (.iload_n 3, 1) := by decide +kernel
theorem dX12_badnessOf_27 : decode cX12_badnessOf 27 = .ok (.imul, 1) := by decide +kernel
theorem dX12_badnessOf_28 : decode cX12_badnessOf 28 = .ok (.iconst 4, 1) := by decide +kernel
theorem dX12_badnessOf_29 : decode cX12_badnessOf 29 = .ok (.idiv, 1) := by decide +kernel
theorem dX12_badnessOf_30 : decode cX12_badnessOf 30 = .ok (.goto 6, 3) := by decide +kernel
theorem dX12_badnessOf_33 : decode cX12_badnessOf 33 = .ok (.iload_n 3, 1) := by decide +kernel
theorem dX12_badnessOf_34 : decode cX12_badnessOf 34 = .ok (.iload_n 3, 1) := by decide +kernel
theorem dX12_badnessOf_35 : decode cX12_badnessOf 35 = .ok (.imul, 1) := by decide +kernel
theorem dX12_badnessOf_36 : decode cX12_badnessOf 36 = .ok (.ireturn, 1) := by decide +kernel
theorem dX12_badnessTo_0 : decode cX12_badnessTo 0 = .ok (.iconst 0, 1) := by decide +kernel
theorem dX12_badnessTo_1 : decode cX12_badnessTo 1 = .ok (.istore_n 3, 1) := by decide +kernel
theorem dX12_badnessTo_2 : decode cX12_badnessTo 2 = .ok (.iload_n 1, 1) := by decide +kernel
theorem dX12_badnessTo_3 : decode cX12_badnessTo 3 = .ok (.istore 4, 2) := by decide +kernel
theorem dX12_badnessTo_5 : decode cX12_badnessTo 5 = .ok (.iload 4, 2) := by decide +kernel
theorem dX12_badnessTo_7 : decode cX12_badnessTo 7 = .ok (.iload_n 2, 1) := by decide +kernel
theorem dX12_badnessTo_8 : decode cX12_badnessTo 8 = .ok (.if_icmp .ge 19, 3) := by decide +kernel
theorem dX12_badnessTo_11 : decode cX12_badnessTo 11 = .ok (.iload_n 3, 1) := by decide +kernel
theorem dX12_badnessTo_12 : decode cX12_badnessTo 12 = .ok (.aload_n 0, 1) := by decide +kernel
theorem dX12_badnessTo_13 : decode cX12_badnessTo 13 = .ok (.getfield 111, 3) := by decide +kernel
theorem dX12_badnessTo_16 : decode cX12_badnessTo 16 = .ok (.iload 4, 2) := by decide +kernel
theorem dX12_badnessTo_18 : decode cX12_badnessTo 18 = .ok (.iaload, 1) := by decide +kernel
theorem dX12_badnessTo_19 : decode cX12_badnessTo 19 = .ok (.iadd, 1) := by decide +kernel
theorem dX12_badnessTo_20 : decode cX12_badnessTo 20 = .ok (.istore_n 3, 1) := by decide +kernel
theorem dX12_badnessTo_21 : decode cX12_badnessTo 21 = .ok (.iinc 4 1, 3) := by decide +kernel
theorem dX12_badnessTo_24 : decode cX12_badnessTo 24 = .ok (.goto (-19), 3) := by decide +kernel
theorem dX12_badnessTo_27 : decode cX12_badnessTo 27 = .ok (.iload_n 2, 1) := by decide +kernel
theorem dX12_badnessTo_28 : decode cX12_badnessTo 28 = .ok (.iload_n 1, 1) := by decide +kernel
theorem dX12_badnessTo_29 : decode cX12_badnessTo 29 = .ok (.iconst 1, 1) := by decide +kernel
theorem dX12_badnessTo_30 : decode cX12_badnessTo 30 = .ok (.iadd, 1) := by decide +kernel
theorem dX12_badnessTo_31 : decode cX12_badnessTo 31 = .ok (.if_icmp .le 17, 3) := by decide +kernel
theorem dX12_badnessTo_34 : decode cX12_badnessTo 34 = .ok (.iload_n 3, 1) := by decide +kernel
theorem dX12_badnessTo_35 : decode cX12_badnessTo 35 = .ok (.aload_n 0, 1) := by decide +kernel
theorem dX12_badnessTo_36 : decode cX12_badnessTo 36 = .ok (.getfield 68, 3) := by decide +kernel
theorem dX12_badnessTo_39 : decode cX12_badnessTo 39 = .ok (.if_icmp .le 9, 3) := by decide +kernel
theorem dX12_badnessTo_42 : decode cX12_badnessTo 42 = .ok (.ldc_w 290, 3) := by decide +kernel
theorem dX12_badnessTo_45 : decode cX12_badnessTo 45 = .ok (.goto 28, 3) := by decide +kernel
theorem dX12_badnessTo_48 : decode cX12_badnessTo 48 = .ok (.aload_n 0, 1) := by decide +kernel
theorem dX12_badnessTo_49 : decode cX12_badnessTo 49 = .ok (.iload_n 3, 1) := by decide +kernel
theorem dX12_badnessTo_50 : decode cX12_badnessTo 50 = .ok (.iload_n 2, 1) := by decide +kernel
theorem dX12_badnessTo_51 : decode cX12_badnessTo 51 = .ok (.aload_n 0, 1) := by decide +kernel
theorem dX12_badnessTo_52 : decode cX12_badnessTo 52 = .ok (.getfield 261, 3) := by decide +kernel
theorem dX12_badnessTo_55 : decode cX12_badnessTo 55 = .ok (.if_icmp .ne 7, 3) := by decide +kernel
theorem dX12_badnessTo_58 : decode cX12_badnessTo 58 = .ok (.iconst 1, 1) := by decide +kernel
theorem dX12_badnessTo_59 : decode cX12_badnessTo 59 = .ok (.goto 4, 3) := by decide +kernel
theorem dX12_badnessTo_62 : decode cX12_badnessTo 62 = .ok (.iconst 0, 1) := by decide +kernel
theorem dX12_badnessTo_63 : decode cX12_badnessTo 63 = .ok (.invokevirtual 291, 3) := by decide +kernel
theorem dX12_badnessTo_66 : decode cX12_badnessTo 66 = .ok (.aload_n 0, 1) := by decide +kernel
theorem dX12_badnessTo_67 : decode cX12_badnessTo 67 = .ok (.getfield 117, 3) := by decide +kernel
theorem dX12_badnessTo_70 : decode cX12_badnessTo 70 = .ok (.iload_n 2, 1) := by decide +kernel
theorem dX12_badnessTo_71 : decode cX12_badnessTo 71 = .ok (.iaload, 1) := by decide +kernel
theorem dX12_badnessTo_72 : decode cX12_badnessTo 72 = .ok (.iadd, 1) := by decide +kernel
theorem dX12_badnessTo_73 : decode cX12_badnessTo 73 = .ok (.ireturn, 1) := by decide +kernel
theorem dX12_breaksLines_0 : decode cX12_breaksLines 0 = .ok (.aload_n 0, 1) := by decide +kernel
theorem dX12_breaksLines_1 : decode cX12_breaksLines 1 = .ok (.getfield 117, 3) := by decide +kernel
theorem dX12_breaksLines_4 : decode cX12_breaksLines 4 = .ok (.aload_n 0, 1) := by decide +kernel
theorem dX12_breaksLines_5 : decode cX12_breaksLines 5 = .ok (.getfield 261, 3) := by decide +kernel
theorem dX12_breaksLines_8 : decode cX12_breaksLines 8 = .ok (.iconst 0, 1) := by decide +kernel
theorem dX12_breaksLines_9 : decode cX12_breaksLines 9 = .ok (.iastore, 1) := by decide +kernel
theorem dX12_breaksLines_10 : decode cX12_breaksLines 10 = .ok (.aload_n 0, 1) := by decide +kernel
theorem dX12_breaksLines_11 : decode cX12_breaksLines 11 = .ok (.getfield 261, 3) := by decide +kernel
theorem dX12_breaksLines_14 : decode cX12_breaksLines 14 = .ok (.iconst 1, 1) := by decide +kernel
theorem dX12_breaksLines_15 : decode cX12_breaksLines 15 = .ok (.isub, 1) := by decide +kernel
theorem dX12_breaksLines_16 : decode cX12_breaksLines 16 = .ok (.istore_n 1, 1) := by decide +kernel
theorem dX12_breaksLines_17 : decode cX12_breaksLines 17 = .ok (.iload_n 1, 1) := by decide +kernel
theorem dX12_breaksLines_18 : decode cX12_breaksLines 18 = .ok (.ifCond .lt 69, 3) := by decide +kernel
theorem dX12_breaksLines_21 : decode cX12_breaksLines 21 = .ok (.aload_n 0, 1) := by decide +kernel
theorem dX12_breaksLines_22 : decode cX12_breaksLines 22 = .ok (.getfield 117, 3) := by decide +kernel
theorem dX12_breaksLines_25 : decode cX12_breaksLines 25 = .ok (.iload_n 1, 1) := by decide +kernel
theorem dX12_breaksLines_26 : decode cX12_breaksLines 26 = .ok (.ldc_w 290, 3) := by decide +kernel
theorem dX12_breaksLines_29 : decode cX12_breaksLines 29 = .ok (.iastore, 1) := by decide +kernel
theorem dX12_breaksLines_30 : decode cX12_breaksLines 30 = .ok (.iload_n 1, 1) := by decide +kernel
theorem dX12_breaksLines_31 : decode cX12_breaksLines 31 = .ok (.iconst 1, 1) := by decide +kernel
theorem dX12_breaksLines_32 : decode cX12_breaksLines 32 = .ok (.iadd, 1) := by decide +kernel
theorem dX12_breaksLines_33 : decode cX12_breaksLines 33 = .ok (.istore_n 2, 1) := by decide +kernel
theorem dX12_breaksLines_34 : decode cX12_breaksLines 34 = .ok (.iload_n 2, 1) := by decide +kernel
theorem dX12_breaksLines_35 : decode cX12_breaksLines 35 = .ok (.aload_n 0, 1) := by decide +kernel
theorem dX12_breaksLines_36 : decode cX12_breaksLines 36 = .ok (.getfield 261, 3) := by decide +kernel
theorem dX12_breaksLines_39 : decode cX12_breaksLines 39 = .ok (.if_icmp .gt 42, 3) := by decide +kernel
theorem dX12_breaksLines_42 : decode cX12_breaksLines 42 = .ok (.aload_n 0, 1) := by decide +kernel
theorem dX12_breaksLines_43 : decode cX12_breaksLines 43 = .ok (.iload_n 1, 1) := by decide +kernel
theorem dX12_breaksLines_44 : decode cX12_breaksLines 44 = .ok (.iload_n 2, 1) := by decide +kernel
theorem dX12_breaksLines_45 : decode cX12_breaksLines 45 = .ok (.invokevirtual 295, 3) := by decide +kernel
theorem dX12_breaksLines_48 : decode cX12_breaksLines 48 = .ok (.istore_n 3, 1) := by decide +kernel
theorem dX12_breaksLines_49 : decode cX12_breaksLines 49 = .ok (.aload_n 0, 1) := by decide +kernel
theorem dX12_breaksLines_50 : decode cX12_breaksLines 50 = .ok (.getfield 117, 3) := by decide +kernel
theorem dX12_breaksLines_53 : decode cX12_breaksLines 53 = .ok (.iload_n 1, 1) := by decide +kernel
theorem dX12_breaksLines_54 : decode cX12_breaksLines 54 = .ok (.iload_n 3, 1) := by decide +kernel
theorem dX12_breaksLines_55 : decode cX12_breaksLines 55 = .ok (.aload_n 0, 1) := by decide +kernel
theorem dX12_breaksLines_56 : decode cX12_breaksLines 56 = .ok (.getfield 117, 3) := by decide +kernel
theorem dX12_breaksLines_59 : decode cX12_breaksLines 59 = .ok (.iload_n 1, 1) := by decide +kernel
theorem dX12_breaksLines_60 : decode cX12_breaksLines 60 = .ok (.iaload, 1) := by decide +kernel
theorem dX12_breaksLines_61 : decode cX12_breaksLines 61 = .ok (.if_icmp .ge 7, 3) := by decide +kernel
theorem dX12_breaksLines_64 : decode cX12_breaksLines 64 = .ok (.iload_n 3, 1) := by decide +kernel
theorem dX12_breaksLines_65 : decode cX12_breaksLines 65 = .ok (.goto 9, 3) := by decide +kernel
theorem dX12_breaksLines_68 : decode cX12_breaksLines 68 = .ok (.aload_n 0, 1) := by decide +kernel
theorem dX12_breaksLines_69 : decode cX12_breaksLines 69 = .ok (.getfield 117, 3) := by decide +kernel
theorem dX12_breaksLines_72 : decode cX12_breaksLines 72 = .ok (.iload_n 1, 1) := by decide +kernel
theorem dX12_breaksLines_73 : decode cX12_breaksLines 73 = .ok (.iaload, 1) := by decide +kernel
theorem dX12_breaksLines_74 : decode cX12_breaksLines 74 = .ok (.iastore, 1) := by decide +kernel
theorem dX12_breaksLines_75 : decode cX12_breaksLines 75 = .ok (.iinc 2 1, 3) := by decide +kernel
theorem dX12_breaksLines_78 : decode cX12_breaksLines 78 = .ok (.goto (-44), 3) := by decide +kernel
theorem dX12_breaksLines_81 : decode cX12_breaksLines 81 = .ok (.iinc 1 (-1), 3) := by decide +kernel
theorem dX12_breaksLines_84 : decode cX12_breaksLines 84 = .ok (.goto (-67), 3) := by decide +kernel
theorem dX12_breaksLines_87 : decode cX12_breaksLines 87 = .ok (.aload_n 0, 1) := by decide +kernel
theorem dX12_breaksLines_88 : decode cX12_breaksLines 88 = .ok (.iconst 0, 1) := by decide +kernel
theorem dX12_breaksLines_89 : decode cX12_breaksLines 89 = .ok (.putfield 298, 3) := by decide +kernel
theorem dX12_breaksLines_92 : decode cX12_breaksLines 92 = .ok (.iconst 0, 1) := by decide +kernel
theorem dX12_breaksLines_93 : decode cX12_breaksLines 93 = .ok (.istore_n 1, 1) := by decide +kernel
theorem dX12_breaksLines_94 : decode cX12_breaksLines 94 = .ok (.iload_n 1, 1) := by decide +kernel
theorem dX12_breaksLines_95 : decode cX12_breaksLines 95 = .ok (.aload_n 0, 1) := by decide +kernel
theorem dX12_breaksLines_96 : decode cX12_breaksLines 96 = .ok (.getfield 261, 3) := by decide +kernel
theorem dX12_breaksLines_99 : decode cX12_breaksLines 99 = .ok (.if_icmp .ge 54, 3) := by decide +kernel
theorem dX12_breaksLines_102 : decode cX12_breaksLines 102 = .ok (.aload_n 0, 1) := by decide +kernel
theorem dX12_breaksLines_103 : decode cX12_breaksLines 103 = .ok (.getfield 114, 3) := by decide +kernel
theorem dX12_breaksLines_106 : decode cX12_breaksLines 106 = .ok (.aload_n 0, 1) := by decide +kernel
theorem dX12_breaksLines_107 : decode cX12_breaksLines 107 = .ok (.getfield 298, 3) := by decide +kernel
theorem dX12_breaksLines_110 : decode cX12_breaksLines 110 = .ok (.iload_n 1, 1) := by decide +kernel
theorem dX12_breaksLines_111 : decode cX12_breaksLines 111 = .ok (.iastore, 1) := by decide +kernel
theorem dX12_breaksLines_112 : decode cX12_breaksLines 112 = .ok (.aload_n 0, 1) := by decide +kernel
theorem dX12_breaksLines_113 : decode cX12_breaksLines 113 = .ok (.dup, 1) := by decide +kernel
theorem dX12_breaksLines_114 : decode cX12_breaksLines 114 = .ok (.getfield 298, 3) := by decide +kernel
theorem dX12_breaksLines_117 : decode cX12_breaksLines 117 = .ok (.iconst 1, 1) := by decide +kernel
theorem dX12_breaksLines_118 : decode cX12_breaksLines 118 = .ok (.iadd, 1) := by decide +kernel
theorem dX12_breaksLines_119 : decode cX12_breaksLines 119 = .ok (.putfield 298, 3) := by decide +kernel
theorem dX12_breaksLines_122 : decode cX12_breaksLines 122 = .ok (.aload_n 0, 1) := by decide +kernel
theorem dX12_breaksLines_123 : decode cX12_breaksLines 123 = .ok (.getfield 261, 3) := by decide +kernel
theorem dX12_breaksLines_126 : decode cX12_breaksLines 126 = .ok (.istore_n 2, 1) := by decide +kernel
theorem dX12_breaksLines_127 : decode cX12_breaksLines 127 = .ok (.aload_n 0, 1) := by decide +kernel
theorem dX12_breaksLines_128 : decode cX12_breaksLines 128 = .ok (.iload_n 1, 1) := by decide +kernel
theorem dX12_breaksLines_129 : decode cX12_breaksLines 129 = .ok (.iload_n 2, 1) := by decide +kernel
theorem dX12_breaksLines_130 : decode cX12_breaksLines 130 = .ok (.invokevirtual 295, 3) := by decide +kernel
theorem dX12_breaksLines_133 : decode cX12_breaksLines 133 = .ok (.aload_n 0, 1) := by decide +kernel
theorem dX12_breaksLines_134 : decode cX12_breaksLines 134 = .ok (.getfield 117, 3) := by decide +kernel
theorem dX12_breaksLines_137 : decode cX12_breaksLines 137 = .ok (.iload_n 1, 1) := by decide +kernel
theorem dX12_breaksLines_138 : decode cX12_breaksLines 138 = .ok (.iaload, 1) := by decide +kernel
theorem dX12_breaksLines_139 : decode cX12_breaksLines 139 = .ok (.if_icmp .eq 9, 3) := by decide +kernel
theorem dX12_breaksLines_142 : decode cX12_breaksLines 142 = .ok (.iinc 2 (-1), 3) := by decide +kernel
theorem dX12_breaksLines_145 : decode cX12_breaksLines 145 = .ok (.goto (-18), 3) := by decide +kernel
theorem dX12_breaksLines_148 : decode cX12_breaksLines 148 = .ok (.iload_n 2, 1) := by decide +kernel
theorem dX12_breaksLines_149 : decode cX12_breaksLines 149 = .ok (.istore_n 1, 1) := by decide +kernel
theorem dX12_breaksLines_150 : decode cX12_breaksLines 150 = .ok (.goto (-56), 3) := by decide +kernel
theorem dX12_breaksLines_153 : decode cX12_breaksLines 153 = .ok (.aload_n 0, 1) := by decide +kernel
theorem dX12_breaksLines_154 : decode cX12_breaksLines 154 = .ok (.getfield 114, 3) := by decide +kernel
theorem dX12_breaksLines_157 : decode cX12_breaksLines 157 = .ok (.aload_n 0, 1) := by decide +kernel
theorem dX12_breaksLines_158 : decode cX12_breaksLines 158 = .ok (.getfield 298, 3) := by decide +kernel
theorem dX12_breaksLines_161 : decode cX12_breaksLines 161 = .ok (.aload_n 0, 1) := by decide +kernel
theorem dX12_breaksLines_162 : decode cX12_breaksLines 162 = .ok (.getfield 261, 3) := by decide +kernel
theorem dX12_breaksLines_165 : decode cX12_breaksLines 165 = .ok (.iastore, 1) := by decide +kernel
theorem dX12_breaksLines_166 : decode cX12_breaksLines 166 = .ok (.return_, 1) := by decide +kernel
theorem dX12_isBroken_0 : decode cX12_isBroken 0 = .ok (.aload_n 0, 1) := by decide +kernel
theorem dX12_isBroken_1 : decode cX12_isBroken 1 = .ok (.iload_n 1, 1) := by decide +kernel
theorem dX12_isBroken_2 : decode cX12_isBroken 2 = .ok (.invokevirtual 283, 3) := by decide +kernel
theorem dX12_isBroken_5 : decode cX12_isBroken 5 = .ok (.istore_n 2, 1) := by decide +kernel
theorem dX12_isBroken_6 : decode cX12_isBroken 6 = .ok (.iload_n 2, 1) := by decide +kernel
theorem dX12_isBroken_7 : decode cX12_isBroken 7 = .ok (.ifCond .eq 7, 3) := by decide +kernel
theorem dX12_isBroken_10 : decode cX12_isBroken 10 = .ok (.aload_n 0, 1) := by decide +kernel
theorem dX12_isBroken_11 : decode cX12_isBroken 11 = .ok (.invokevirtual 301, 3) := by decide +kernel
theorem dX12_isBroken_14 : decode cX12_isBroken 14 = .ok (.iload_n 2, 1) := by decide +kernel
theorem dX12_isBroken_15 : decode cX12_isBroken 15 = .ok (.ireturn, 1) := by decide +kernel
theorem dX12_lines_0 : decode cX12_lines 0 = .ok (.aload_n 0, 1) := by decide +kernel
theorem dX12_lines_1 : decode cX12_lines 1 = .ok (.iload_n 1, 1) := by decide +kernel
theorem dX12_lines_2 : decode cX12_lines 2 = .ok (.invokevirtual 304, 3) := by decide +kernel
theorem dX12_lines_5 : decode cX12_lines 5 = .ok (.istore_n 2, 1) := by decide +kernel
theorem dX12_lines_6 : decode cX12_lines 6 = .ok (.aload_n 0, 1) := by decide +kernel
theorem dX12_lines_7 : decode cX12_lines 7 = .ok (.iload_n 1, 1) := by decide +kernel
theorem dX12_lines_8 : decode cX12_lines 8 = .ok (.invokestatic 184, 3) := by decide +kernel
theorem dX12_lines_11 : decode cX12_lines 11 = .ok (.iload_n 2, 1) := by decide +kernel
theorem dX12_lines_12 : decode cX12_lines 12 = .ok (.iconst 1, 1) := by decide +kernel
theorem dX12_lines_13 : decode cX12_lines 13 = .ok (.invokevirtual 165, 3) := by decide +kernel
theorem dX12_lines_16 : decode cX12_lines 16 = .ok (.ifCond .eq 10, 3) := by decide +kernel
theorem dX12_lines_19 : decode cX12_lines 19 = .ok (.aload_n 0, 1) := by decide +kernel
theorem dX12_lines_20 : decode cX12_lines 20 = .ok (.getfield 298, 3) := by decide +kernel
theorem dX12_lines_23 : decode cX12_lines 23 = .ok (.goto 4, 3) := by decide +kernel
theorem dX12_lines_26 : decode cX12_lines 26 = .ok (.iconst 0, 1) := by decide +kernel
theorem dX12_lines_27 : decode cX12_lines 27 = .ok (.ireturn, 1) := by decide +kernel
theorem dX12_firstItem_0 : decode cX12_firstItem 0 = .ok (.aload_n 0, 1) := by decide +kernel
theorem dX12_firstItem_1 : decode cX12_firstItem 1 = .ok (.iload_n 1, 1) := by decide +kernel
theorem dX12_firstItem_2 : decode cX12_firstItem 2 = .ok (.invokevirtual 304, 3) := by decide +kernel
theorem dX12_firstItem_5 : decode cX12_firstItem 5 = .ok (.istore_n 3, 1) := by decide +kernel
theorem dX12_firstItem_6 : decode cX12_firstItem 6 = .ok (.aload_n 0, 1) := by decide +kernel
theorem dX12_firstItem_7 : decode cX12_firstItem 7 = .ok (.iload_n 1, 1) := by decide +kernel
theorem dX12_firstItem_8 : decode cX12_firstItem 8 = .ok (.invokestatic 184, 3) := by decide +kernel
theorem dX12_firstItem_11 : decode cX12_firstItem 11 = .ok (.iload_n 3, 1) := by decide +kernel
theorem dX12_firstItem_12 : decode cX12_firstItem 12 = .ok (.iload_n 3, 1) := by decide +kernel
theorem dX12_firstItem_13 : decode cX12_firstItem 13 = .ok (.ifCond .eq 21, 3) := by decide +kernel
theorem dX12_firstItem_16 : decode cX12_firstItem 16 = .ok (.iload_n 2, 1) := by decide +kernel
theorem dX12_firstItem_17 : decode cX12_firstItem 17 = .ok (.iconst 0, 1) := by decide +kernel
theorem dX12_firstItem_18 : decode cX12_firstItem 18 = .ok (.aload_n 0, 1) := by decide +kernel
theorem dX12_firstItem_19 : decode cX12_firstItem 19 = .ok (.getfield 298, 3) := by decide +kernel
theorem dX12_firstItem_22 : decode cX12_firstItem 22 = .ok (.iconst 1, 1) := by decide +kernel
theorem dX12_firstItem_23 : decode cX12_firstItem 23 = .ok (.isub, 1) := by decide +kernel
theorem dX12_firstItem_24 : decode cX12_firstItem 24 = .ok (.invokestatic 135, 3) := by decide +kernel
theorem dX12_firstItem_27 : decode cX12_firstItem 27 = .ok (.ifCond .eq 7, 3) := by decide +kernel
theorem dX12_firstItem_30 : decode cX12_firstItem 30 = .ok (.iconst 1, 1) := by decide +kernel
theorem dX12_firstItem_31 : decode cX12_firstItem 31 = .ok (.goto 4, 3) := by decide +kernel
theorem dX12_firstItem_34 : decode cX12_firstItem 34 = .ok (.iconst 0, 1) := by decide +kernel
theorem dX12_firstItem_35 : decode cX12_firstItem 35 = .ok (.invokevirtual 165, 3) := by decide +kernel
theorem dX12_firstItem_38 : decode cX12_firstItem 38 = .ok (.ifCond .eq 12, 3) := by decide +kernel
theorem dX12_firstItem_41 : decode cX12_firstItem 41 = .ok (.aload_n 0, 1) := by decide +kernel
theorem dX12_firstItem_42 : decode cX12_firstItem 42 = .ok (.getfield 114, 3) := by decide +kernel
theorem dX12_firstItem_45 : decode cX12_firstItem 45 = .ok (.iload_n 2, 1) := by decide +kernel
theorem dX12_firstItem_46 : decode cX12_firstItem 46 = .ok (.iaload, 1) := by decide +kernel
theorem dX12_firstItem_47 : decode cX12_firstItem 47 = .ok (.goto 4, 3) := by decide +kernel
theorem dX12_firstItem_50 : decode cX12_firstItem 50 = .ok (.iconst 0, 1) := by decide +kernel
theorem dX12_firstItem_51 : decode cX12_firstItem 51 = .ok (.ireturn, 1) := by decide +kernel
theorem dX12_badness_0 : decode cX12_badness 0 = .ok (.aload_n 0, 1) := by decide +kernel
theorem dX12_badness_1 : decode cX12_badness 1 = .ok (.iload_n 1, 1) := by decide +kernel
theorem dX12_badness_2 : decode cX12_badness 2 = .ok (.invokevirtual 304, 3) := by decide +kernel
theorem dX12_badness_5 : decode cX12_badness 5 = .ok (.istore_n 2, 1) := by decide +kernel
theorem dX12_badness_6 : decode cX12_badness 6 = .ok (.aload_n 0, 1) := by decide +kernel
theorem dX12_badness_7 : decode cX12_badness 7 = .ok (.iload_n 1, 1) := by decide +kernel
theorem dX12_badness_8 : decode cX12_badness 8 = .ok (.invokestatic 184, 3) := by decide +kernel
theorem dX12_badness_11 : decode cX12_badness 11 = .ok (.iload_n 2, 1) := by decide +kernel
theorem dX12_badness_12 : decode cX12_badness 12 = .ok (.iconst 1, 1) := by decide +kernel
theorem dX12_badness_13 : decode cX12_badness 13 = .ok (.invokevirtual 165, 3) := by decide +kernel
theorem dX12_badness_16 : decode cX12_badness 16 = .ok (.ifCond .eq 12, 3) := by decide +kernel
theorem dX12_badness_19 : decode cX12_badness 19 = .ok (.aload_n 0, 1) := by decide +kernel
theorem dX12_badness_20 : decode cX12_badness 20 = .ok (.getfield 117, 3) := by decide +kernel
theorem dX12_badness_23 : decode cX12_badness 23 = .ok (.iconst 0, 1) := by decide +kernel
theorem dX12_badness_24 : decode cX12_badness 24 = .ok (.iaload, 1) := by decide +kernel
theorem dX12_badness_25 : decode cX12_badness 25 = .ok (.goto 4, 3) := by decide +kernel
theorem dX12_badness_28 : decode cX12_badness 28 = .ok (.iconst 0, 1) := by decide +kernel
theorem dX12_badness_29 : decode cX12_badness 29 = .ok (.ireturn, 1) := by decide +kernel
theorem dX12_barAhead_0 : decode cX12_barAhead 0 = .ok (.aload_n 0, 1) := by decide +kernel
theorem dX12_barAhead_1 : decode cX12_barAhead 1 = .ok (.getfield 114, 3) := by decide +kernel
theorem dX12_barAhead_4 : decode cX12_barAhead 4 = .ok (.iload_n 1, 1) := by decide +kernel
theorem dX12_barAhead_5 : decode cX12_barAhead 5 = .ok (.iaload, 1) := by decide +kernel
theorem dX12_barAhead_6 : decode cX12_barAhead 6 = .ok (.iconst 1, 1) := by decide +kernel
theorem dX12_barAhead_7 : decode cX12_barAhead 7 = .ok (.isub, 1) := by decide +kernel
theorem dX12_barAhead_8 : decode cX12_barAhead 8 = .ok (.istore_n 2, 1) := by decide +kernel
theorem dX12_barAhead_9 : decode cX12_barAhead 9 = .ok (.aload_n 0, 1) := by decide +kernel
theorem dX12_barAhead_10 : decode cX12_barAhead 10 = .ok (.getfield 102, 3) := by decide +kernel
theorem dX12_barAhead_13 : decode cX12_barAhead 13 = .ok (.iload_n 2, 1) := by decide +kernel
theorem dX12_barAhead_14 : decode cX12_barAhead 14 = .ok (.iaload, 1) := by decide +kernel
theorem dX12_barAhead_15 : decode cX12_barAhead 15 = .ok (.aload_n 0, 1) := by decide +kernel
theorem dX12_barAhead_16 : decode cX12_barAhead 16 = .ok (.getfield 105, 3) := by decide +kernel
theorem dX12_barAhead_19 : decode cX12_barAhead 19 = .ok (.iload_n 2, 1) := by decide +kernel
theorem dX12_barAhead_20 : decode cX12_barAhead 20 = .ok (.iaload, 1) := by decide +kernel
theorem dX12_barAhead_21 : decode cX12_barAhead 21 = .ok (.iadd, 1) := by decide +kernel
theorem dX12_barAhead_22 : decode cX12_barAhead 22 = .ok (.iconst 1, 1) := by decide +kernel
theorem dX12_barAhead_23 : decode cX12_barAhead 23 = .ok (.isub, 1) := by decide +kernel
theorem dX12_barAhead_24 : decode cX12_barAhead 24 = .ok (.ireturn, 1) := by decide +kernel
theorem dX12_timed_0 : decode cX12_timed 0 = .ok (.iconst 0, 1) := by decide +kernel
theorem dX12_timed_1 : decode cX12_timed 1 = .ok (.istore_n 2, 1) := by decide +kernel
theorem dX12_timed_2 : decode cX12_timed 2 = .ok (.aload_n 0, 1) := by decide +kernel
theorem dX12_timed_3 : decode cX12_timed 3 = .ok (.getfield 78, 3) := by decide +kernel
theorem dX12_timed_6 : decode cX12_timed 6 = .ok (.iload_n 2, 1) := by decide +kernel
theorem dX12_timed_7 : decode cX12_timed 7 = .ok (.iaload, 1) := by decide +kernel
theorem dX12_timed_8 : decode cX12_timed 8 = .ok (.iload_n 1, 1) := by decide +kernel
theorem dX12_timed_9 : decode cX12_timed 9 = .ok (.iconst 1, 1) := by decide +kernel
theorem dX12_timed_10 : decode cX12_timed 10 = .ok (.iadd, 1) := by decide +kernel
theorem dX12_timed_11 : decode cX12_timed 11 = .ok (.if_icmp .eq 9, 3) := by decide +kernel
theorem dX12_timed_14 : decode cX12_timed 14 = .ok (.iinc 2 1, 3) := by decide +kernel
theorem dX12_timed_17 : decode cX12_timed 17 = .ok (.goto (-15), 3) := by decide +kernel
theorem dX12_timed_20 : decode cX12_timed 20 = .ok (.aload_n 0, 1) := by decide +kernel
theorem dX12_timed_21 : decode cX12_timed 21 = .ok (.getfield 81, 3) := by decide +kernel
theorem dX12_timed_24 : decode cX12_timed 24 = .ok (.iload_n 2, 1) := by decide +kernel
theorem dX12_timed_25 : decode cX12_timed 25 = .ok (.iaload, 1) := by decide +kernel
theorem dX12_timed_26 : decode cX12_timed 26 = .ok (.ireturn, 1) := by decide +kernel
theorem dX12_restAt_0 : decode cX12_restAt 0 = .ok (.aload_n 0, 1) := by decide +kernel
theorem dX12_restAt_1 : decode cX12_restAt 1 = .ok (.iload_n 2, 1) := by decide +kernel
theorem dX12_restAt_2 : decode cX12_restAt 2 = .ok (.invokevirtual 307, 3) := by decide +kernel
theorem dX12_restAt_5 : decode cX12_restAt 5 = .ok (.istore_n 3, 1) := by decide +kernel
theorem dX12_restAt_6 : decode cX12_restAt 6 = .ok (.iconst 0, 1) := by decide +kernel
theorem dX12_restAt_7 : decode cX12_restAt 7 = .ok (.istore 4, 2) := by decide +kernel
theorem dX12_restAt_9 : decode cX12_restAt 9 = .ok (.aload_n 0, 1) := by decide +kernel
theorem dX12_restAt_10 : decode cX12_restAt 10 = .ok (.getfield 81, 3) := by decide +kernel
theorem dX12_restAt_13 : decode cX12_restAt 13 = .ok (.aload_n 0, 1) := by decide +kernel
theorem dX12_restAt_14 : decode cX12_restAt 14 = .ok (.getfield 208, 3) := by decide +kernel
theorem dX12_restAt_17 : decode cX12_restAt 17 = .ok (.iaload, 1) := by decide +kernel
theorem dX12_restAt_18 : decode cX12_restAt 18 = .ok (.istore 5, 2) := by decide +kernel
theorem dX12_restAt_20 : decode cX12_restAt 20 = .ok (.aload_n 0, 1) := by decide +kernel
theorem dX12_restAt_21 : decode cX12_restAt 21 = .ok (.getfield 84, 3) := by decide +kernel
theorem dX12_restAt_24 : decode cX12_restAt 24 = .ok (.iload_n 1, 1) := by decide +kernel
theorem dX12_restAt_25 : decode cX12_restAt 25 = .ok (.iaload, 1) := by decide +kernel
theorem dX12_restAt_26 : decode cX12_restAt 26 = .ok (.iconst 1, 1) := by decide +kernel
theorem dX12_restAt_27 : decode cX12_restAt 27 = .ok (.isub, 1) := by decide +kernel
theorem dX12_restAt_28 : decode cX12_restAt 28 = .ok (.istore 6, 2) := by decide +kernel
theorem dX12_restAt_30 : decode cX12_restAt 30 = .ok (.iload 6, 2) := by decide +kernel
theorem dX12_restAt_32 : decode cX12_restAt 32 = .ok (.ifCond .lt 46, 3) := by decide +kernel
theorem dX12_restAt_35 : decode cX12_restAt 35 = .ok (.aload_n 0, 1) := by decide +kernel
theorem dX12_restAt_36 : decode cX12_restAt 36 = .ok (.getfield 87, 3) := by decide +kernel
theorem dX12_restAt_39 : decode cX12_restAt 39 = .ok (.sipush 768, 3) := by decide +kernel
theorem dX12_restAt_42 : decode cX12_restAt 42 = .ok (.iload_n 1, 1) := by decide +kernel
theorem dX12_restAt_43 : decode cX12_restAt 43 = .ok (.imul, 1) := by decide +kernel
theorem dX12_restAt_44 : decode cX12_restAt 44 = .ok (.iload 6, 2) := by decide +kernel
theorem dX12_restAt_46 : decode cX12_restAt 46 = .ok (.iadd, 1) := by decide +kernel
theorem dX12_restAt_47 : decode cX12_restAt 47 = .ok (.iaload, 1) := by decide +kernel
theorem dX12_restAt_48 : decode cX12_restAt 48 = .ok (.iload_n 3, 1) := by decide +kernel
theorem dX12_restAt_49 : decode cX12_restAt 49 = .ok (.if_icmp .lt 19, 3) := by decide +kernel
theorem dX12_restAt_52 : decode cX12_restAt 52 = .ok (.aload_n 0, 1) := by decide +kernel
theorem dX12_restAt_53 : decode cX12_restAt 53 = .ok (.getfield 87, 3) := by decide +kernel
theorem dX12_restAt_56 : decode cX12_restAt 56 = .ok (.sipush 768, 3) := by decide +kernel
theorem dX12_restAt_59 : decode cX12_restAt 59 = .ok (.iload_n 1, 1) := by decide +kernel
theorem dX12_restAt_60 : decode cX12_restAt 60 = .ok (.imul, 1) := by decide +kernel
theorem dX12_restAt_61 : decode cX12_restAt 61 = .ok (.iload 6, 2) := by decide +kernel
theorem dX12_restAt_63 : decode cX12_restAt 63 = .ok (.iadd, 1) := by decide +kernel
theorem dX12_restAt_64 : decode cX12_restAt 64 = .ok (.iaload, 1) := by decide +kernel
theorem dX12_restAt_65 : decode cX12_restAt 65 = .ok (.goto 5, 3) := by decide +kernel
theorem dX12_restAt_68 : decode cX12_restAt 68 = .ok (.iload 5, 2) := by decide +kernel
theorem dX12_restAt_70 : decode cX12_restAt 70 = .ok (.istore 5, 2) := by decide +kernel
theorem dX12_restAt_72 : decode cX12_restAt 72 = .ok (.iinc 6 (-1), 3) := by decide +kernel
theorem dX12_restAt_75 : decode cX12_restAt 75 = .ok (.goto (-45), 3) := by decide +kernel
theorem dX12_restAt_78 : decode cX12_restAt 78 = .ok (.iconst 0, 1) := by decide +kernel
theorem dX12_restAt_79 : decode cX12_restAt 79 = .ok (.istore 6, 2) := by decide +kernel
theorem dX12_restAt_81 : decode cX12_restAt 81 = .ok (.iload 6, 2) := by decide +kernel
theorem dX12_restAt_83 : decode cX12_restAt 83 = .ok (.aload_n 0, 1) := by decide +kernel
theorem dX12_restAt_84 : decode cX12_restAt 84 = .ok (.getfield 84, 3) := by decide +kernel
theorem dX12_restAt_87 : decode cX12_restAt 87 = .ok (.iload_n 1, 1) := by decide +kernel
theorem dX12_restAt_88 : decode cX12_restAt 88 = .ok (.iaload, 1) := by decide +kernel
theorem dX12_restAt_89 : decode cX12_restAt 89 = .ok (.if_icmp .ge 46, 3) := by decide +kernel
theorem dX12_restAt_92 : decode cX12_restAt 92 = .ok (.aload_n 0, 1) := by decide +kernel
theorem dX12_restAt_93 : decode cX12_restAt 93 = .ok (.getfield 87, 3) := by decide +kernel
theorem dX12_restAt_96 : decode cX12_restAt 96 = .ok (.sipush 768, 3) := by decide +kernel
theorem dX12_restAt_99 : decode cX12_restAt 99 = .ok (.iload_n 1, 1) := by decide +kernel
theorem dX12_restAt_100 : decode cX12_restAt 100 = .ok (.imul, 1) := by decide +kernel
theorem dX12_restAt_101 : decode cX12_restAt 101 = .ok (.iload 6, 2) := by decide +kernel
theorem dX12_restAt_103 : decode cX12_restAt 103 = .ok (.iadd, 1) := by decide +kernel
theorem dX12_restAt_104 : decode cX12_restAt 104 = .ok (.iaload, 1) := by decide +kernel
theorem dX12_restAt_105 : decode cX12_restAt 105 = .ok (.iload_n 3, 1) := by decide +kernel
theorem dX12_restAt_106 : decode cX12_restAt 106 = .ok (.if_icmp .ge 19, 3) := by decide +kernel
theorem dX12_restAt_109 : decode cX12_restAt 109 = .ok (.aload_n 0, 1) := by decide +kernel
theorem dX12_restAt_110 : decode cX12_restAt 110 = .ok (.getfield 90, 3) := by decide +kernel
theorem dX12_restAt_113 : decode cX12_restAt 113 = .ok (.sipush 768, 3) := by decide +kernel
theorem dX12_restAt_116 : decode cX12_restAt 116 = .ok (.iload_n 1, 1) := by decide +kernel
theorem dX12_restAt_117 : decode cX12_restAt 117 = .ok (.imul, 1) := by decide +kernel
theorem dX12_restAt_118 : decode cX12_restAt 118 = .ok (.iload 6, 2) := by decide +kernel
theorem dX12_restAt_120 : decode cX12_restAt 120 = .ok (.iadd, 1) := by decide +kernel
theorem dX12_restAt_121 : decode cX12_restAt 121 = .ok (.iaload, 1) := by decide +kernel
theorem dX12_restAt_122 : decode cX12_restAt 122 = .ok (.goto 5, 3) := by decide +kernel
theorem dX12_restAt_125 : decode cX12_restAt 125 = .ok (.iload 4, 2) := by decide +kernel
theorem dX12_restAt_127 : decode cX12_restAt 127 = .ok (.istore 4, 2) := by decide +kernel
theorem dX12_restAt_129 : decode cX12_restAt 129 = .ok (.iinc 6 1, 3) := by decide +kernel
theorem dX12_restAt_132 : decode cX12_restAt 132 = .ok (.goto (-51), 3) := by decide +kernel
theorem dX12_restAt_135 : decode cX12_restAt 135 = .ok (.iload 4, 2) := by decide +kernel
theorem dX12_restAt_137 : decode cX12_restAt 137 = .ok (.iload_n 3, 1) := by decide +kernel
theorem dX12_restAt_138 : decode cX12_restAt 138 = .ok (.if_icmp .le 7, 3) := by decide +kernel
theorem dX12_restAt_141 : decode cX12_restAt 141 = .ok (.iconst 0, 1) := by decide +kernel
theorem dX12_restAt_142 : decode cX12_restAt 142 = .ok (.goto 8, 3) := by decide +kernel
theorem dX12_restAt_145 : decode cX12_restAt 145 = .ok (.iload 5, 2) := by decide +kernel
theorem dX12_restAt_147 : decode cX12_restAt 147 = .ok (.iload 4, 2) := by decide +kernel
theorem dX12_restAt_149 : decode cX12_restAt 149 = .ok (.isub, 1) := by decide +kernel
theorem dX12_restAt_150 : decode cX12_restAt 150 = .ok (.ireturn, 1) := by decide +kernel
theorem dX12_isInPhrase_0 : decode cX12_isInPhrase 0 = .ok (.iconst 0, 1) := by decide +kernel
theorem dX12_isInPhrase_1 : decode cX12_isInPhrase 1 = .ok (.istore_n 3, 1) := by decide +kernel
theorem dX12_isInPhrase_2 : decode cX12_isInPhrase 2 = .ok (.iconst 0, 1) := by decide +kernel
theorem dX12_isInPhrase_3 : decode cX12_isInPhrase 3 = .ok (.istore 4, 2) := by decide +kernel
theorem dX12_isInPhrase_5 : decode cX12_isInPhrase 5 = .ok (.iload 4, 2) := by decide +kernel
theorem dX12_isInPhrase_7 : decode cX12_isInPhrase 7 = .ok (.aload_n 0, 1) := by decide +kernel
theorem dX12_isInPhrase_8 : decode cX12_isInPhrase 8 = .ok (.getfield 181, 3) := by decide +kernel
theorem dX12_isInPhrase_11 : decode cX12_isInPhrase 11 = .ok (.if_icmp .ge 62, 3) := by decide +kernel
theorem dX12_isInPhrase_14 : decode cX12_isInPhrase 14 = .ok (.iload_n 3, 1) := by decide +kernel
theorem dX12_isInPhrase_15 : decode cX12_isInPhrase 15 = .ok (.ifCond .ne 46, 3) := by decide +kernel
theorem dX12_isInPhrase_18 : decode cX12_isInPhrase 18 = .ok (.aload_n 0, 1) := by decide +kernel
theorem dX12_isInPhrase_19 : decode cX12_isInPhrase 19 = .ok (.getfield 65, 3) := by decide +kernel
theorem dX12_isInPhrase_22 : decode cX12_isInPhrase 22 = .ok (.iload 4, 2) := by decide +kernel
theorem dX12_isInPhrase_24 : decode cX12_isInPhrase 24 = .ok (.baload, 1) := by decide +kernel
theorem dX12_isInPhrase_25 : decode cX12_isInPhrase 25 = .ok (.ifCond .ne 40, 3) := by decide +kernel
theorem dX12_isInPhrase_28 : decode cX12_isInPhrase 28 = .ok (.aload_n 0, 1) := by decide +kernel
theorem dX12_isInPhrase_29 : decode cX12_isInPhrase 29 = .ok (.getfield 50, 3) := by decide +kernel
theorem dX12_isInPhrase_32 : decode cX12_isInPhrase 32 = .ok (.iload 4, 2) := by decide +kernel
theorem dX12_isInPhrase_34 : decode cX12_isInPhrase 34 = .ok (.iaload, 1) := by decide +kernel
theorem dX12_isInPhrase_35 : decode cX12_isInPhrase 35 = .ok (.iload_n 1, 1) := by decide +kernel
theorem dX12_isInPhrase_36 : decode cX12_isInPhrase 36 = .ok (.if_icmp .ne 29, 3) := by decide +kernel
theorem dX12_isInPhrase_39 : decode cX12_isInPhrase 39 = .ok (.aload_n 0, 1) := by decide +kernel
theorem dX12_isInPhrase_40 : decode cX12_isInPhrase 40 = .ok (.getfield 53, 3) := by decide +kernel
theorem dX12_isInPhrase_43 : decode cX12_isInPhrase 43 = .ok (.iload 4, 2) := by decide +kernel
theorem dX12_isInPhrase_45 : decode cX12_isInPhrase 45 = .ok (.iaload, 1) := by decide +kernel
theorem dX12_isInPhrase_46 : decode cX12_isInPhrase 46 = .ok (.iload_n 2, 1) := by decide +kernel
theorem dX12_isInPhrase_47 : decode cX12_isInPhrase 47 = .ok (.if_icmp .gt 18, 3) := by decide +kernel
theorem dX12_isInPhrase_50 : decode cX12_isInPhrase 50 = .ok (.aload_n 0, 1) := by decide +kernel
theorem dX12_isInPhrase_51 : decode cX12_isInPhrase 51 = .ok (.getfield 59, 3) := by decide +kernel
theorem dX12_isInPhrase_54 : decode cX12_isInPhrase 54 = .ok (.iload 4, 2) := by decide +kernel
theorem dX12_isInPhrase_56 : decode cX12_isInPhrase 56 = .ok (.iaload, 1) := by decide +kernel
theorem dX12_isInPhrase_57 : decode cX12_isInPhrase 57 = .ok (.iload_n 2, 1) := by decide +kernel
theorem dX12_isInPhrase_58 : decode cX12_isInPhrase 58 = .ok (.if_icmp .le 7, 3) := by decide +kernel
theorem dX12_isInPhrase_61 : decode cX12_isInPhrase 61 = .ok (.iconst 1, 1) := by decide +kernel
theorem dX12_isInPhrase_62 : decode cX12_isInPhrase 62 = .ok (.goto 4, 3) := by decide +kernel
theorem dX12_isInPhrase_65 : decode cX12_isInPhrase 65 = .ok (.iconst 0, 1) := by decide +kernel
theorem dX12_isInPhrase_66 : decode cX12_isInPhrase 66 = .ok (.istore_n 3, 1) := by decide +kernel
theorem dX12_isInPhrase_67 : decode cX12_isInPhrase 67 = .ok (.iinc 4 1, 3) := by decide +kernel
theorem dX12_isInPhrase_70 : decode cX12_isInPhrase 70 = .ok (.goto (-65), 3) := by decide +kernel
theorem dX12_isInPhrase_73 : decode cX12_isInPhrase 73 = .ok (.iload_n 3, 1) := by decide +kernel
theorem dX12_isInPhrase_74 : decode cX12_isInPhrase 74 = .ok (.ifCond .eq 20, 3) := by decide +kernel
theorem dX12_isInPhrase_77 : decode cX12_isInPhrase 77 = .ok (.aload_n 0, 1) := by decide +kernel
theorem dX12_isInPhrase_78 : decode cX12_isInPhrase 78 = .ok (.getfield 28, 3) := by decide +kernel
theorem dX12_isInPhrase_81 : decode cX12_isInPhrase 81 = .ok (.iload_n 1, 1) := by decide +kernel
theorem dX12_isInPhrase_82 : decode cX12_isInPhrase 82 = .ok (.iload_n 2, 1) := by decide +kernel
theorem dX12_isInPhrase_83 : decode cX12_isInPhrase 83 = .ok (.invokestatic 139, 3) := by decide +kernel
theorem dX12_isInPhrase_86 : decode cX12_isInPhrase 86 = .ok (.baload, 1) := by decide +kernel
theorem dX12_isInPhrase_87 : decode cX12_isInPhrase 87 = .ok (.ifCond .ne 7, 3) := by decide +kernel
theorem dX12_isInPhrase_90 : decode cX12_isInPhrase 90 = .ok (.iconst 1, 1) := by decide +kernel
theorem dX12_isInPhrase_91 : decode cX12_isInPhrase 91 = .ok (.goto 4, 3) := by decide +kernel
theorem dX12_isInPhrase_94 : decode cX12_isInPhrase 94 = .ok (.iconst 0, 1) := by decide +kernel
theorem dX12_isInPhrase_95 : decode cX12_isInPhrase 95 = .ok (.ireturn, 1) := by decide +kernel
theorem dX12_bestOf_0 : decode cX12_bestOf 0 = .ok (.aload_n 0, 1) := by decide +kernel
theorem dX12_bestOf_1 : decode cX12_bestOf 1 = .ok (.getfield 123, 3) := by decide +kernel
theorem dX12_bestOf_4 : decode cX12_bestOf 4 = .ok (.iconst 4, 1) := by decide +kernel
theorem dX12_bestOf_5 : decode cX12_bestOf 5 = .ok (.iload_n 1, 1) := by decide +kernel
theorem dX12_bestOf_6 : decode cX12_bestOf 6 = .ok (.imul, 1) := by decide +kernel
theorem dX12_bestOf_7 : decode cX12_bestOf 7 = .ok (.iconst 2, 1) := by decide +kernel
theorem dX12_bestOf_8 : decode cX12_bestOf 8 = .ok (.iload_n 2, 1) := by decide +kernel
theorem dX12_bestOf_9 : decode cX12_bestOf 9 = .ok (.imul, 1) := by decide +kernel
theorem dX12_bestOf_10 : decode cX12_bestOf 10 = .ok (.iadd, 1) := by decide +kernel
theorem dX12_bestOf_11 : decode cX12_bestOf 11 = .ok (.iload_n 3, 1) := by decide +kernel
theorem dX12_bestOf_12 : decode cX12_bestOf 12 = .ok (.iadd, 1) := by decide +kernel
theorem dX12_bestOf_13 : decode cX12_bestOf 13 = .ok (.iaload, 1) := by decide +kernel
theorem dX12_bestOf_14 : decode cX12_bestOf 14 = .ok (.ireturn, 1) := by decide +kernel
theorem dX12_withLines_0 : decode cX12_withLines 0 = .ok (.iload_n 1, 1) := by decide +kernel
theorem dX12_withLines_1 : decode cX12_withLines 1 = .ok (.iload_n 3, 1) := by decide +kernel
theorem dX12_withLines_2 : decode cX12_withLines 2 = .ok (.iadd, 1) := by decide +kernel
theorem dX12_withLines_3 : decode cX12_withLines 3 = .ok (.istore 4, 2) := by decide +kernel
theorem dX12_withLines_5 : decode cX12_withLines 5 = .ok (.aload_n 0, 1) := by decide +kernel
theorem dX12_withLines_6 : decode cX12_withLines 6 = .ok (.getfield 72, 3) := by decide +kernel
theorem dX12_withLines_9 : decode cX12_withLines 9 = .ok (.iload_n 3, 1) := by decide +kernel
theorem dX12_withLines_10 : decode cX12_withLines 10 = .ok (.isub, 1) := by decide +kernel
theorem dX12_withLines_11 : decode cX12_withLines 11 = .ok (.istore 5, 2) := by decide +kernel
theorem dX12_withLines_13 : decode cX12_withLines 13 = .ok (.iload 4, 2) := by decide +kernel
theorem dX12_withLines_15 : decode cX12_withLines 15 = .ok (.aload_n 0, 1) := by decide +kernel
theorem dX12_withLines_16 : decode cX12_withLines 16 = .ok (.getfield 298, 3) := by decide +kernel
theorem dX12_withLines_19 : decode cX12_withLines 19 = .ok (.if_icmp .ne 7, 3) := by decide +kernel
theorem dX12_withLines_22 : decode cX12_withLines 22 = .ok (.iconst 1, 1) := by decide +kernel
theorem dX12_withLines_23 : decode cX12_withLines 23 = .ok (.goto 43, 3) := by decide +kernel
theorem dX12_withLines_26 : decode cX12_withLines 26 = .ok (.bipush 64, 2) := by decide +kernel
theorem dX12_withLines_28 : decode cX12_withLines 28 = .ok (.bipush 100, 2) := by decide +kernel
theorem dX12_withLines_30 : decode cX12_withLines 30 = .ok (.iload 5, 2) := by decide +kernel
theorem dX12_withLines_32 : decode cX12_withLines 32 = .ok (.imul, 1) := by decide +kernel
theorem dX12_withLines_33 : decode cX12_withLines 33 = .ok (.iload 5, 2) := by decide +kernel
theorem dX12_withLines_35 : decode cX12_withLines 35 = .ok (.imul, 1) := by decide +kernel
theorem dX12_withLines_36 : decode cX12_withLines 36 = .ok (.iload_n 2, 1) := by decide +kernel
theorem dX12_withLines_37 : decode cX12_withLines 37 = .ok (.ifCond .ne 13, 3) := by decide +kernel
theorem dX12_withLines_40 : decode cX12_withLines 40 = .ok (.aload_n 0, 1) := by decide +kernel
theorem dX12_withLines_41 : decode cX12_withLines 41 = .ok (.getfield 126, 3) := by decide +kernel
theorem dX12_withLines_44 : decode cX12_withLines 44 = .ok (.iload 4, 2) := by decide +kernel
theorem dX12_withLines_46 : decode cX12_withLines 46 = .ok (.iaload, 1) := by decide +kernel
theorem dX12_withLines_47 : decode cX12_withLines 47 = .ok (.goto 4, 3) := by decide +kernel
theorem dX12_withLines_50 : decode cX12_withLines 50 = .ok (.iconst 0, 1) := by decide +kernel
theorem dX12_withLines_51 : decode cX12_withLines 51 = .ok (.iadd, 1) := by decide +kernel
theorem dX12_withLines_52 : decode cX12_withLines 52 = .ok (.imul, 1) := by decide +kernel
theorem dX12_withLines_53 : decode cX12_withLines 53 = .ok (.iconst 1, 1) := by decide +kernel
theorem dX12_withLines_54 : decode cX12_withLines 54 = .ok (.iadd, 1) := by decide +kernel
theorem dX12_withLines_55 : decode cX12_withLines 55 = .ok (.aload_n 0, 1) := by decide +kernel
theorem dX12_withLines_56 : decode cX12_withLines 56 = .ok (.iload 4, 2) := by decide +kernel
theorem dX12_withLines_58 : decode cX12_withLines 58 = .ok (.iconst 1, 1) := by decide +kernel
theorem dX12_withLines_59 : decode cX12_withLines 59 = .ok (.iload_n 2, 1) := by decide +kernel
theorem dX12_withLines_60 : decode cX12_withLines 60 = .ok (.isub, 1) := by decide +kernel
theorem dX12_withLines_61 : decode cX12_withLines 61 = .ok (.iconst 0, 1) := by decide +kernel
theorem dX12_withLines_62 : decode cX12_withLines 62 = .ok (.invokevirtual 310, 3) := by decide +kernel
theorem dX12_withLines_65 : decode cX12_withLines 65 = .ok (.iadd, 1) := by decide +kernel
theorem dX12_withLines_66 : decode cX12_withLines 66 = .ok (.ireturn, 1) := by decide +kernel
theorem dX12_withBlank_0 : decode cX12_withBlank 0 = .ok (.bipush 64, 2) := by decide +kernel
theorem dX12_withBlank_2 : decode cX12_withBlank 2 = .ok (.sipush 3000, 3) := by decide +kernel
theorem dX12_withBlank_5 : decode cX12_withBlank 5 = .ok (.iload_n 1, 1) := by decide +kernel
theorem dX12_withBlank_6 : decode cX12_withBlank 6 = .ok (.ifCond .le 16, 3) := by decide +kernel
theorem dX12_withBlank_9 : decode cX12_withBlank 9 = .ok (.iload_n 2, 1) := by decide +kernel
theorem dX12_withBlank_10 : decode cX12_withBlank 10 = .ok (.ifCond .ne 12, 3) := by decide +kernel
theorem dX12_withBlank_13 : decode cX12_withBlank 13 = .ok (.aload_n 0, 1) := by decide +kernel
theorem dX12_withBlank_14 : decode cX12_withBlank 14 = .ok (.getfield 126, 3) := by decide +kernel
theorem dX12_withBlank_17 : decode cX12_withBlank 17 = .ok (.iload_n 1, 1) := by decide +kernel
theorem dX12_withBlank_18 : decode cX12_withBlank 18 = .ok (.iaload, 1) := by decide +kernel
theorem dX12_withBlank_19 : decode cX12_withBlank 19 = .ok (.goto 4, 3) := by decide +kernel
theorem dX12_withBlank_22 : decode cX12_withBlank 22 = .ok (.iconst 0, 1) := by decide +kernel
theorem dX12_withBlank_23 : decode cX12_withBlank 23 = .ok (.iadd, 1) := by decide +kernel
theorem dX12_withBlank_24 : decode cX12_withBlank 24 = .ok (.imul, 1) := by decide +kernel
theorem dX12_withBlank_25 : decode cX12_withBlank 25 = .ok (.iconst 1, 1) := by decide +kernel
theorem dX12_withBlank_26 : decode cX12_withBlank 26 = .ok (.iadd, 1) := by decide +kernel
theorem dX12_withBlank_27 : decode cX12_withBlank 27 = .ok (.aload_n 0, 1) := by decide +kernel
theorem dX12_withBlank_28 : decode cX12_withBlank 28 = .ok (.iload_n 1, 1) := by decide +kernel
theorem dX12_withBlank_29 : decode cX12_withBlank 29 = .ok (.iconst 1, 1) := by decide +kernel
theorem dX12_withBlank_30 : decode cX12_withBlank 30 = .ok (.iload_n 2, 1) := by decide +kernel
theorem dX12_withBlank_31 : decode cX12_withBlank 31 = .ok (.isub, 1) := by decide +kernel
theorem dX12_withBlank_32 : decode cX12_withBlank 32 = .ok (.iconst 1, 1) := by decide +kernel
theorem dX12_withBlank_33 : decode cX12_withBlank 33 = .ok (.invokevirtual 310, 3) := by decide +kernel
theorem dX12_withBlank_36 : decode cX12_withBlank 36 = .ok (.iadd, 1) := by decide +kernel
theorem dX12_withBlank_37 : decode cX12_withBlank 37 = .ok (.ireturn, 1) := by decide +kernel
theorem dX12_weighsPages_0 : decode cX12_weighsPages 0 = .ok (.aload_n 0, 1) := by decide +kernel
theorem dX12_weighsPages_1 : decode cX12_weighsPages 1 = .ok (.getfield 298, 3) := by decide +kernel
theorem dX12_weighsPages_4 : decode cX12_weighsPages 4 = .ok (.iconst 1, 1) := by decide +kernel
theorem dX12_weighsPages_5 : decode cX12_weighsPages 5 = .ok (.isub, 1) := by decide +kernel
theorem dX12_weighsPages_6 : decode cX12_weighsPages 6 = .ok (.istore_n 1, 1) := by decide +kernel
theorem dX12_weighsPages_7 : decode cX12_weighsPages 7 = .ok (.iload_n 1, 1) := by decide +kernel
theorem dX12_weighsPages_8 : decode cX12_weighsPages 8 = .ok (.ifCond .lt 123, 3) := by decide +kernel
theorem dX12_weighsPages_11 : decode cX12_weighsPages 11 = .ok (.iconst 1, 1) := by decide +kernel
theorem dX12_weighsPages_12 : decode cX12_weighsPages 12 = .ok (.istore_n 2, 1) := by decide +kernel
theorem dX12_weighsPages_13 : decode cX12_weighsPages 13 = .ok (.iload_n 2, 1) := by decide +kernel
theorem dX12_weighsPages_14 : decode cX12_weighsPages 14 = .ok (.ifCond .lt 111, 3) := by decide +kernel
theorem dX12_weighsPages_17 : decode cX12_weighsPages 17 = .ok (.iconst 0, 1) := by decide +kernel
theorem dX12_weighsPages_18 : decode cX12_weighsPages 18 = .ok (.istore_n 3, 1) := by decide +kernel
theorem dX12_weighsPages_19 : decode cX12_weighsPages 19 = .ok (.iload_n 3, 1) := by decide +kernel
theorem dX12_weighsPages_20 : decode cX12_weighsPages 20 = .ok (.iconst 2, 1) := by decide +kernel
theorem dX12_weighsPages_21 : decode cX12_weighsPages 21 = .ok (.if_icmp .ge 98, 3) := by decide +kernel
theorem dX12_weighsPages_24 : decode cX12_weighsPages 24 = .ok (.iload_n 2, 1) := by decide +kernel
theorem dX12_weighsPages_25 : decode cX12_weighsPages 25 = .ok (.ifCond .ne 12, 3) := by decide +kernel
theorem dX12_weighsPages_28 : decode cX12_weighsPages 28 = .ok (.aload_n 0, 1) := by decide +kernel
theorem dX12_weighsPages_29 : decode cX12_weighsPages 29 = .ok (.iload_n 1, 1) := by decide +kernel
theorem dX12_weighsPages_30 : decode cX12_weighsPages 30 = .ok (.iload_n 3, 1) := by decide +kernel
theorem dX12_weighsPages_31 : decode cX12_weighsPages 31 = .ok (.invokevirtual 313, 3) := by decide +kernel
theorem dX12_weighsPages_34 : decode cX12_weighsPages 34 = .ok (.goto 6, 3) := by decide +kernel
theorem dX12_weighsPages_37 : decode cX12_weighsPages 37 = .ok (.ldc_w 316, 3) := by decide +kernel
theorem dX12_weighsPages_40 : decode cX12_weighsPages 40 = .ok (.istore 4, 2) := by decide +kernel
theorem dX12_weighsPages_42 : decode cX12_weighsPages 42 = .ok (.iconst 1, 1) := by decide +kernel
theorem dX12_weighsPages_43 : decode cX12_weighsPages 43 = .ok (.istore 5, 2) := by decide +kernel
theorem dX12_weighsPages_45 : decode cX12_weighsPages 45 = .ok (.iload 5, 2) := by decide +kernel
theorem dX12_weighsPages_47 : decode cX12_weighsPages 47 = .ok (.aload_n 0, 1) := by decide +kernel
theorem dX12_weighsPages_48 : decode cX12_weighsPages 48 = .ok (.getfield 72, 3) := by decide +kernel
theorem dX12_weighsPages_51 : decode cX12_weighsPages 51 = .ok (.if_icmp .gt 46, 3) := by decide +kernel
theorem dX12_weighsPages_54 : decode cX12_weighsPages 54 = .ok (.iload_n 1, 1) := by decide +kernel
theorem dX12_weighsPages_55 : decode cX12_weighsPages 55 = .ok (.iload 5, 2) := by decide +kernel
theorem dX12_weighsPages_57 : decode cX12_weighsPages 57 = .ok (.iadd, 1) := by decide +kernel
theorem dX12_weighsPages_58 : decode cX12_weighsPages 58 = .ok (.aload_n 0, 1) := by decide +kernel
theorem dX12_weighsPages_59 : decode cX12_weighsPages 59 = .ok (.getfield 298, 3) := by decide +kernel
theorem dX12_weighsPages_62 : decode cX12_weighsPages 62 = .ok (.if_icmp .gt 35, 3) := by decide +kernel
theorem dX12_weighsPages_65 : decode cX12_weighsPages 65 = .ok (.aload_n 0, 1) := by decide +kernel
theorem dX12_weighsPages_66 : decode cX12_weighsPages 66 = .ok (.iload_n 1, 1) := by decide +kernel
theorem dX12_weighsPages_67 : decode cX12_weighsPages 67 = .ok (.iload_n 3, 1) := by decide +kernel
theorem dX12_weighsPages_68 : decode cX12_weighsPages 68 = .ok (.iload 5, 2) := by decide +kernel
theorem dX12_weighsPages_70 : decode cX12_weighsPages 70 = .ok (.invokevirtual 317, 3) := by decide +kernel
theorem dX12_weighsPages_73 : decode cX12_weighsPages 73 = .ok (.istore 6, 2) := by decide +kernel
theorem dX12_weighsPages_75 : decode cX12_weighsPages 75 = .ok (.iload 6, 2) := by decide +kernel
theorem dX12_weighsPages_77 : decode cX12_weighsPages 77 = .ok (.iload 4, 2) := by decide +kernel
theorem dX12_weighsPages_79 : decode cX12_weighsPages 79 = .ok (.if_icmp .ge 8, 3) := by decide +kernel
theorem dX12_weighsPages_82 : decode cX12_weighsPages 82 = .ok (.iload 6, 2) := by decide +kernel
theorem dX12_weighsPages_84 : decode cX12_weighsPages 84 = .ok (.goto 5, 3) := by decide +kernel
theorem dX12_weighsPages_87 : decode cX12_weighsPages 87 = .ok (.iload 4, 2) := by decide +kernel
theorem dX12_weighsPages_89 : decode cX12_weighsPages 89 = .ok (.istore 4, 2) := by decide +kernel
theorem dX12_weighsPages_91 : decode cX12_weighsPages 91 = .ok (.iinc 5 1, 3) := by decide +kernel
theorem dX12_weighsPages_94 : decode cX12_weighsPages 94 = .ok (.goto (-49), 3) := by decide +kernel
theorem dX12_weighsPages_97 : decode cX12_weighsPages 97 = .ok (.aload_n 0, 1) := by decide +kernel
theorem dX12_weighsPages_98 : decode cX12_weighsPages 98 = .ok (.getfield 123, 3) := by decide +kernel
theorem dX12_weighsPages_101 : decode cX12_weighsPages 101 = .ok (.iconst 4, 1) := by decide +kernel
theorem dX12_weighsPages_102 : decode cX12_weighsPages 102 = .ok (.iload_n 1, 1) := by decide +kernel
theorem dX12_weighsPages_103 : decode cX12_weighsPages 103 = .ok (.imul, 1) := by decide +kernel
theorem dX12_weighsPages_104 : decode cX12_weighsPages 104 = .ok (.iconst 2, 1) := by decide +kernel
theorem dX12_weighsPages_105 : decode cX12_weighsPages 105 = .ok (.iload_n 3, 1) := by decide +kernel
theorem dX12_weighsPages_106 : decode cX12_weighsPages 106 = .ok (.imul, 1) := by decide +kernel
theorem dX12_weighsPages_107 : decode cX12_weighsPages 107 = .ok (.iadd, 1) := by decide +kernel
theorem dX12_weighsPages_108 : decode cX12_weighsPages 108 = .ok (.iload_n 2, 1) := by decide +kernel
theorem dX12_weighsPages_109 : decode cX12_weighsPages 109 = .ok (.iadd, 1) := by decide +kernel
theorem dX12_weighsPages_110 : decode cX12_weighsPages 110 = .ok (.iload 4, 2) := by decide +kernel
theorem dX12_weighsPages_112 : decode cX12_weighsPages 112 = .ok (.iastore, 1) := by decide +kernel
theorem dX12_weighsPages_113 : decode cX12_weighsPages 113 = .ok (.iinc 3 1, 3) := by decide +kernel
theorem dX12_weighsPages_116 : decode cX12_weighsPages 116 = .ok (.goto (-97), 3) := by decide +kernel
theorem dX12_weighsPages_119 : decode cX12_weighsPages 119 = .ok (.iinc 2 (-1), 3) := by decide +kernel
theorem dX12_weighsPages_122 : decode cX12_weighsPages 122 = .ok (.goto (-109), 3) := by decide +kernel
theorem dX12_weighsPages_125 : decode cX12_weighsPages 125 = .ok (.iinc 1 (-1), 3) := by decide +kernel
theorem dX12_weighsPages_128 : decode cX12_weighsPages 128 = .ok (.goto (-121), 3) := by decide +kernel
theorem dX12_weighsPages_131 : decode cX12_weighsPages 131 = .ok (.return_, 1) := by decide +kernel
theorem dX12_breaksPages_0 : decode cX12_breaksPages 0 = .ok (.aload_n 0, 1) := by decide +kernel
theorem dX12_breaksPages_1 : decode cX12_breaksPages 1 = .ok (.invokevirtual 320, 3) := by decide +kernel
theorem dX12_breaksPages_4 : decode cX12_breaksPages 4 = .ok (.aload_n 0, 1) := by decide +kernel
theorem dX12_breaksPages_5 : decode cX12_breaksPages 5 = .ok (.iconst 0, 1) := by decide +kernel
theorem dX12_breaksPages_6 : decode cX12_breaksPages 6 = .ok (.putfield 323, 3) := by decide +kernel
theorem dX12_breaksPages_9 : decode cX12_breaksPages 9 = .ok (.iconst 0, 1) := by decide +kernel
theorem dX12_breaksPages_10 : decode cX12_breaksPages 10 = .ok (.istore_n 1, 1) := by decide +kernel
theorem dX12_breaksPages_11 : decode cX12_breaksPages 11 = .ok (.iconst 0, 1) := by decide +kernel
theorem dX12_breaksPages_12 : decode cX12_breaksPages 12 = .ok (.istore_n 2, 1) := by decide +kernel
theorem dX12_breaksPages_13 : decode cX12_breaksPages 13 = .ok (.iload_n 1, 1) := by decide +kernel
theorem dX12_breaksPages_14 : decode cX12_breaksPages 14 = .ok (.aload_n 0, 1) := by decide +kernel
theorem dX12_breaksPages_15 : decode cX12_breaksPages 15 = .ok (.getfield 298, 3) := by decide +kernel
theorem dX12_breaksPages_18 : decode cX12_breaksPages 18 = .ok (.if_icmp .ge 107, 3) := by decide +kernel
theorem dX12_breaksPages_21 : decode cX12_breaksPages 21 = .ok (.aload_n 0, 1) := by decide +kernel
theorem dX12_breaksPages_22 : decode cX12_breaksPages 22 = .ok (.getfield 323, 3) := by decide +kernel
theorem dX12_breaksPages_25 : decode cX12_breaksPages 25 = .ok (.iconst 2, 1) := by decide +kernel
theorem dX12_breaksPages_26 : decode cX12_breaksPages 26 = .ok (.irem, 1) := by decide +kernel
theorem dX12_breaksPages_27 : decode cX12_breaksPages 27 = .ok (.istore_n 3, 1) := by decide +kernel
theorem dX12_breaksPages_28 : decode cX12_breaksPages 28 = .ok (.aload_n 0, 1) := by decide +kernel
theorem dX12_breaksPages_29 : decode cX12_breaksPages 29 = .ok (.getfield 72, 3) := by decide +kernel
theorem dX12_breaksPages_32 : decode cX12_breaksPages 32 = .ok (.aload_n 0, 1) := by decide +kernel
theorem dX12_breaksPages_33 : decode cX12_breaksPages 33 = .ok (.getfield 298, 3) := by decide +kernel
theorem dX12_breaksPages_36 : decode cX12_breaksPages 36 = .ok (.iload_n 1, 1) := by decide +kernel
theorem dX12_breaksPages_37 : decode cX12_breaksPages 37 = .ok (.isub, 1) := by decide +kernel
theorem dX12_breaksPages_38 : decode cX12_breaksPages 38 = .ok (.if_icmp .ge 10, 3) := by decide +kernel
theorem dX12_breaksPages_41 : decode cX12_breaksPages 41 = .ok (.aload_n 0, 1) := by decide +kernel
theorem dX12_breaksPages_42 : decode cX12_breaksPages 42 = .ok (.getfield 72, 3) := by decide +kernel
theorem dX12_breaksPages_45 : decode cX12_breaksPages 45 = .ok (.goto 9, 3) := by decide +kernel
theorem dX12_breaksPages_48 : decode cX12_breaksPages 48 = .ok (.aload_n 0, 1) := by decide +kernel
theorem dX12_breaksPages_49 : decode cX12_breaksPages 49 = .ok (.getfield 298, 3) := by decide +kernel
theorem dX12_breaksPages_52 : decode cX12_breaksPages 52 = .ok (.iload_n 1, 1) := by decide +kernel
theorem dX12_breaksPages_53 : decode cX12_breaksPages 53 = .ok (.isub, 1) := by decide +kernel
theorem dX12_breaksPages_54 : decode cX12_breaksPages 54 = .ok (.istore 4, 2) := by decide +kernel
theorem dX12_breaksPages_56 : decode cX12_breaksPages 56 = .ok (.iload 4, 2) := by decide +kernel
theorem dX12_breaksPages_58 : decode cX12_breaksPages 58 = .ok (.ifCond .le 27, 3) := by decide +kernel
theorem dX12_breaksPages_61 : decode cX12_breaksPages 61 = .ok (.aload_n 0, 1) := by decide +kernel
theorem dX12_breaksPages_62 : decode cX12_breaksPages 62 = .ok (.iload_n 1, 1) := by decide +kernel
theorem dX12_breaksPages_63 : decode cX12_breaksPages 63 = .ok (.iload_n 3, 1) := by decide +kernel
theorem dX12_breaksPages_64 : decode cX12_breaksPages 64 = .ok (.iload 4, 2) := by decide +kernel
theorem dX12_breaksPages_66 : decode cX12_breaksPages 66 = .ok (.invokevirtual 317, 3) := by decide +kernel
theorem dX12_breaksPages_69 : decode cX12_breaksPages 69 = .ok (.aload_n 0, 1) := by decide +kernel
theorem dX12_breaksPages_70 : decode cX12_breaksPages 70 = .ok (.iload_n 1, 1) := by decide +kernel
theorem dX12_breaksPages_71 : decode cX12_breaksPages 71 = .ok (.iload_n 3, 1) := by decide +kernel
theorem dX12_breaksPages_72 : decode cX12_breaksPages 72 = .ok (.iload_n 2, 1) := by decide +kernel
theorem dX12_breaksPages_73 : decode cX12_breaksPages 73 = .ok (.invokevirtual 310, 3) := by decide +kernel
theorem dX12_breaksPages_76 : decode cX12_breaksPages 76 = .ok (.if_icmp .eq 9, 3) := by decide +kernel
theorem dX12_breaksPages_79 : decode cX12_breaksPages 79 = .ok (.iinc 4 (-1), 3) := by decide +kernel
theorem dX12_breaksPages_82 : decode cX12_breaksPages 82 = .ok (.goto (-26), 3) := by decide +kernel
theorem dX12_breaksPages_85 : decode cX12_breaksPages 85 = .ok (.aload_n 0, 1) := by decide +kernel
theorem dX12_breaksPages_86 : decode cX12_breaksPages 86 = .ok (.getfield 120, 3) := by decide +kernel
theorem dX12_breaksPages_89 : decode cX12_breaksPages 89 = .ok (.aload_n 0, 1) := by decide +kernel
theorem dX12_breaksPages_90 : decode cX12_breaksPages 90 = .ok (.getfield 323, 3) := by decide +kernel
theorem dX12_breaksPages_93 : decode cX12_breaksPages 93 = .ok (.iload 4, 2) := by decide +kernel
theorem dX12_breaksPages_95 : decode cX12_breaksPages 95 = .ok (.iastore, 1) := by decide +kernel
theorem dX12_breaksPages_96 : decode cX12_breaksPages 96 = .ok (.aload_n 0, 1) := by decide +kernel
theorem dX12_breaksPages_97 : decode cX12_breaksPages 97 = .ok (.dup, 1) := by decide +kernel
theorem dX12_breaksPages_98 : decode cX12_breaksPages 98 = .ok (.getfield 323, 3) := by decide +kernel
theorem dX12_breaksPages_101 : decode cX12_breaksPages 101 = .ok (.iconst 1, 1) := by decide +kernel
theorem dX12_breaksPages_102 : decode cX12_breaksPages 102 = .ok (.iadd, 1) := by decide +kernel
theorem dX12_breaksPages_103 : decode cX12_breaksPages 103 = .ok (.putfield 323, 3) := by decide +kernel
theorem dX12_breaksPages_106 : decode cX12_breaksPages 106 = .ok (.iload_n 1, 1) := by decide +kernel
theorem dX12_breaksPages_107 : decode cX12_breaksPages 107 = .ok (.iload 4, 2) := by decide +kernel
theorem dX12_breaksPages_109 : decode cX12_breaksPages 109 = .ok (.iadd, 1) := by decide +kernel
theorem dX12_breaksPages_110 : decode cX12_breaksPages 110 = .ok (.istore_n 1, 1) := by decide +kernel
theorem dX12_breaksPages_111 : decode cX12_breaksPages 111 = .ok (.iload 4, 2) := by decide +kernel
theorem dX12_breaksPages_113 : decode cX12_breaksPages 113 = .ok (.ifCond .ne 7, 3) := by decide +kernel
theorem dX12_breaksPages_116 : decode cX12_breaksPages 116 = .ok (.iconst 1, 1) := by decide +kernel
theorem dX12_breaksPages_117 : decode cX12_breaksPages 117 = .ok (.goto 4, 3) := by decide +kernel
theorem dX12_breaksPages_120 : decode cX12_breaksPages 120 = .ok (.iconst 0, 1) := by decide +kernel
theorem dX12_breaksPages_121 : decode cX12_breaksPages 121 = .ok (.istore_n 2, 1) := by decide +kernel
theorem dX12_breaksPages_122 : decode cX12_breaksPages 122 = .ok (.goto (-109), 3) := by decide +kernel
theorem dX12_breaksPages_125 : decode cX12_breaksPages 125 = .ok (.return_, 1) := by decide +kernel
theorem dX12_isPaged_0 : decode cX12_isPaged 0 = .ok (.aload_n 0, 1) := by decide +kernel
theorem dX12_isPaged_1 : decode cX12_isPaged 1 = .ok (.iload_n 1, 1) := by decide +kernel
theorem dX12_isPaged_2 : decode cX12_isPaged 2 = .ok (.invokevirtual 304, 3) := by decide +kernel
theorem dX12_isPaged_5 : decode cX12_isPaged 5 = .ok (.istore_n 2, 1) := by decide +kernel
theorem dX12_isPaged_6 : decode cX12_isPaged 6 = .ok (.iload_n 2, 1) := by decide +kernel
theorem dX12_isPaged_7 : decode cX12_isPaged 7 = .ok (.ifCond .eq 84, 3) := by decide +kernel
theorem dX12_isPaged_10 : decode cX12_isPaged 10 = .ok (.aload_n 0, 1) := by decide +kernel
theorem dX12_isPaged_11 : decode cX12_isPaged 11 = .ok (.invokevirtual 214, 3) := by decide +kernel
theorem dX12_isPaged_14 : decode cX12_isPaged 14 = .ok (.aload_n 0, 1) := by decide +kernel
theorem dX12_isPaged_15 : decode cX12_isPaged 15 = .ok (.iload_n 1, 1) := by decide +kernel
theorem dX12_isPaged_16 : decode cX12_isPaged 16 = .ok (.invokevirtual 229, 3) := by decide +kernel
theorem dX12_isPaged_19 : decode cX12_isPaged 19 = .ok (.iconst 1, 1) := by decide +kernel
theorem dX12_isPaged_20 : decode cX12_isPaged 20 = .ok (.istore_n 3, 1) := by decide +kernel
theorem dX12_isPaged_21 : decode cX12_isPaged 21 = .ok (.iload_n 3, 1) := by decide +kernel
theorem dX12_isPaged_22 : decode cX12_isPaged 22 = .ok (.aload_n 0, 1) := by decide +kernel
theorem dX12_isPaged_23 : decode cX12_isPaged 23 = .ok (.getfield 298, 3) := by decide +kernel
theorem dX12_isPaged_26 : decode cX12_isPaged 26 = .ok (.if_icmp .ge 61, 3) := by decide +kernel
theorem dX12_isPaged_29 : decode cX12_isPaged 29 = .ok (.aload_n 0, 1) := by decide +kernel
theorem dX12_isPaged_30 : decode cX12_isPaged 30 = .ok (.iload_n 3, 1) := by decide +kernel
theorem dX12_isPaged_31 : decode cX12_isPaged 31 = .ok (.invokevirtual 326, 3) := by decide +kernel
theorem dX12_isPaged_34 : decode cX12_isPaged 34 = .ok (.istore 4, 2) := by decide +kernel
theorem dX12_isPaged_36 : decode cX12_isPaged 36 = .ok (.aload_n 0, 1) := by decide +kernel
theorem dX12_isPaged_37 : decode cX12_isPaged 37 = .ok (.getfield 126, 3) := by decide +kernel
theorem dX12_isPaged_40 : decode cX12_isPaged 40 = .ok (.iload_n 3, 1) := by decide +kernel
theorem dX12_isPaged_41 : decode cX12_isPaged 41 = .ok (.aload_n 0, 1) := by decide +kernel
theorem dX12_isPaged_42 : decode cX12_isPaged 42 = .ok (.iload_n 1, 1) := by decide +kernel
theorem dX12_isPaged_43 : decode cX12_isPaged 43 = .ok (.iload 4, 2) := by decide +kernel
theorem dX12_isPaged_45 : decode cX12_isPaged 45 = .ok (.invokevirtual 329, 3) := by decide +kernel
theorem dX12_isPaged_48 : decode cX12_isPaged 48 = .ok (.aload_n 0, 1) := by decide +kernel
theorem dX12_isPaged_49 : decode cX12_isPaged 49 = .ok (.getfield 75, 3) := by decide +kernel
theorem dX12_isPaged_52 : decode cX12_isPaged 52 = .ok (.if_icmp .ge 9, 3) := by decide +kernel
theorem dX12_isPaged_55 : decode cX12_isPaged 55 = .ok (.sipush 20000, 3) := by decide +kernel
theorem dX12_isPaged_58 : decode cX12_isPaged 58 = .ok (.goto 4, 3) := by decide +kernel
theorem dX12_isPaged_61 : decode cX12_isPaged 61 = .ok (.iconst 0, 1) := by decide +kernel
theorem dX12_isPaged_62 : decode cX12_isPaged 62 = .ok (.aload_n 0, 1) := by decide +kernel
theorem dX12_isPaged_63 : decode cX12_isPaged 63 = .ok (.iload_n 1, 1) := by decide +kernel
theorem dX12_isPaged_64 : decode cX12_isPaged 64 = .ok (.iload 4, 2) := by decide +kernel
theorem dX12_isPaged_66 : decode cX12_isPaged 66 = .ok (.invokevirtual 332, 3) := by decide +kernel
theorem dX12_isPaged_69 : decode cX12_isPaged 69 = .ok (.ifCond .eq 9, 3) := by decide +kernel
theorem dX12_isPaged_72 : decode cX12_isPaged 72 = .ok (.ldc_w 335, 3) := by decide +kernel
theorem dX12_isPaged_75 : decode cX12_isPaged 75 = .ok (.goto 4, 3) := by decide +kernel
theorem dX12_isPaged_78 : decode cX12_isPaged 78 = .ok (.iconst 0, 1) := by decide +kernel
theorem dX12_isPaged_79 : decode cX12_isPaged 79 = .ok (.iadd, 1) := by decide +kernel
theorem dX12_isPaged_80 : decode cX12_isPaged 80 = .ok (.iastore, 1) := by decide +kernel
theorem dX12_isPaged_81 : decode cX12_isPaged 81 = .ok (.iinc 3 1, 3) := by decide +kernel
theorem dX12_isPaged_84 : decode cX12_isPaged 84 = .ok (.goto (-63), 3) := by decide +kernel
theorem dX12_isPaged_87 : decode cX12_isPaged 87 = .ok (.aload_n 0, 1) := by decide +kernel
theorem dX12_isPaged_88 : decode cX12_isPaged 88 = .ok (.invokevirtual 336, 3) := by decide +kernel
theorem dX12_isPaged_91 : decode cX12_isPaged 91 = .ok (.iload_n 2, 1) := by decide +kernel
theorem dX12_isPaged_92 : decode cX12_isPaged 92 = .ok (.ireturn, 1) := by decide +kernel
theorem dX12_pages_0 : decode cX12_pages 0 = .ok (.aload_n 0, 1) := by decide +kernel
theorem dX12_pages_1 : decode cX12_pages 1 = .ok (.iload_n 1, 1) := by decide +kernel
theorem dX12_pages_2 : decode cX12_pages 2 = .ok (.invokevirtual 339, 3) := by decide +kernel
theorem dX12_pages_5 : decode cX12_pages 5 = .ok (.istore_n 2, 1) := by decide +kernel
theorem dX12_pages_6 : decode cX12_pages 6 = .ok (.aload_n 0, 1) := by decide +kernel
theorem dX12_pages_7 : decode cX12_pages 7 = .ok (.iload_n 1, 1) := by decide +kernel
theorem dX12_pages_8 : decode cX12_pages 8 = .ok (.invokestatic 184, 3) := by decide +kernel
theorem dX12_pages_11 : decode cX12_pages 11 = .ok (.iload_n 2, 1) := by decide +kernel
theorem dX12_pages_12 : decode cX12_pages 12 = .ok (.iconst 1, 1) := by decide +kernel
theorem dX12_pages_13 : decode cX12_pages 13 = .ok (.invokevirtual 165, 3) := by decide +kernel
theorem dX12_pages_16 : decode cX12_pages 16 = .ok (.ifCond .eq 10, 3) := by decide +kernel
theorem dX12_pages_19 : decode cX12_pages 19 = .ok (.aload_n 0, 1) := by decide +kernel
theorem dX12_pages_20 : decode cX12_pages 20 = .ok (.getfield 323, 3) := by decide +kernel
theorem dX12_pages_23 : decode cX12_pages 23 = .ok (.goto 4, 3) := by decide +kernel
theorem dX12_pages_26 : decode cX12_pages 26 = .ok (.iconst 0, 1) := by decide +kernel
theorem dX12_pages_27 : decode cX12_pages 27 = .ok (.ireturn, 1) := by decide +kernel
theorem dX12_pageLines_0 : decode cX12_pageLines 0 = .ok (.aload_n 0, 1) := by decide +kernel
theorem dX12_pageLines_1 : decode cX12_pageLines 1 = .ok (.iload_n 1, 1) := by decide +kernel
theorem dX12_pageLines_2 : decode cX12_pageLines 2 = .ok (.invokevirtual 339, 3) := by decide +kernel
theorem dX12_pageLines_5 : decode cX12_pageLines 5 = .ok (.istore_n 3, 1) := by decide +kernel
theorem dX12_pageLines_6 : decode cX12_pageLines 6 = .ok (.aload_n 0, 1) := by decide +kernel
theorem dX12_pageLines_7 : decode cX12_pageLines 7 = .ok (.iload_n 1, 1) := by decide +kernel
theorem dX12_pageLines_8 : decode cX12_pageLines 8 = .ok (.invokestatic 184, 3) := by decide +kernel
theorem dX12_pageLines_11 : decode cX12_pageLines 11 = .ok (.iload_n 3, 1) := by decide +kernel
theorem dX12_pageLines_12 : decode cX12_pageLines 12 = .ok (.iload_n 3, 1) := by decide +kernel
theorem dX12_pageLines_13 : decode cX12_pageLines 13 = .ok (.ifCond .eq 21, 3) := by decide +kernel
theorem dX12_pageLines_16 : decode cX12_pageLines 16 = .ok (.iload_n 2, 1) := by decide +kernel
theorem dX12_pageLines_17 : decode cX12_pageLines 17 = .ok (.iconst 0, 1) := by decide +kernel
theorem dX12_pageLines_18 : decode cX12_pageLines 18 = .ok (.aload_n 0, 1) := by decide +kernel
theorem dX12_pageLines_19 : decode cX12_pageLines 19 = .ok (.getfield 323, 3) := by decide +kernel
theorem dX12_pageLines_22 : decode cX12_pageLines 22 = .ok (.iconst 1, 1) := by decide +kernel
theorem dX12_pageLines_23 : decode cX12_pageLines 23 = .ok (.isub, 1) := by decide +kernel
theorem dX12_pageLines_24 : decode cX12_pageLines 24 = .ok (.invokestatic 135, 3) := by decide +kernel
theorem dX12_pageLines_27 : decode cX12_pageLines 27 = .ok (.ifCond .eq 7, 3) := by decide +kernel
theorem dX12_pageLines_30 : decode cX12_pageLines 30 = .ok (.iconst 1, 1) := by decide +kernel
theorem dX12_pageLines_31 : decode cX12_pageLines 31 = .ok (.goto 4, 3) := by decide +kernel
theorem dX12_pageLines_34 : decode cX12_pageLines 34 = .ok (.iconst 0, 1) := by decide +kernel
theorem dX12_pageLines_35 : decode cX12_pageLines 35 = .ok (.invokevirtual 165, 3) := by decide +kernel
theorem dX12_pageLines_38 : decode cX12_pageLines 38 = .ok (.ifCond .eq 12, 3) := by decide +kernel
theorem dX12_pageLines_41 : decode cX12_pageLines 41 = .ok (.aload_n 0, 1) := by decide +kernel
theorem dX12_pageLines_42 : decode cX12_pageLines 42 = .ok (.getfield 120, 3) := by decide +kernel
theorem dX12_pageLines_45 : decode cX12_pageLines 45 = .ok (.iload_n 2, 1) := by decide +kernel
theorem dX12_pageLines_46 : decode cX12_pageLines 46 = .ok (.iaload, 1) := by decide +kernel
theorem dX12_pageLines_47 : decode cX12_pageLines 47 = .ok (.goto 4, 3) := by decide +kernel
theorem dX12_pageLines_50 : decode cX12_pageLines 50 = .ok (.iconst 0, 1) := by decide +kernel
theorem dX12_pageLines_51 : decode cX12_pageLines 51 = .ok (.ireturn, 1) := by decide +kernel
theorem dX12_pageOf_0 : decode cX12_pageOf 0 = .ok (.aload_n 0, 1) := by decide +kernel
theorem dX12_pageOf_1 : decode cX12_pageOf 1 = .ok (.iload_n 1, 1) := by decide +kernel
theorem dX12_pageOf_2 : decode cX12_pageOf 2 = .ok (.invokevirtual 339, 3) := by decide +kernel
theorem dX12_pageOf_5 : decode cX12_pageOf 5 = .ok (.istore_n 3, 1) := by decide +kernel
theorem dX12_pageOf_6 : decode cX12_pageOf 6 = .ok (.aload_n 0, 1) := by decide +kernel
theorem dX12_pageOf_7 : decode cX12_pageOf 7 = .ok (.iload_n 1, 1) := by decide +kernel
theorem dX12_pageOf_8 : decode cX12_pageOf 8 = .ok (.invokestatic 184, 3) := by decide +kernel
theorem dX12_pageOf_11 : decode cX12_pageOf 11 = .ok (.iload_n 3, 1) := by decide +kernel
theorem dX12_pageOf_12 : decode cX12_pageOf 12 = .ok (.aload_n 0, 1) := by decide +kernel
theorem dX12_pageOf_13 : decode cX12_pageOf 13 = .ok (.iload_n 2, 1) := by decide +kernel
theorem dX12_pageOf_14 : decode cX12_pageOf 14 = .ok (.invokevirtual 143, 3) := by decide +kernel
theorem dX12_pageOf_17 : decode cX12_pageOf 17 = .ok (.invokevirtual 165, 3) := by decide +kernel
theorem dX12_pageOf_20 : decode cX12_pageOf 20 = .ok (.ifCond .ne 5, 3) := by decide +kernel
theorem dX12_pageOf_23 : decode cX12_pageOf 23 = .ok (.iconst 0, 1) := by decide +kernel
theorem dX12_pageOf_24 : decode cX12_pageOf 24 = .ok (.ireturn, 1) := by decide +kernel
theorem dX12_pageOf_25 : decode cX12_pageOf 25 = .ok (.iconst 0, 1) := by decide +kernel
theorem dX12_pageOf_26 : decode cX12_pageOf 26 = .ok (.istore 4, 2) := by decide +kernel
theorem dX12_pageOf_28 : decode cX12_pageOf 28 = .ok (.iload 4, 2) := by decide +kernel
theorem dX12_pageOf_30 : decode cX12_pageOf 30 = .ok (.iconst 1, 1) := by decide +kernel
theorem dX12_pageOf_31 : decode cX12_pageOf 31 = .ok (.iadd, 1) := by decide +kernel
theorem dX12_pageOf_32 : decode cX12_pageOf 32 = .ok (.aload_n 0, 1) := by decide +kernel
theorem dX12_pageOf_33 : decode cX12_pageOf 33 = .ok (.getfield 298, 3) := by decide +kernel
theorem dX12_pageOf_36 : decode cX12_pageOf 36 = .ok (.if_icmp .ge 27, 3) := by decide +kernel
theorem dX12_pageOf_39 : decode cX12_pageOf 39 = .ok (.aload_n 0, 1) := by decide +kernel
theorem dX12_pageOf_40 : decode cX12_pageOf 40 = .ok (.getfield 102, 3) := by decide +kernel
theorem dX12_pageOf_43 : decode cX12_pageOf 43 = .ok (.aload_n 0, 1) := by decide +kernel
theorem dX12_pageOf_44 : decode cX12_pageOf 44 = .ok (.getfield 114, 3) := by decide +kernel
theorem dX12_pageOf_47 : decode cX12_pageOf 47 = .ok (.iload 4, 2) := by decide +kernel
theorem dX12_pageOf_49 : decode cX12_pageOf 49 = .ok (.iconst 1, 1) := by decide +kernel
theorem dX12_pageOf_50 : decode cX12_pageOf 50 = .ok (.iadd, 1) := by decide +kernel
theorem dX12_pageOf_51 : decode cX12_pageOf 51 = .ok (.iaload, 1) := by decide +kernel
theorem dX12_pageOf_52 : decode cX12_pageOf 52 = .ok (.iaload, 1) := by decide +kernel
theorem dX12_pageOf_53 : decode cX12_pageOf 53 = .ok (.iload_n 2, 1) := by decide +kernel
theorem dX12_pageOf_54 : decode cX12_pageOf 54 = .ok (.if_icmp .gt 9, 3) := by decide +kernel
theorem dX12_pageOf_57 : decode cX12_pageOf 57 = .ok (.iinc 4 1, 3) := by decide +kernel
theorem dX12_pageOf_60 : decode cX12_pageOf 60 = .ok (.goto (-32), 3) := by decide +kernel
theorem dX12_pageOf_63 : decode cX12_pageOf 63 = .ok (.iconst 0, 1) := by decide +kernel
theorem dX12_pageOf_64 : decode cX12_pageOf 64 = .ok (.istore 5, 2) := by decide +kernel
theorem dX12_pageOf_66 : decode cX12_pageOf 66 = .ok (.aload_n 0, 1) := by decide +kernel
theorem dX12_pageOf_67 : decode cX12_pageOf 67 = .ok (.getfield 120, 3) := by decide +kernel
theorem dX12_pageOf_70 : decode cX12_pageOf 70 = .ok (.iconst 0, 1) := by decide +kernel
theorem dX12_pageOf_71 : decode cX12_pageOf 71 = .ok (.iaload, 1) := by decide +kernel
theorem dX12_pageOf_72 : decode cX12_pageOf 72 = .ok (.istore 6, 2) := by decide +kernel
theorem dX12_pageOf_74 : decode cX12_pageOf 74 = .ok (.iload 6, 2) := by decide +kernel
theorem dX12_pageOf_76 : decode cX12_pageOf 76 = .ok (.iload 4, 2) := by decide +kernel
theorem dX12_pageOf_78 : decode cX12_pageOf 78 = .ok (.if_icmp .gt 21, 3) := by decide +kernel
theorem dX12_pageOf_81 : decode cX12_pageOf 81 = .ok (.iinc 5 1, 3) := by decide +kernel
theorem dX12_pageOf_84 : decode cX12_pageOf 84 = .ok (.iload 6, 2) := by decide +kernel
theorem dX12_pageOf_86 : decode cX12_pageOf 86 = .ok (.aload_n 0, 1) := by decide +kernel
theorem dX12_pageOf_87 : decode cX12_pageOf 87 = .ok (.getfield 120, 3) := by decide +kernel
theorem dX12_pageOf_90 : decode cX12_pageOf 90 = .ok (.iload 5, 2) := by decide +kernel
theorem dX12_pageOf_92 : decode cX12_pageOf 92 = .ok (.iaload, 1) := by decide +kernel
theorem dX12_pageOf_93 : decode cX12_pageOf 93 = .ok (.iadd, 1) := by decide +kernel
theorem dX12_pageOf_94 : decode cX12_pageOf 94 = .ok (.istore 6, 2) := by decide +kernel
theorem dX12_pageOf_96 : decode cX12_pageOf 96 = .ok (.goto (-22), 3) := by decide +kernel
theorem dX12_pageOf_99 : decode cX12_pageOf 99 = .ok (.iload 5, 2) := by decide +kernel
theorem dX12_pageOf_101 : decode cX12_pageOf 101 = .ok (.ireturn, 1) := by decide +kernel
theorem dX12_turnsTo_0 : decode cX12_turnsTo 0 = .ok (.iconst 0, 1) := by decide +kernel
theorem dX12_turnsTo_1 : decode cX12_turnsTo 1 = .ok (.istore_n 3, 1) := by decide +kernel
theorem dX12_turnsTo_2 : decode cX12_turnsTo 2 = .ok (.iconst 0, 1) := by decide +kernel
theorem dX12_turnsTo_3 : decode cX12_turnsTo 3 = .ok (.istore 4, 2) := by decide +kernel
theorem dX12_turnsTo_5 : decode cX12_turnsTo 5 = .ok (.iconst (-1), 1) := by decide +kernel
theorem dX12_turnsTo_6 : decode cX12_turnsTo 6 = .ok (.istore 5, 2) := by decide +kernel
theorem dX12_turnsTo_8 : decode cX12_turnsTo 8 = .ok (.iconst 0, 1) := by decide +kernel
theorem dX12_turnsTo_9 : decode cX12_turnsTo 9 = .ok (.istore 6, 2) := by decide +kernel
theorem dX12_turnsTo_11 : decode cX12_turnsTo 11 = .ok (.iload 6, 2) := by decide +kernel
theorem dX12_turnsTo_13 : decode cX12_turnsTo 13 = .ok (.iconst 1, 1) := by decide +kernel
theorem dX12_turnsTo_14 : decode cX12_turnsTo 14 = .ok (.iadd, 1) := by decide +kernel
theorem dX12_turnsTo_15 : decode cX12_turnsTo 15 = .ok (.aload_n 0, 1) := by decide +kernel
theorem dX12_turnsTo_16 : decode cX12_turnsTo 16 = .ok (.getfield 323, 3) := by decide +kernel
theorem dX12_turnsTo_19 : decode cX12_turnsTo 19 = .ok (.if_icmp .ge 89, 3) := by decide +kernel
theorem dX12_turnsTo_22 : decode cX12_turnsTo 22 = .ok (.iload 4, 2) := by decide +kernel
theorem dX12_turnsTo_24 : decode cX12_turnsTo 24 = .ok (.aload_n 0, 1) := by decide +kernel
theorem dX12_turnsTo_25 : decode cX12_turnsTo 25 = .ok (.getfield 120, 3) := by decide +kernel
theorem dX12_turnsTo_28 : decode cX12_turnsTo 28 = .ok (.iload 6, 2) := by decide +kernel
theorem dX12_turnsTo_30 : decode cX12_turnsTo 30 = .ok (.iaload, 1) := by decide +kernel
theorem dX12_turnsTo_31 : decode cX12_turnsTo 31 = .ok (.iadd, 1) := by decide +kernel
theorem dX12_turnsTo_32 : decode cX12_turnsTo 32 = .ok (.istore 4, 2) := by decide +kernel
theorem dX12_turnsTo_34 : decode cX12_turnsTo 34 = .ok (.aload_n 0, 1) := by decide +kernel
theorem dX12_turnsTo_35 : decode cX12_turnsTo 35 = .ok (.getfield 120, 3) := by decide +kernel
theorem dX12_turnsTo_38 : decode cX12_turnsTo 38 = .ok (.iload 6, 2) := by decide +kernel
theorem dX12_turnsTo_40 : decode cX12_turnsTo 40 = .ok (.iaload, 1) := by decide +kernel
theorem dX12_turnsTo_41 : decode cX12_turnsTo 41 = .ok (.ifCond .le 26, 3) := by decide +kernel
theorem dX12_turnsTo_44 : decode cX12_turnsTo 44 = .ok (.iload 6, 2) := by decide +kernel
theorem dX12_turnsTo_46 : decode cX12_turnsTo 46 = .ok (.iconst 2, 1) := by decide +kernel
theorem dX12_turnsTo_47 : decode cX12_turnsTo 47 = .ok (.irem, 1) := by decide +kernel
theorem dX12_turnsTo_48 : decode cX12_turnsTo 48 = .ok (.ifCond .eq 15, 3) := by decide +kernel
theorem dX12_turnsTo_51 : decode cX12_turnsTo 51 = .ok (.aload_n 0, 1) := by decide +kernel
theorem dX12_turnsTo_52 : decode cX12_turnsTo 52 = .ok (.getfield 120, 3) := by decide +kernel
theorem dX12_turnsTo_55 : decode cX12_turnsTo 55 = .ok (.iload 6, 2) := by decide +kernel
theorem dX12_turnsTo_57 : decode cX12_turnsTo 57 = .ok (.iconst 1, 1) := by decide +kernel
theorem dX12_turnsTo_58 : decode cX12_turnsTo 58 = .ok (.iadd, 1) := by decide +kernel
theorem dX12_turnsTo_59 : decode cX12_turnsTo 59 = .ok (.iaload, 1) := by decide +kernel
theorem dX12_turnsTo_60 : decode cX12_turnsTo 60 = .ok (.ifCond .ne 7, 3) := by decide +kernel
theorem dX12_turnsTo_63 : decode cX12_turnsTo 63 = .ok (.iconst 1, 1) := by decide +kernel
theorem dX12_turnsTo_64 : decode cX12_turnsTo 64 = .ok (.goto 4, 3) := by decide +kernel
theorem dX12_turnsTo_67 : decode cX12_turnsTo 67 = .ok (.iconst 0, 1) := by decide +kernel
theorem dX12_turnsTo_68 : decode cX12_turnsTo 68 = .ok (.istore 7, 2) := by decide +kernel
theorem dX12_turnsTo_70 : decode cX12_turnsTo 70 = .ok (.iload 7, 2) := by decide +kernel
theorem dX12_turnsTo_72 : decode cX12_turnsTo 72 = .ok (.ifCond .eq 13, 3) := by decide +kernel
theorem dX12_turnsTo_75 : decode cX12_turnsTo 75 = .ok (.iload_n 3, 1) := by decide +kernel
theorem dX12_turnsTo_76 : decode cX12_turnsTo 76 = .ok (.iload_n 1, 1) := by decide +kernel
theorem dX12_turnsTo_77 : decode cX12_turnsTo 77 = .ok (.if_icmp .ne 8, 3) := by decide +kernel
theorem dX12_turnsTo_80 : decode cX12_turnsTo 80 = .ok (.iload 4, 2) := by decide +kernel
theorem dX12_turnsTo_82 : decode cX12_turnsTo 82 = .ok (.goto 5, 3) := by decide +kernel
theorem dX12_turnsTo_85 : decode cX12_turnsTo 85 = .ok (.iload 5, 2) := by decide +kernel
theorem dX12_turnsTo_87 : decode cX12_turnsTo 87 = .ok (.istore 5, 2) := by decide +kernel
theorem dX12_turnsTo_89 : decode cX12_turnsTo 89 = .ok (.iload_n 3, 1) := by decide +kernel
theorem dX12_turnsTo_90 : decode cX12_turnsTo 90 = .ok (.iload 7, 2) := by decide +kernel
theorem dX12_turnsTo_92 : decode cX12_turnsTo 92 = .ok (.ifCond .eq 7, 3) := by decide +kernel
theorem dX12_turnsTo_95 : decode cX12_turnsTo 95 = .ok (.iconst 1, 1) := by decide +kernel
theorem dX12_turnsTo_96 : decode cX12_turnsTo 96 = .ok (.goto 4, 3) := by decide +kernel
theorem dX12_turnsTo_99 : decode cX12_turnsTo 99 = .ok (.iconst 0, 1) := by decide +kernel
theorem dX12_turnsTo_100 : decode cX12_turnsTo 100 = .ok (.iadd, 1) := by decide +kernel
theorem dX12_turnsTo_101 : decode cX12_turnsTo 101 = .ok (.istore_n 3, 1) := by decide +kernel
theorem dX12_turnsTo_102 : decode cX12_turnsTo 102 = .ok (.iinc 6 1, 3) := by decide +kernel
theorem dX12_turnsTo_105 : decode cX12_turnsTo 105 = .ok (.goto (-94), 3) := by decide +kernel
theorem dX12_turnsTo_108 : decode cX12_turnsTo 108 = .ok (.iload_n 2, 1) := by decide +kernel
theorem dX12_turnsTo_109 : decode cX12_turnsTo 109 = .ok (.ifCond .eq 7, 3) := by decide +kernel
theorem dX12_turnsTo_112 : decode cX12_turnsTo 112 = .ok (.iload_n 3, 1) := by decide +kernel
theorem dX12_turnsTo_113 : decode cX12_turnsTo 113 = .ok (.goto 5, 3) := by decide +kernel
theorem dX12_turnsTo_116 : decode cX12_turnsTo 116 = .ok (.iload 5, 2) := by decide +kernel
theorem dX12_turnsTo_118 : decode cX12_turnsTo 118 = .ok (.ireturn, 1) := by decide +kernel
theorem dX12_pageTurns_0 : decode cX12_pageTurns 0 = .ok (.aload_n 0, 1) := by decide +kernel
theorem dX12_pageTurns_1 : decode cX12_pageTurns 1 = .ok (.iload_n 1, 1) := by decide +kernel
theorem dX12_pageTurns_2 : decode cX12_pageTurns 2 = .ok (.invokevirtual 339, 3) := by decide +kernel
theorem dX12_pageTurns_5 : decode cX12_pageTurns 5 = .ok (.istore_n 2, 1) := by decide +kernel
theorem dX12_pageTurns_6 : decode cX12_pageTurns 6 = .ok (.aload_n 0, 1) := by decide +kernel
theorem dX12_pageTurns_7 : decode cX12_pageTurns 7 = .ok (.iload_n 1, 1) := by decide +kernel
theorem dX12_pageTurns_8 : decode cX12_pageTurns 8 = .ok (.invokestatic 184, 3) := by decide +kernel
theorem dX12_pageTurns_11 : decode cX12_pageTurns 11 = .ok (.iload_n 2, 1) := by decide +kernel
theorem dX12_pageTurns_12 : decode cX12_pageTurns 12 = .ok (.iconst 1, 1) := by decide +kernel
theorem dX12_pageTurns_13 : decode cX12_pageTurns 13 = .ok (.invokevirtual 165, 3) := by decide +kernel
theorem dX12_pageTurns_16 : decode cX12_pageTurns 16 = .ok (.ifCond .eq 12, 3) := by decide +kernel
theorem dX12_pageTurns_19 : decode cX12_pageTurns 19 = .ok (.aload_n 0, 1) := by decide +kernel
theorem dX12_pageTurns_20 : decode cX12_pageTurns 20 = .ok (.iconst 0, 1) := by decide +kernel
theorem dX12_pageTurns_21 : decode cX12_pageTurns 21 = .ok (.iconst 1, 1) := by decide +kernel
theorem dX12_pageTurns_22 : decode cX12_pageTurns 22 = .ok (.invokevirtual 342, 3) := by decide +kernel
theorem dX12_pageTurns_25 : decode cX12_pageTurns 25 = .ok (.goto 4, 3) := by decide +kernel
theorem dX12_pageTurns_28 : decode cX12_pageTurns 28 = .ok (.iconst 0, 1) := by decide +kernel
theorem dX12_pageTurns_29 : decode cX12_pageTurns 29 = .ok (.ireturn, 1) := by decide +kernel
theorem dX12_isTurn_0 : decode cX12_isTurn 0 = .ok (.aload_n 0, 1) := by decide +kernel
theorem dX12_isTurn_1 : decode cX12_isTurn 1 = .ok (.iload_n 1, 1) := by decide +kernel
theorem dX12_isTurn_2 : decode cX12_isTurn 2 = .ok (.invokevirtual 339, 3) := by decide +kernel
theorem dX12_isTurn_5 : decode cX12_isTurn 5 = .ok (.istore_n 3, 1) := by decide +kernel
theorem dX12_isTurn_6 : decode cX12_isTurn 6 = .ok (.aload_n 0, 1) := by decide +kernel
theorem dX12_isTurn_7 : decode cX12_isTurn 7 = .ok (.iload_n 1, 1) := by decide +kernel
theorem dX12_isTurn_8 : decode cX12_isTurn 8 = .ok (.invokestatic 184, 3) := by decide +kernel
theorem dX12_isTurn_11 : decode cX12_isTurn 11 = .ok (.iload_n 3, 1) := by decide +kernel
theorem dX12_isTurn_12 : decode cX12_isTurn 12 = .ok (.iload_n 3, 1) := by decide +kernel
theorem dX12_isTurn_13 : decode cX12_isTurn 13 = .ok (.ifCond .eq 23, 3) := by decide +kernel
theorem dX12_isTurn_16 : decode cX12_isTurn 16 = .ok (.iload_n 2, 1) := by decide +kernel
theorem dX12_isTurn_17 : decode cX12_isTurn 17 = .ok (.iconst 0, 1) := by decide +kernel
theorem dX12_isTurn_18 : decode cX12_isTurn 18 = .ok (.aload_n 0, 1) := by decide +kernel
theorem dX12_isTurn_19 : decode cX12_isTurn 19 = .ok (.iconst 0, 1) := by decide +kernel
theorem dX12_isTurn_20 : decode cX12_isTurn 20 = .ok (.iconst 1, 1) := by decide +kernel
theorem dX12_isTurn_21 : decode cX12_isTurn 21 = .ok (.invokevirtual 342, 3) := by decide +kernel
theorem dX12_isTurn_24 : decode cX12_isTurn 24 = .ok (.iconst 1, 1) := by decide +kernel
theorem dX12_isTurn_25 : decode cX12_isTurn 25 = .ok (.isub, 1) := by decide +kernel
theorem dX12_isTurn_26 : decode cX12_isTurn 26 = .ok (.invokestatic 135, 3) := by decide +kernel
theorem dX12_isTurn_29 : decode cX12_isTurn 29 = .ok (.ifCond .eq 7, 3) := by decide +kernel
theorem dX12_isTurn_32 : decode cX12_isTurn 32 = .ok (.iconst 1, 1) := by decide +kernel
theorem dX12_isTurn_33 : decode cX12_isTurn 33 = .ok (.goto 4, 3) := by decide +kernel
theorem dX12_isTurn_36 : decode cX12_isTurn 36 = .ok (.iconst 0, 1) := by decide +kernel
theorem dX12_isTurn_37 : decode cX12_isTurn 37 = .ok (.invokevirtual 165, 3) := by decide +kernel
theorem dX12_isTurn_40 : decode cX12_isTurn 40 = .ok (.ireturn, 1) := by decide +kernel
theorem dX12_turnBar_0 : decode cX12_turnBar 0 = .ok (.aload_n 0, 1) := by decide +kernel
theorem dX12_turnBar_1 : decode cX12_turnBar 1 = .ok (.iload_n 1, 1) := by decide +kernel
theorem dX12_turnBar_2 : decode cX12_turnBar 2 = .ok (.iload_n 2, 1) := by decide +kernel
theorem dX12_turnBar_3 : decode cX12_turnBar 3 = .ok (.invokevirtual 345, 3) := by decide +kernel
theorem dX12_turnBar_6 : decode cX12_turnBar 6 = .ok (.ifCond .eq 16, 3) := by decide +kernel
theorem dX12_turnBar_9 : decode cX12_turnBar 9 = .ok (.aload_n 0, 1) := by decide +kernel
theorem dX12_turnBar_10 : decode cX12_turnBar 10 = .ok (.aload_n 0, 1) := by decide +kernel
theorem dX12_turnBar_11 : decode cX12_turnBar 11 = .ok (.iload_n 2, 1) := by decide +kernel
theorem dX12_turnBar_12 : decode cX12_turnBar 12 = .ok (.iconst 0, 1) := by decide +kernel
theorem dX12_turnBar_13 : decode cX12_turnBar 13 = .ok (.invokevirtual 342, 3) := by decide +kernel
theorem dX12_turnBar_16 : decode cX12_turnBar 16 = .ok (.invokevirtual 326, 3) := by decide +kernel
theorem dX12_turnBar_19 : decode cX12_turnBar 19 = .ok (.goto 4, 3) := by decide +kernel
theorem dX12_turnBar_22 : decode cX12_turnBar 22 = .ok (.iconst 0, 1) := by decide +kernel
theorem dX12_turnBar_23 : decode cX12_turnBar 23 = .ok (.ireturn, 1) := by decide +kernel
theorem dX12_turnTime_0 : decode cX12_turnTime 0 = .ok (.aload_n 0, 1) := by decide +kernel
theorem dX12_turnTime_1 : decode cX12_turnTime 1 = .ok (.iload_n 1, 1) := by decide +kernel
theorem dX12_turnTime_2 : decode cX12_turnTime 2 = .ok (.iload_n 2, 1) := by decide +kernel
theorem dX12_turnTime_3 : decode cX12_turnTime 3 = .ok (.invokevirtual 345, 3) := by decide +kernel
theorem dX12_turnTime_6 : decode cX12_turnTime 6 = .ok (.ifCond .eq 20, 3) := by decide +kernel
theorem dX12_turnTime_9 : decode cX12_turnTime 9 = .ok (.aload_n 0, 1) := by decide +kernel
theorem dX12_turnTime_10 : decode cX12_turnTime 10 = .ok (.aload_n 0, 1) := by decide +kernel
theorem dX12_turnTime_11 : decode cX12_turnTime 11 = .ok (.aload_n 0, 1) := by decide +kernel
theorem dX12_turnTime_12 : decode cX12_turnTime 12 = .ok (.iload_n 2, 1) := by decide +kernel
theorem dX12_turnTime_13 : decode cX12_turnTime 13 = .ok (.iconst 0, 1) := by decide +kernel
theorem dX12_turnTime_14 : decode cX12_turnTime 14 = .ok (.invokevirtual 342, 3) := by decide +kernel
theorem dX12_turnTime_17 : decode cX12_turnTime 17 = .ok (.invokevirtual 326, 3) := by decide +kernel
theorem dX12_turnTime_20 : decode cX12_turnTime 20 = .ok (.invokevirtual 307, 3) := by decide +kernel
theorem dX12_turnTime_23 : decode cX12_turnTime 23 = .ok (.goto 4, 3) := by decide +kernel
theorem dX12_turnTime_26 : decode cX12_turnTime 26 = .ok (.iconst 0, 1) := by decide +kernel
theorem dX12_turnTime_27 : decode cX12_turnTime 27 = .ok (.ireturn, 1) := by decide +kernel
theorem dX12_turnRest_0 : decode cX12_turnRest 0 = .ok (.aload_n 0, 1) := by decide +kernel
theorem dX12_turnRest_1 : decode cX12_turnRest 1 = .ok (.iload_n 1, 1) := by decide +kernel
theorem dX12_turnRest_2 : decode cX12_turnRest 2 = .ok (.iload_n 2, 1) := by decide +kernel
theorem dX12_turnRest_3 : decode cX12_turnRest 3 = .ok (.invokevirtual 345, 3) := by decide +kernel
theorem dX12_turnRest_6 : decode cX12_turnRest 6 = .ok (.ifCond .eq 21, 3) := by decide +kernel
theorem dX12_turnRest_9 : decode cX12_turnRest 9 = .ok (.aload_n 0, 1) := by decide +kernel
theorem dX12_turnRest_10 : decode cX12_turnRest 10 = .ok (.iload_n 1, 1) := by decide +kernel
theorem dX12_turnRest_11 : decode cX12_turnRest 11 = .ok (.aload_n 0, 1) := by decide +kernel
theorem dX12_turnRest_12 : decode cX12_turnRest 12 = .ok (.aload_n 0, 1) := by decide +kernel
theorem dX12_turnRest_13 : decode cX12_turnRest 13 = .ok (.iload_n 2, 1) := by decide +kernel
theorem dX12_turnRest_14 : decode cX12_turnRest 14 = .ok (.iconst 0, 1) := by decide +kernel
theorem dX12_turnRest_15 : decode cX12_turnRest 15 = .ok (.invokevirtual 342, 3) := by decide +kernel
theorem dX12_turnRest_18 : decode cX12_turnRest 18 = .ok (.invokevirtual 326, 3) := by decide +kernel
theorem dX12_turnRest_21 : decode cX12_turnRest 21 = .ok (.invokevirtual 329, 3) := by decide +kernel
theorem dX12_turnRest_24 : decode cX12_turnRest 24 = .ok (.goto 4, 3) := by decide +kernel
theorem dX12_turnRest_27 : decode cX12_turnRest 27 = .ok (.iconst 0, 1) := by decide +kernel
theorem dX12_turnRest_28 : decode cX12_turnRest 28 = .ok (.ireturn, 1) := by decide +kernel
theorem dX12_badTurns_0 : decode cX12_badTurns 0 = .ok (.aload_n 0, 1) := by decide +kernel
theorem dX12_badTurns_1 : decode cX12_badTurns 1 = .ok (.iload_n 1, 1) := by decide +kernel
theorem dX12_badTurns_2 : decode cX12_badTurns 2 = .ok (.invokevirtual 339, 3) := by decide +kernel
theorem dX12_badTurns_5 : decode cX12_badTurns 5 = .ok (.istore_n 2, 1) := by decide +kernel
theorem dX12_badTurns_6 : decode cX12_badTurns 6 = .ok (.aload_n 0, 1) := by decide +kernel
theorem dX12_badTurns_7 : decode cX12_badTurns 7 = .ok (.iload_n 1, 1) := by decide +kernel
theorem dX12_badTurns_8 : decode cX12_badTurns 8 = .ok (.invokestatic 184, 3) := by decide +kernel
theorem dX12_badTurns_11 : decode cX12_badTurns 11 = .ok (.iload_n 2, 1) := by decide +kernel
theorem dX12_badTurns_12 : decode cX12_badTurns 12 = .ok (.iconst 1, 1) := by decide +kernel
theorem dX12_badTurns_13 : decode cX12_badTurns 13 = .ok (.invokevirtual 165, 3) := by decide +kernel
theorem dX12_badTurns_16 : decode cX12_badTurns 16 = .ok (.ifCond .ne 5, 3) := by decide +kernel
theorem dX12_badTurns_19 : decode cX12_badTurns 19 = .ok (.iconst 0, 1) := by decide +kernel
theorem dX12_badTurns_20 : decode cX12_badTurns 20 = .ok (.ireturn, 1) := by decide +kernel
theorem dX12_badTurns_21 : decode cX12_badTurns 21 = .ok (.iconst 0, 1) := by decide +kernel
theorem dX12_badTurns_22 : decode cX12_badTurns 22 = .ok (.istore_n 3, 1) := by decide +kernel
theorem dX12_badTurns_23 : decode cX12_badTurns 23 = .ok (.iconst 0, 1) := by decide +kernel
theorem dX12_badTurns_24 : decode cX12_badTurns 24 = .ok (.istore 4, 2) := by decide +kernel
theorem dX12_badTurns_26 : decode cX12_badTurns 26 = .ok (.iload 4, 2) := by decide +kernel
theorem dX12_badTurns_28 : decode cX12_badTurns 28 = .ok (.aload_n 0, 1) := by decide +kernel
theorem dX12_badTurns_29 : decode cX12_badTurns 29 = .ok (.iconst 0, 1) := by decide +kernel
theorem dX12_badTurns_30 : decode cX12_badTurns 30 = .ok (.iconst 1, 1) := by decide +kernel
theorem dX12_badTurns_31 : decode cX12_badTurns 31 = .ok (.invokevirtual 342, 3) := by decide +kernel
theorem dX12_badTurns_34 : decode cX12_badTurns 34 = .ok (.if_icmp .ge 32, 3) := by decide +kernel
theorem dX12_badTurns_37 : decode cX12_badTurns 37 = .ok (.iload_n 3, 1) := by decide +kernel
theorem dX12_badTurns_38 : decode cX12_badTurns 38 = .ok (.aload_n 0, 1) := by decide +kernel
theorem dX12_badTurns_39 : decode cX12_badTurns 39 = .ok (.getfield 126, 3) := by decide +kernel
theorem dX12_badTurns_42 : decode cX12_badTurns 42 = .ok (.aload_n 0, 1) := by decide +kernel
theorem dX12_badTurns_43 : decode cX12_badTurns 43 = .ok (.iload 4, 2) := by decide +kernel
theorem dX12_badTurns_45 : decode cX12_badTurns 45 = .ok (.iconst 0, 1) := by decide +kernel
theorem dX12_badTurns_46 : decode cX12_badTurns 46 = .ok (.invokevirtual 342, 3) := by decide +kernel
theorem dX12_badTurns_49 : decode cX12_badTurns 49 = .ok (.iaload, 1) := by decide +kernel
theorem dX12_badTurns_50 : decode cX12_badTurns 50 = .ok (.ifCond .le 7, 3) := by decide +kernel
theorem dX12_badTurns_53 : decode cX12_badTurns 53 = .ok (.iconst 1, 1) := by decide +kernel
theorem dX12_badTurns_54 : decode cX12_badTurns 54 = .ok (.goto 4, 3) := by decide +kernel
theorem dX12_badTurns_57 : decode cX12_badTurns 57 = .ok (.iconst 0, 1) := by decide +kernel
theorem dX12_badTurns_58 : decode cX12_badTurns 58 = .ok (.iadd, 1) := by decide +kernel
theorem dX12_badTurns_59 : decode cX12_badTurns 59 = .ok (.istore_n 3, 1) := by decide +kernel
theorem dX12_badTurns_60 : decode cX12_badTurns 60 = .ok (.iinc 4 1, 3) := by decide +kernel
theorem dX12_badTurns_63 : decode cX12_badTurns 63 = .ok (.goto (-37), 3) := by decide +kernel
theorem dX12_badTurns_66 : decode cX12_badTurns 66 = .ok (.iload_n 3, 1) := by decide +kernel
theorem dX12_badTurns_67 : decode cX12_badTurns 67 = .ok (.ireturn, 1) := by decide +kernel
theorem dX12_sheetsOf_0 : decode cX12_sheetsOf 0 = .ok (.aload_n 0, 1) := by decide +kernel
theorem dX12_sheetsOf_1 : decode cX12_sheetsOf 1 = .ok (.getfield 323, 3) := by decide +kernel
theorem dX12_sheetsOf_4 : decode cX12_sheetsOf 4 = .ok (.iconst 4, 1) := by decide +kernel
theorem dX12_sheetsOf_5 : decode cX12_sheetsOf 5 = .ok (.iadd, 1) := by decide +kernel
theorem dX12_sheetsOf_6 : decode cX12_sheetsOf 6 = .ok (.iconst 1, 1) := by decide +kernel
theorem dX12_sheetsOf_7 : decode cX12_sheetsOf 7 = .ok (.isub, 1) := by decide +kernel
theorem dX12_sheetsOf_8 : decode cX12_sheetsOf 8 = .ok (.iconst 4, 1) := by decide +kernel
theorem dX12_sheetsOf_9 : decode cX12_sheetsOf 9 = .ok (.idiv, 1) := by decide +kernel
theorem dX12_sheetsOf_10 : decode cX12_sheetsOf 10 = .ok (.ireturn, 1) := by decide +kernel
theorem dX12_sheets_0 : decode cX12_sheets 0 = .ok (.aload_n 0, 1) := by decide +kernel
theorem dX12_sheets_1 : decode cX12_sheets 1 = .ok (.iload_n 1, 1) := by decide +kernel
theorem dX12_sheets_2 : decode cX12_sheets 2 = .ok (.invokevirtual 339, 3) := by decide +kernel
theorem dX12_sheets_5 : decode cX12_sheets 5 = .ok (.istore_n 2, 1) := by decide +kernel
theorem dX12_sheets_6 : decode cX12_sheets 6 = .ok (.aload_n 0, 1) := by decide +kernel
theorem dX12_sheets_7 : decode cX12_sheets 7 = .ok (.iload_n 1, 1) := by decide +kernel
theorem dX12_sheets_8 : decode cX12_sheets 8 = .ok (.invokestatic 184, 3) := by decide +kernel
theorem dX12_sheets_11 : decode cX12_sheets 11 = .ok (.iload_n 2, 1) := by decide +kernel
theorem dX12_sheets_12 : decode cX12_sheets 12 = .ok (.iconst 1, 1) := by decide +kernel
theorem dX12_sheets_13 : decode cX12_sheets 13 = .ok (.invokevirtual 165, 3) := by decide +kernel
theorem dX12_sheets_16 : decode cX12_sheets 16 = .ok (.ifCond .eq 10, 3) := by decide +kernel
theorem dX12_sheets_19 : decode cX12_sheets 19 = .ok (.aload_n 0, 1) := by decide +kernel
theorem dX12_sheets_20 : decode cX12_sheets 20 = .ok (.invokevirtual 348, 3) := by decide +kernel
theorem dX12_sheets_23 : decode cX12_sheets 23 = .ok (.goto 4, 3) := by decide +kernel
theorem dX12_sheets_26 : decode cX12_sheets 26 = .ok (.iconst 0, 1) := by decide +kernel
theorem dX12_sheets_27 : decode cX12_sheets 27 = .ok (.ireturn, 1) := by decide +kernel
theorem dX12_sheetPage_0 : decode cX12_sheetPage 0 = .ok (.aload_n 0, 1) := by decide +kernel
theorem dX12_sheetPage_1 : decode cX12_sheetPage 1 = .ok (.iload_n 1, 1) := by decide +kernel
theorem dX12_sheetPage_2 : decode cX12_sheetPage 2 = .ok (.invokevirtual 339, 3) := by decide +kernel
theorem dX12_sheetPage_5 : decode cX12_sheetPage 5 = .ok (.istore 5, 2) := by decide +kernel
theorem dX12_sheetPage_7 : decode cX12_sheetPage 7 = .ok (.aload_n 0, 1) := by decide +kernel
theorem dX12_sheetPage_8 : decode cX12_sheetPage 8 = .ok (.iload_n 1, 1) := by decide +kernel
theorem dX12_sheetPage_9 : decode cX12_sheetPage 9 = .ok (.invokestatic 184, 3) := by decide +kernel
theorem dX12_sheetPage_12 : decode cX12_sheetPage 12 = .ok (.iload 5, 2) := by decide +kernel
theorem dX12_sheetPage_14 : decode cX12_sheetPage 14 = .ok (.iload 5, 2) := by decide +kernel
theorem dX12_sheetPage_16 : decode cX12_sheetPage 16 = .ok (.ifCond .eq 21, 3) := by decide +kernel
theorem dX12_sheetPage_19 : decode cX12_sheetPage 19 = .ok (.iload_n 2, 1) := by decide +kernel
theorem dX12_sheetPage_20 : decode cX12_sheetPage 20 = .ok (.iconst 0, 1) := by decide +kernel
theorem dX12_sheetPage_21 : decode cX12_sheetPage 21 = .ok (.aload_n 0, 1) := by decide +kernel
theorem dX12_sheetPage_22 : decode cX12_sheetPage 22 = .ok (.invokevirtual 348, 3) := by decide +kernel
theorem dX12_sheetPage_25 : decode cX12_sheetPage 25 = .ok (.iconst 1, 1) := by decide +kernel
theorem dX12_sheetPage_26 : decode cX12_sheetPage 26 = .ok (.isub, 1) := by decide +kernel
theorem dX12_sheetPage_27 : decode cX12_sheetPage 27 = .ok (.invokestatic 135, 3) := by decide +kernel
theorem dX12_sheetPage_30 : decode cX12_sheetPage 30 = .ok (.ifCond .eq 7, 3) := by decide +kernel
theorem dX12_sheetPage_33 : decode cX12_sheetPage 33 = .ok (.iconst 1, 1) := by decide +kernel
theorem dX12_sheetPage_34 : decode cX12_sheetPage 34 = .ok (.goto 4, 3) := by decide +kernel
theorem dX12_sheetPage_37 : decode cX12_sheetPage 37 = .ok (.iconst 0, 1) := by decide +kernel
theorem dX12_sheetPage_38 : decode cX12_sheetPage 38 = .ok (.invokevirtual 165, 3) := by decide +kernel
theorem dX12_sheetPage_41 : decode cX12_sheetPage 41 = .ok (.ifCond .ne 5, 3) := by decide +kernel
theorem dX12_sheetPage_44 : decode cX12_sheetPage 44 = .ok (.iconst 0, 1) := by decide +kernel
theorem dX12_sheetPage_45 : decode cX12_sheetPage 45 = .ok (.ireturn, 1) := by decide +kernel
theorem dX12_sheetPage_46 : decode cX12_sheetPage 46 = .ok (.iconst 4, 1) := by decide +kernel
theorem dX12_sheetPage_47 : decode cX12_sheetPage 47 = .ok (.aload_n 0, 1) := by decide +kernel
theorem dX12_sheetPage_48 : decode cX12_sheetPage 48 = .ok (.invokevirtual 348, 3) := by decide +kernel
theorem dX12_sheetPage_51 : decode cX12_sheetPage 51 = .ok (.imul, 1) := by decide +kernel
theorem dX12_sheetPage_52 : decode cX12_sheetPage 52 = .ok (.istore 6, 2) := by decide +kernel
theorem dX12_sheetPage_54 : decode cX12_sheetPage 54 = .ok (.iload 6, 2) := by decide +kernel
theorem dX12_sheetPage_56 : decode cX12_sheetPage 56 = .ok (.iload_n 3, 1) := by decide +kernel
theorem dX12_sheetPage_57 : decode cX12_sheetPage 57 = .ok (.ifCond .eq 7, 3) := by decide +kernel
theorem dX12_sheetPage_60 : decode cX12_sheetPage 60 = .ok (.iconst 1, 1) := by decide +kernel
theorem dX12_sheetPage_61 : decode cX12_sheetPage 61 = .ok (.goto 4, 3) := by decide +kernel
theorem dX12_sheetPage_64 : decode cX12_sheetPage 64 = .ok (.iconst 2, 1) := by decide +kernel
theorem dX12_sheetPage_65 : decode cX12_sheetPage 65 = .ok (.isub, 1) := by decide +kernel
theorem dX12_sheetPage_66 : decode cX12_sheetPage 66 = .ok (.iconst 2, 1) := by decide +kernel
theorem dX12_sheetPage_67 : decode cX12_sheetPage 67 = .ok (.iload_n 2, 1) := by decide +kernel
theorem dX12_sheetPage_68 : decode cX12_sheetPage 68 = .ok (.imul, 1) := by decide +kernel
theorem dX12_sheetPage_69 : decode cX12_sheetPage 69 = .ok (.isub, 1) := by decide +kernel
theorem dX12_sheetPage_70 : decode cX12_sheetPage 70 = .ok (.istore 7, 2) := by decide +kernel
theorem dX12_sheetPage_72 : decode cX12_sheetPage 72 = .ok (.iconst 2, 1) := by decide +kernel
theorem dX12_sheetPage_73 : decode cX12_sheetPage 73 = .ok (.iload_n 2, 1) := by decide +kernel
theorem dX12_sheetPage_74 : decode cX12_sheetPage 74 = .ok (.imul, 1) := by decide +kernel
theorem dX12_sheetPage_75 : decode cX12_sheetPage 75 = .ok (.iload_n 3, 1) := by decide +kernel
theorem dX12_sheetPage_76 : decode cX12_sheetPage 76 = .ok (.ifCond .eq 7, 3) := by decide +kernel
theorem dX12_sheetPage_79 : decode cX12_sheetPage 79 = .ok (.iconst 0, 1) := by decide +kernel
theorem dX12_sheetPage_80 : decode cX12_sheetPage 80 = .ok (.goto 4, 3) := by decide +kernel
theorem dX12_sheetPage_83 : decode cX12_sheetPage 83 = .ok (.iconst 1, 1) := by decide +kernel
theorem dX12_sheetPage_84 : decode cX12_sheetPage 84 = .ok (.iadd, 1) := by decide +kernel
theorem dX12_sheetPage_85 : decode cX12_sheetPage 85 = .ok (.istore 8, 2) := by decide +kernel
theorem dX12_sheetPage_87 : decode cX12_sheetPage 87 = .ok (.iload_n 3, 1) := by decide +kernel
theorem dX12_sheetPage_88 : decode cX12_sheetPage 88 = .ok (.iload 4, 2) := by decide +kernel
theorem dX12_sheetPage_90 : decode cX12_sheetPage 90 = .ok (.if_icmp .ne 8, 3) := by decide +kernel
theorem dX12_sheetPage_93 : decode cX12_sheetPage 93 = .ok (.iload 7, 2) := by decide +kernel
theorem dX12_sheetPage_95 : decode cX12_sheetPage 95 = .ok (.goto 5, 3) := by decide +kernel
theorem dX12_sheetPage_98 : decode cX12_sheetPage 98 = .ok (.iload 8, 2) := by decide +kernel
theorem dX12_sheetPage_100 : decode cX12_sheetPage 100 = .ok (.ireturn, 1) := by decide +kernel

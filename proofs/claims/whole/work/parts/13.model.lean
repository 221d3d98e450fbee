theorem zy_M_packet : zy y_M_packet b_M_packet 3 (some .long) 2 := ⟨zmem 1261 (by decide +kernel) (by decide +kernel), zmem 73 (by decide +kernel) (by decide +kernel), by decide +kernel⟩
theorem zv_M_packet : Cond.instanceMethod y_M_packet ∈ ztb ∧ Cond.selects y_M_packet.cls y_M_packet y_M_packet ∈ ztb := ⟨zmem 1259 (by decide +kernel) (by decide +kernel), zmem 1260 (by decide +kernel) (by decide +kernel)⟩
theorem d_M_packet_0 : decode b_M_packet 0 = .ok (.aload_n 0, 1) := by decide +kernel
theorem d_M_packet_1 : decode b_M_packet 1 = .ok (.iload_n 1, 1) := by decide +kernel
theorem d_M_packet_2 : decode b_M_packet 2 = .ok (.i2l, 1) := by decide +kernel
theorem d_M_packet_3 : decode b_M_packet 3 = .ok (.lconst 0, 1) := by decide +kernel
theorem d_M_packet_4 : decode b_M_packet 4 = .ok (.aload_n 0, 1) := by decide +kernel
theorem d_M_packet_5 : decode b_M_packet 5 = .ok (.getfield 97, 3) := by decide +kernel
theorem d_M_packet_8 : decode b_M_packet 8 = .ok (.i2l, 1) := by decide +kernel
theorem d_M_packet_9 : decode b_M_packet 9 = .ok (.lconst 1, 1) := by decide +kernel
theorem d_M_packet_10 : decode b_M_packet 10 = .ok (.lsub, 1) := by decide +kernel
theorem d_M_packet_11 : decode b_M_packet 11 = .ok (.invokestatic 53, 3) := by decide +kernel
theorem d_M_packet_14 : decode b_M_packet 14 = .ok (.ifCond .eq 15, 3) := by decide +kernel
theorem d_M_packet_17 : decode b_M_packet 17 = .ok (.iload_n 2, 1) := by decide +kernel
theorem d_M_packet_18 : decode b_M_packet 18 = .ok (.i2l, 1) := by decide +kernel
theorem d_M_packet_19 : decode b_M_packet 19 = .ok (.lconst 0, 1) := by decide +kernel
theorem d_M_packet_20 : decode b_M_packet 20 = .ok (.ldc2_w 206, 3) := by decide +kernel
theorem d_M_packet_23 : decode b_M_packet 23 = .ok (.invokestatic 53, 3) := by decide +kernel
theorem d_M_packet_26 : decode b_M_packet 26 = .ok (.ifCond .ne 7, 3) := by decide +kernel
theorem d_M_packet_29 : decode b_M_packet 29 = .ok (.iconst 1, 1) := by decide +kernel
theorem d_M_packet_30 : decode b_M_packet 30 = .ok (.goto 4, 3) := by decide +kernel
theorem d_M_packet_33 : decode b_M_packet 33 = .ok (.iconst 0, 1) := by decide +kernel
theorem d_M_packet_34 : decode b_M_packet 34 = .ok (.iconst 1, 1) := by decide +kernel
theorem d_M_packet_35 : decode b_M_packet 35 = .ok (.invokevirtual 62, 3) := by decide +kernel
theorem d_M_packet_38 : decode b_M_packet 38 = .ok (.ifCond .eq 5, 3) := by decide +kernel
theorem d_M_packet_41 : decode b_M_packet 41 = .ok (.lconst 0, 1) := by decide +kernel
theorem d_M_packet_42 : decode b_M_packet 42 = .ok (.lreturn, 1) := by decide +kernel
theorem d_M_packet_43 : decode b_M_packet 43 = .ok (.aload_n 0, 1) := by decide +kernel
theorem d_M_packet_44 : decode b_M_packet 44 = .ok (.getfield 39, 3) := by decide +kernel
theorem d_M_packet_47 : decode b_M_packet 47 = .ok (.bipush 12, 2) := by decide +kernel
theorem d_M_packet_49 : decode b_M_packet 49 = .ok (.iload_n 1, 1) := by decide +kernel
theorem d_M_packet_50 : decode b_M_packet 50 = .ok (.imul, 1) := by decide +kernel
theorem d_M_packet_51 : decode b_M_packet 51 = .ok (.iload_n 2, 1) := by decide +kernel
theorem d_M_packet_52 : decode b_M_packet 52 = .ok (.iadd, 1) := by decide +kernel
theorem d_M_packet_53 : decode b_M_packet 53 = .ok (.iaload, 1) := by decide +kernel
theorem d_M_packet_54 : decode b_M_packet 54 = .ok (.i2l, 1) := by decide +kernel
theorem d_M_packet_55 : decode b_M_packet 55 = .ok (.lreturn, 1) := by decide +kernel
theorem zy_M_lead : zy y_M_lead b_M_lead 10 (some .int) 5 := ⟨zmem 1265 (by decide +kernel) (by decide +kernel), zmem 73 (by decide +kernel) (by decide +kernel), by decide +kernel⟩
theorem zv_M_lead : Cond.instanceMethod y_M_lead ∈ ztb ∧ Cond.selects y_M_lead.cls y_M_lead y_M_lead ∈ ztb := ⟨zmem 1263 (by decide +kernel) (by decide +kernel), zmem 1264 (by decide +kernel) (by decide +kernel)⟩
theorem d_M_lead_0 : decode b_M_lead 0 = .ok (.iload_n 1, 1) := by decide +kernel
theorem d_M_lead_1 : decode b_M_lead 1 = .ok (.ifCond .eq 13, 3) := by decide +kernel
theorem d_M_lead_4 : decode b_M_lead 4 = .ok (.iload_n 1, 1) := by decide +kernel
theorem d_M_lead_5 : decode b_M_lead 5 = .ok (.iconst 2, 1) := by decide +kernel
theorem d_M_lead_6 : decode b_M_lead 6 = .ok (.if_icmp .eq 8, 3) := by decide +kernel
theorem d_M_lead_9 : decode b_M_lead 9 = .ok (.iload_n 1, 1) := by decide +kernel
theorem d_M_lead_10 : decode b_M_lead 10 = .ok (.iconst 4, 1) := by decide +kernel
theorem d_M_lead_11 : decode b_M_lead 11 = .ok (.if_icmp .ne 60, 3) := by decide +kernel
theorem d_M_lead_14 : decode b_M_lead 14 = .ok (.iload_n 2, 1) := by decide +kernel
theorem d_M_lead_15 : decode b_M_lead 15 = .ok (.i2l, 1) := by decide +kernel
theorem d_M_lead_16 : decode b_M_lead 16 = .ok (.lconst 0, 1) := by decide +kernel
theorem d_M_lead_17 : decode b_M_lead 17 = .ok (.iload_n 1, 1) := by decide +kernel
theorem d_M_lead_18 : decode b_M_lead 18 = .ok (.iconst 4, 1) := by decide +kernel
theorem d_M_lead_19 : decode b_M_lead 19 = .ok (.if_icmp .ne 9, 3) := by decide +kernel
theorem d_M_lead_22 : decode b_M_lead 22 = .ok (.ldc2_w 266, 3) := by decide +kernel
theorem d_M_lead_25 : decode b_M_lead 25 = .ok (.goto 6, 3) := by decide +kernel
theorem d_M_lead_28 : decode b_M_lead 28 = .ok (.ldc2_w 268, 3) := by decide +kernel
theorem d_M_lead_31 : decode b_M_lead 31 = .ok (.invokestatic 53, 3) := by decide +kernel
theorem d_M_lead_34 : decode b_M_lead 34 = .ok (.ifCond .eq 37, 3) := by decide +kernel
theorem d_M_lead_37 : decode b_M_lead 37 = .ok (.iload_n 3, 1) := by decide +kernel
theorem d_M_lead_38 : decode b_M_lead 38 = .ok (.i2l, 1) := by decide +kernel
theorem d_M_lead_39 : decode b_M_lead 39 = .ok (.lconst 0, 1) := by decide +kernel
theorem d_M_lead_40 : decode b_M_lead 40 = .ok (.ldc2_w 254, 3) := by decide +kernel
theorem d_M_lead_43 : decode b_M_lead 43 = .ok (.invokestatic 53, 3) := by decide +kernel
theorem d_M_lead_46 : decode b_M_lead 46 = .ok (.ifCond .eq 25, 3) := by decide +kernel
theorem d_M_lead_49 : decode b_M_lead 49 = .ok (.iload 4, 2) := by decide +kernel
theorem d_M_lead_51 : decode b_M_lead 51 = .ok (.i2l, 1) := by decide +kernel
theorem d_M_lead_52 : decode b_M_lead 52 = .ok (.lconst 0, 1) := by decide +kernel
theorem d_M_lead_53 : decode b_M_lead 53 = .ok (.iload_n 1, 1) := by decide +kernel
theorem d_M_lead_54 : decode b_M_lead 54 = .ok (.iconst 4, 1) := by decide +kernel
theorem d_M_lead_55 : decode b_M_lead 55 = .ok (.if_icmp .ne 7, 3) := by decide +kernel
theorem d_M_lead_58 : decode b_M_lead 58 = .ok (.lconst 0, 1) := by decide +kernel
theorem d_M_lead_59 : decode b_M_lead 59 = .ok (.goto 6, 3) := by decide +kernel
theorem d_M_lead_62 : decode b_M_lead 62 = .ok (.ldc2_w 254, 3) := by decide +kernel
theorem d_M_lead_65 : decode b_M_lead 65 = .ok (.invokestatic 53, 3) := by decide +kernel
theorem d_M_lead_68 : decode b_M_lead 68 = .ok (.ifCond .ne 7, 3) := by decide +kernel
theorem d_M_lead_71 : decode b_M_lead 71 = .ok (.iconst 1, 1) := by decide +kernel
theorem d_M_lead_72 : decode b_M_lead 72 = .ok (.goto 4, 3) := by decide +kernel
theorem d_M_lead_75 : decode b_M_lead 75 = .ok (.iconst 0, 1) := by decide +kernel
theorem d_M_lead_76 : decode b_M_lead 76 = .ok (.istore 6, 2) := by decide +kernel
theorem d_M_lead_78 : decode b_M_lead 78 = .ok (.iload 6, 2) := by decide +kernel
theorem d_M_lead_80 : decode b_M_lead 80 = .ok (.ifCond .ne 50, 3) := by decide +kernel
theorem d_M_lead_83 : decode b_M_lead 83 = .ok (.aload_n 0, 1) := by decide +kernel
theorem d_M_lead_84 : decode b_M_lead 84 = .ok (.getfield 211, 3) := by decide +kernel
theorem d_M_lead_87 : decode b_M_lead 87 = .ok (.iload_n 3, 1) := by decide +kernel
theorem d_M_lead_88 : decode b_M_lead 88 = .ok (.iload 4, 2) := by decide +kernel
theorem d_M_lead_90 : decode b_M_lead 90 = .ok (.iadd, 1) := by decide +kernel
theorem d_M_lead_91 : decode b_M_lead 91 = .ok (.if_icmp .lt 39, 3) := by decide +kernel
theorem d_M_lead_94 : decode b_M_lead 94 = .ok (.iload_n 1, 1) := by decide +kernel
theorem d_M_lead_95 : decode b_M_lead 95 = .ok (.iconst 2, 1) := by decide +kernel
theorem d_M_lead_96 : decode b_M_lead 96 = .ok (.if_icmp .ne 14, 3) := by decide +kernel
theorem d_M_lead_99 : decode b_M_lead 99 = .ok (.aload_n 0, 1) := by decide +kernel
theorem d_M_lead_100 : decode b_M_lead 100 = .ok (.getfield 211, 3) := by decide +kernel
theorem d_M_lead_103 : decode b_M_lead 103 = .ok (.iload_n 3, 1) := by decide +kernel
theorem d_M_lead_104 : decode b_M_lead 104 = .ok (.iload 4, 2) := by decide +kernel
theorem d_M_lead_106 : decode b_M_lead 106 = .ok (.iadd, 1) := by decide +kernel
theorem d_M_lead_107 : decode b_M_lead 107 = .ok (.if_icmp .gt 23, 3) := by decide +kernel
theorem d_M_lead_110 : decode b_M_lead 110 = .ok (.iload_n 1, 1) := by decide +kernel
theorem d_M_lead_111 : decode b_M_lead 111 = .ok (.iconst 4, 1) := by decide +kernel
theorem d_M_lead_112 : decode b_M_lead 112 = .ok (.if_icmp .eq 22, 3) := by decide +kernel
theorem d_M_lead_115 : decode b_M_lead 115 = .ok (.iload 5, 2) := by decide +kernel
theorem d_M_lead_117 : decode b_M_lead 117 = .ok (.i2l, 1) := by decide +kernel
theorem d_M_lead_118 : decode b_M_lead 118 = .ok (.ldc2_w 254, 3) := by decide +kernel
theorem d_M_lead_121 : decode b_M_lead 121 = .ok (.ldc2_w 270, 3) := by decide +kernel
theorem d_M_lead_124 : decode b_M_lead 124 = .ok (.invokestatic 53, 3) := by decide +kernel
theorem d_M_lead_127 : decode b_M_lead 127 = .ok (.ifCond .ne 7, 3) := by decide +kernel
theorem d_M_lead_130 : decode b_M_lead 130 = .ok (.iconst 1, 1) := by decide +kernel
theorem d_M_lead_131 : decode b_M_lead 131 = .ok (.goto 4, 3) := by decide +kernel
theorem d_M_lead_134 : decode b_M_lead 134 = .ok (.iconst 0, 1) := by decide +kernel
theorem d_M_lead_135 : decode b_M_lead 135 = .ok (.istore 6, 2) := by decide +kernel
theorem d_M_lead_137 : decode b_M_lead 137 = .ok (.aload_n 0, 1) := by decide +kernel
theorem d_M_lead_138 : decode b_M_lead 138 = .ok (.iload 6, 2) := by decide +kernel
theorem d_M_lead_140 : decode b_M_lead 140 = .ok (.iconst 1, 1) := by decide +kernel
theorem d_M_lead_141 : decode b_M_lead 141 = .ok (.invokevirtual 62, 3) := by decide +kernel
theorem d_M_lead_144 : decode b_M_lead 144 = .ok (.ifCond .eq 5, 3) := by decide +kernel
theorem d_M_lead_147 : decode b_M_lead 147 = .ok (.iconst 0, 1) := by decide +kernel
theorem d_M_lead_148 : decode b_M_lead 148 = .ok (.ireturn, 1) := by decide +kernel
theorem d_M_lead_149 : decode b_M_lead 149 = .ok (.aload_n 0, 1) := by decide +kernel
theorem d_M_lead_150 : decode b_M_lead 150 = .ok (.getfield 211, 3) := by decide +kernel
theorem d_M_lead_153 : decode b_M_lead 153 = .ok (.iload_n 3, 1) := by decide +kernel
theorem d_M_lead_154 : decode b_M_lead 154 = .ok (.isub, 1) := by decide +kernel
theorem d_M_lead_155 : decode b_M_lead 155 = .ok (.iload 4, 2) := by decide +kernel
theorem d_M_lead_157 : decode b_M_lead 157 = .ok (.isub, 1) := by decide +kernel
theorem d_M_lead_158 : decode b_M_lead 158 = .ok (.istore 7, 2) := by decide +kernel
theorem d_M_lead_160 : decode b_M_lead 160 = .ok (.iload_n 1, 1) := by decide +kernel
theorem d_M_lead_161 : decode b_M_lead 161 = .ok (.iconst 4, 1) := by decide +kernel
theorem d_M_lead_162 : decode b_M_lead 162 = .ok (.if_icmp .ne 9, 3) := by decide +kernel
theorem d_M_lead_165 : decode b_M_lead 165 = .ok (.iconst 1, 1) := by decide +kernel
theorem d_M_lead_166 : decode b_M_lead 166 = .ok (.iload_n 3, 1) := by decide +kernel
theorem d_M_lead_167 : decode b_M_lead 167 = .ok (.iadd, 1) := by decide +kernel
theorem d_M_lead_168 : decode b_M_lead 168 = .ok (.goto 28, 3) := by decide +kernel
theorem d_M_lead_171 : decode b_M_lead 171 = .ok (.bipush 9, 2) := by decide +kernel
theorem d_M_lead_173 : decode b_M_lead 173 = .ok (.iload_n 3, 1) := by decide +kernel
theorem d_M_lead_174 : decode b_M_lead 174 = .ok (.iadd, 1) := by decide +kernel
theorem d_M_lead_175 : decode b_M_lead 175 = .ok (.iload 4, 2) := by decide +kernel
theorem d_M_lead_177 : decode b_M_lead 177 = .ok (.iadd, 1) := by decide +kernel
theorem d_M_lead_178 : decode b_M_lead 178 = .ok (.iload_n 1, 1) := by decide +kernel
theorem d_M_lead_179 : decode b_M_lead 179 = .ok (.ifCond .ne 15, 3) := by decide +kernel
theorem d_M_lead_182 : decode b_M_lead 182 = .ok (.iload 7, 2) := by decide +kernel
theorem d_M_lead_184 : decode b_M_lead 184 = .ok (.i2l, 1) := by decide +kernel
theorem d_M_lead_185 : decode b_M_lead 185 = .ok (.invokestatic 84, 3) := by decide +kernel
theorem d_M_lead_188 : decode b_M_lead 188 = .ok (.iload 7, 2) := by decide +kernel
theorem d_M_lead_190 : decode b_M_lead 190 = .ok (.iadd, 1) := by decide +kernel
theorem d_M_lead_191 : decode b_M_lead 191 = .ok (.goto 4, 3) := by decide +kernel
theorem d_M_lead_194 : decode b_M_lead 194 = .ok (.iconst 0, 1) := by decide +kernel
theorem d_M_lead_195 : decode b_M_lead 195 = .ok (.iadd, 1) := by decide +kernel
theorem d_M_lead_196 : decode b_M_lead 196 = .ok (.istore 8, 2) := by decide +kernel
theorem d_M_lead_198 : decode b_M_lead 198 = .ok (.aload_n 0, 1) := by decide +kernel
theorem d_M_lead_199 : decode b_M_lead 199 = .ok (.aload_n 0, 1) := by decide +kernel
theorem d_M_lead_200 : decode b_M_lead 200 = .ok (.getfield 57, 3) := by decide +kernel
theorem d_M_lead_203 : decode b_M_lead 203 = .ok (.iload 8, 2) := by decide +kernel
theorem d_M_lead_205 : decode b_M_lead 205 = .ok (.iadd, 1) := by decide +kernel
theorem d_M_lead_206 : decode b_M_lead 206 = .ok (.ldc 7, 2) := by decide +kernel
theorem d_M_lead_208 : decode b_M_lead 208 = .ok (.if_icmp .le 7, 3) := by decide +kernel
theorem d_M_lead_211 : decode b_M_lead 211 = .ok (.iconst 1, 1) := by decide +kernel
theorem d_M_lead_212 : decode b_M_lead 212 = .ok (.goto 4, 3) := by decide +kernel
theorem d_M_lead_215 : decode b_M_lead 215 = .ok (.iconst 0, 1) := by decide +kernel
theorem d_M_lead_216 : decode b_M_lead 216 = .ok (.iconst 2, 1) := by decide +kernel
theorem d_M_lead_217 : decode b_M_lead 217 = .ok (.invokevirtual 62, 3) := by decide +kernel
theorem d_M_lead_220 : decode b_M_lead 220 = .ok (.ifCond .eq 5, 3) := by decide +kernel
theorem d_M_lead_223 : decode b_M_lead 223 = .ok (.iconst 0, 1) := by decide +kernel
theorem d_M_lead_224 : decode b_M_lead 224 = .ok (.ireturn, 1) := by decide +kernel
theorem d_M_lead_225 : decode b_M_lead 225 = .ok (.iload_n 1, 1) := by decide +kernel
theorem d_M_lead_226 : decode b_M_lead 226 = .ok (.iconst 4, 1) := by decide +kernel
theorem d_M_lead_227 : decode b_M_lead 227 = .ok (.if_icmp .ne 23, 3) := by decide +kernel
theorem d_M_lead_230 : decode b_M_lead 230 = .ok (.aload_n 0, 1) := by decide +kernel
theorem d_M_lead_231 : decode b_M_lead 231 = .ok (.bipush 64, 2) := by decide +kernel
theorem d_M_lead_233 : decode b_M_lead 233 = .ok (.iload_n 2, 1) := by decide +kernel
theorem d_M_lead_234 : decode b_M_lead 234 = .ok (.iadd, 1) := by decide +kernel
theorem d_M_lead_235 : decode b_M_lead 235 = .ok (.i2l, 1) := by decide +kernel
theorem d_M_lead_236 : decode b_M_lead 236 = .ok (.iconst 1, 1) := by decide +kernel
theorem d_M_lead_237 : decode b_M_lead 237 = .ok (.invokevirtual 66, 3) := by decide +kernel
theorem d_M_lead_240 : decode b_M_lead 240 = .ok (.aload_n 0, 1) := by decide +kernel
theorem d_M_lead_241 : decode b_M_lead 241 = .ok (.iload_n 3, 1) := by decide +kernel
theorem d_M_lead_242 : decode b_M_lead 242 = .ok (.invokevirtual 225, 3) := by decide +kernel
theorem d_M_lead_245 : decode b_M_lead 245 = .ok (.aload_n 0, 1) := by decide +kernel
theorem d_M_lead_246 : decode b_M_lead 246 = .ok (.getfield 57, 3) := by decide +kernel
theorem d_M_lead_249 : decode b_M_lead 249 = .ok (.ireturn, 1) := by decide +kernel
theorem d_M_lead_250 : decode b_M_lead 250 = .ok (.aload_n 0, 1) := by decide +kernel
theorem d_M_lead_251 : decode b_M_lead 251 = .ok (.sipush 192, 3) := by decide +kernel
theorem d_M_lead_254 : decode b_M_lead 254 = .ok (.bipush 16, 2) := by decide +kernel
theorem d_M_lead_256 : decode b_M_lead 256 = .ok (.iload_n 1, 1) := by decide +kernel
theorem d_M_lead_257 : decode b_M_lead 257 = .ok (.imul, 1) := by decide +kernel
theorem d_M_lead_258 : decode b_M_lead 258 = .ok (.iadd, 1) := by decide +kernel
theorem d_M_lead_259 : decode b_M_lead 259 = .ok (.iload_n 2, 1) := by decide +kernel
theorem d_M_lead_260 : decode b_M_lead 260 = .ok (.iadd, 1) := by decide +kernel
theorem d_M_lead_261 : decode b_M_lead 261 = .ok (.i2l, 1) := by decide +kernel
theorem d_M_lead_262 : decode b_M_lead 262 = .ok (.iconst 1, 1) := by decide +kernel
theorem d_M_lead_263 : decode b_M_lead 263 = .ok (.invokevirtual 66, 3) := by decide +kernel
theorem d_M_lead_266 : decode b_M_lead 266 = .ok (.aload_n 0, 1) := by decide +kernel
theorem d_M_lead_267 : decode b_M_lead 267 = .ok (.lconst 1, 1) := by decide +kernel
theorem d_M_lead_268 : decode b_M_lead 268 = .ok (.iconst 4, 1) := by decide +kernel
theorem d_M_lead_269 : decode b_M_lead 269 = .ok (.invokevirtual 66, 3) := by decide +kernel
theorem d_M_lead_272 : decode b_M_lead 272 = .ok (.aload_n 0, 1) := by decide +kernel
theorem d_M_lead_273 : decode b_M_lead 273 = .ok (.iload_n 3, 1) := by decide +kernel
theorem d_M_lead_274 : decode b_M_lead 274 = .ok (.i2l, 1) := by decide +kernel
theorem d_M_lead_275 : decode b_M_lead 275 = .ok (.iconst 1, 1) := by decide +kernel
theorem d_M_lead_276 : decode b_M_lead 276 = .ok (.invokevirtual 66, 3) := by decide +kernel
theorem d_M_lead_279 : decode b_M_lead 279 = .ok (.iconst 0, 1) := by decide +kernel
theorem d_M_lead_280 : decode b_M_lead 280 = .ok (.istore 9, 2) := by decide +kernel
theorem d_M_lead_282 : decode b_M_lead 282 = .ok (.iload 9, 2) := by decide +kernel
theorem d_M_lead_284 : decode b_M_lead 284 = .ok (.aload_n 0, 1) := by decide +kernel
theorem d_M_lead_285 : decode b_M_lead 285 = .ok (.getfield 211, 3) := by decide +kernel
theorem d_M_lead_288 : decode b_M_lead 288 = .ok (.if_icmp .ge 58, 3) := by decide +kernel
theorem d_M_lead_291 : decode b_M_lead 291 = .ok (.iload 9, 2) := by decide +kernel
theorem d_M_lead_293 : decode b_M_lead 293 = .ok (.iload_n 3, 1) := by decide +kernel
theorem d_M_lead_294 : decode b_M_lead 294 = .ok (.if_icmp .ne 11, 3) := by decide +kernel
theorem d_M_lead_297 : decode b_M_lead 297 = .ok (.aload_n 0, 1) := by decide +kernel
theorem d_M_lead_298 : decode b_M_lead 298 = .ok (.iload 4, 2) := by decide +kernel
theorem d_M_lead_300 : decode b_M_lead 300 = .ok (.i2l, 1) := by decide +kernel
theorem d_M_lead_301 : decode b_M_lead 301 = .ok (.iconst 1, 1) := by decide +kernel
theorem d_M_lead_302 : decode b_M_lead 302 = .ok (.invokevirtual 66, 3) := by decide +kernel
theorem d_M_lead_305 : decode b_M_lead 305 = .ok (.iload 9, 2) := by decide +kernel
theorem d_M_lead_307 : decode b_M_lead 307 = .ok (.iload_n 3, 1) := by decide +kernel
theorem d_M_lead_308 : decode b_M_lead 308 = .ok (.iload 4, 2) := by decide +kernel
theorem d_M_lead_310 : decode b_M_lead 310 = .ok (.iadd, 1) := by decide +kernel
theorem d_M_lead_311 : decode b_M_lead 311 = .ok (.if_icmp .ne 16, 3) := by decide +kernel
theorem d_M_lead_314 : decode b_M_lead 314 = .ok (.aload_n 0, 1) := by decide +kernel
theorem d_M_lead_315 : decode b_M_lead 315 = .ok (.iload 7, 2) := by decide +kernel
theorem d_M_lead_317 : decode b_M_lead 317 = .ok (.i2l, 1) := by decide +kernel
theorem d_M_lead_318 : decode b_M_lead 318 = .ok (.iload 7, 2) := by decide +kernel
theorem d_M_lead_320 : decode b_M_lead 320 = .ok (.i2l, 1) := by decide +kernel
theorem d_M_lead_321 : decode b_M_lead 321 = .ok (.invokestatic 84, 3) := by decide +kernel
theorem d_M_lead_324 : decode b_M_lead 324 = .ok (.invokevirtual 88, 3) := by decide +kernel
theorem d_M_lead_327 : decode b_M_lead 327 = .ok (.aload_n 0, 1) := by decide +kernel
theorem d_M_lead_328 : decode b_M_lead 328 = .ok (.aload_n 0, 1) := by decide +kernel
theorem d_M_lead_329 : decode b_M_lead 329 = .ok (.getfield 29, 3) := by decide +kernel
theorem d_M_lead_332 : decode b_M_lead 332 = .ok (.iload 9, 2) := by decide +kernel
theorem d_M_lead_334 : decode b_M_lead 334 = .ok (.baload, 1) := by decide +kernel
theorem d_M_lead_335 : decode b_M_lead 335 = .ok (.i2l, 1) := by decide +kernel
theorem d_M_lead_336 : decode b_M_lead 336 = .ok (.iconst 1, 1) := by decide +kernel
theorem d_M_lead_337 : decode b_M_lead 337 = .ok (.invokevirtual 66, 3) := by decide +kernel
theorem d_M_lead_340 : decode b_M_lead 340 = .ok (.iinc 9 1, 3) := by decide +kernel
theorem d_M_lead_343 : decode b_M_lead 343 = .ok (.goto (-61), 3) := by decide +kernel
theorem d_M_lead_346 : decode b_M_lead 346 = .ok (.aload_n 0, 1) := by decide +kernel
theorem d_M_lead_347 : decode b_M_lead 347 = .ok (.getfield 211, 3) := by decide +kernel
theorem d_M_lead_350 : decode b_M_lead 350 = .ok (.iload_n 3, 1) := by decide +kernel
theorem d_M_lead_351 : decode b_M_lead 351 = .ok (.if_icmp .ne 11, 3) := by decide +kernel
theorem d_M_lead_354 : decode b_M_lead 354 = .ok (.aload_n 0, 1) := by decide +kernel
theorem d_M_lead_355 : decode b_M_lead 355 = .ok (.iload 4, 2) := by decide +kernel
theorem d_M_lead_357 : decode b_M_lead 357 = .ok (.i2l, 1) := by decide +kernel
theorem d_M_lead_358 : decode b_M_lead 358 = .ok (.iconst 1, 1) := by decide +kernel
theorem d_M_lead_359 : decode b_M_lead 359 = .ok (.invokevirtual 66, 3) := by decide +kernel
theorem d_M_lead_362 : decode b_M_lead 362 = .ok (.aload_n 0, 1) := by decide +kernel
theorem d_M_lead_363 : decode b_M_lead 363 = .ok (.getfield 211, 3) := by decide +kernel
theorem d_M_lead_366 : decode b_M_lead 366 = .ok (.iload_n 3, 1) := by decide +kernel
theorem d_M_lead_367 : decode b_M_lead 367 = .ok (.iload 4, 2) := by decide +kernel
theorem d_M_lead_369 : decode b_M_lead 369 = .ok (.iadd, 1) := by decide +kernel
theorem d_M_lead_370 : decode b_M_lead 370 = .ok (.if_icmp .ne 13, 3) := by decide +kernel
theorem d_M_lead_373 : decode b_M_lead 373 = .ok (.iload_n 1, 1) := by decide +kernel
theorem d_M_lead_374 : decode b_M_lead 374 = .ok (.ifCond .ne 9, 3) := by decide +kernel
theorem d_M_lead_377 : decode b_M_lead 377 = .ok (.aload_n 0, 1) := by decide +kernel
theorem d_M_lead_378 : decode b_M_lead 378 = .ok (.lconst 0, 1) := by decide +kernel
theorem d_M_lead_379 : decode b_M_lead 379 = .ok (.iconst 1, 1) := by decide +kernel
theorem d_M_lead_380 : decode b_M_lead 380 = .ok (.invokevirtual 88, 3) := by decide +kernel
theorem d_M_lead_383 : decode b_M_lead 383 = .ok (.aload_n 0, 1) := by decide +kernel
theorem d_M_lead_384 : decode b_M_lead 384 = .ok (.iload 5, 2) := by decide +kernel
theorem d_M_lead_386 : decode b_M_lead 386 = .ok (.i2l, 1) := by decide +kernel
theorem d_M_lead_387 : decode b_M_lead 387 = .ok (.iconst 2, 1) := by decide +kernel
theorem d_M_lead_388 : decode b_M_lead 388 = .ok (.invokevirtual 88, 3) := by decide +kernel
theorem d_M_lead_391 : decode b_M_lead 391 = .ok (.aload_n 0, 1) := by decide +kernel
theorem d_M_lead_392 : decode b_M_lead 392 = .ok (.getfield 57, 3) := by decide +kernel
theorem d_M_lead_395 : decode b_M_lead 395 = .ok (.ireturn, 1) := by decide +kernel
theorem zy_M_cut : zy y_M_cut b_M_cut 8 (some .int) 2 := ⟨zmem 1272 (by decide +kernel) (by decide +kernel), zmem 73 (by decide +kernel) (by decide +kernel), by decide +kernel⟩
theorem zv_M_cut : Cond.instanceMethod y_M_cut ∈ ztb ∧ Cond.selects y_M_cut.cls y_M_cut y_M_cut ∈ ztb := ⟨zmem 1270 (by decide +kernel) (by decide +kernel), zmem 1271 (by decide +kernel) (by decide +kernel)⟩
theorem d_M_cut_0 : decode b_M_cut 0 = .ok (.aload_n 0, 1) := by decide +kernel
theorem d_M_cut_1 : decode b_M_cut 1 = .ok (.lload_n 1, 1) := by decide +kernel
theorem d_M_cut_2 : decode b_M_cut 2 = .ok (.invokestatic 80, 3) := by decide +kernel
theorem d_M_cut_5 : decode b_M_cut 5 = .ok (.ifCond .eq 17, 3) := by decide +kernel
theorem d_M_cut_8 : decode b_M_cut 8 = .ok (.lload_n 3, 1) := by decide +kernel
theorem d_M_cut_9 : decode b_M_cut 9 = .ok (.ldc2_w 132, 3) := by decide +kernel
theorem d_M_cut_12 : decode b_M_cut 12 = .ok (.lcmp, 1) := by decide +kernel
theorem d_M_cut_13 : decode b_M_cut 13 = .ok (.ifCond .lt 9, 3) := by decide +kernel
theorem d_M_cut_16 : decode b_M_cut 16 = .ok (.lload_n 1, 1) := by decide +kernel
theorem d_M_cut_17 : decode b_M_cut 17 = .ok (.lload_n 3, 1) := by decide +kernel
theorem d_M_cut_18 : decode b_M_cut 18 = .ok (.lcmp, 1) := by decide +kernel
theorem d_M_cut_19 : decode b_M_cut 19 = .ok (.ifCond .gt 7, 3) := by decide +kernel
theorem d_M_cut_22 : decode b_M_cut 22 = .ok (.iconst 1, 1) := by decide +kernel
theorem d_M_cut_23 : decode b_M_cut 23 = .ok (.goto 4, 3) := by decide +kernel
theorem d_M_cut_26 : decode b_M_cut 26 = .ok (.iconst 0, 1) := by decide +kernel
theorem d_M_cut_27 : decode b_M_cut 27 = .ok (.iconst 1, 1) := by decide +kernel
theorem d_M_cut_28 : decode b_M_cut 28 = .ok (.invokevirtual 62, 3) := by decide +kernel
theorem d_M_cut_31 : decode b_M_cut 31 = .ok (.ifCond .eq 5, 3) := by decide +kernel
theorem d_M_cut_34 : decode b_M_cut 34 = .ok (.iconst 0, 1) := by decide +kernel
theorem d_M_cut_35 : decode b_M_cut 35 = .ok (.ireturn, 1) := by decide +kernel
theorem d_M_cut_36 : decode b_M_cut 36 = .ok (.lload_n 1, 1) := by decide +kernel
theorem d_M_cut_37 : decode b_M_cut 37 = .ok (.lload_n 3, 1) := by decide +kernel
theorem d_M_cut_38 : decode b_M_cut 38 = .ok (.lsub, 1) := by decide +kernel
theorem d_M_cut_39 : decode b_M_cut 39 = .ok (.lstore 5, 2) := by decide +kernel
theorem d_M_cut_41 : decode b_M_cut 41 = .ok (.iconst 1, 1) := by decide +kernel
theorem d_M_cut_42 : decode b_M_cut 42 = .ok (.istore 7, 2) := by decide +kernel
theorem d_M_cut_44 : decode b_M_cut 44 = .ok (.iload 7, 2) := by decide +kernel
theorem d_M_cut_46 : decode b_M_cut 46 = .ok (.iconst 5, 1) := by decide +kernel
theorem d_M_cut_47 : decode b_M_cut 47 = .ok (.if_icmp .ge 27, 3) := by decide +kernel
theorem d_M_cut_50 : decode b_M_cut 50 = .ok (.lload 5, 2) := by decide +kernel
theorem d_M_cut_52 : decode b_M_cut 52 = .ok (.lconst 1, 1) := by decide +kernel
theorem d_M_cut_53 : decode b_M_cut 53 = .ok (.bipush 8, 2) := by decide +kernel
theorem d_M_cut_55 : decode b_M_cut 55 = .ok (.iload 7, 2) := by decide +kernel
theorem d_M_cut_57 : decode b_M_cut 57 = .ok (.imul, 1) := by decide +kernel
theorem d_M_cut_58 : decode b_M_cut 58 = .ok (.iconst 1, 1) := by decide +kernel
theorem d_M_cut_59 : decode b_M_cut 59 = .ok (.isub, 1) := by decide +kernel
theorem d_M_cut_60 : decode b_M_cut 60 = .ok (.lshl, 1) := by decide +kernel
theorem d_M_cut_61 : decode b_M_cut 61 = .ok (.lcmp, 1) := by decide +kernel
theorem d_M_cut_62 : decode b_M_cut 62 = .ok (.ifCond .gt 6, 3) := by decide +kernel
theorem d_M_cut_65 : decode b_M_cut 65 = .ok (.iload 7, 2) := by decide +kernel
theorem d_M_cut_67 : decode b_M_cut 67 = .ok (.ireturn, 1) := by decide +kernel
theorem d_M_cut_68 : decode b_M_cut 68 = .ok (.iinc 7 1, 3) := by decide +kernel
theorem d_M_cut_71 : decode b_M_cut 71 = .ok (.goto (-27), 3) := by decide +kernel
theorem d_M_cut_74 : decode b_M_cut 74 = .ok (.iconst 0, 1) := by decide +kernel
theorem d_M_cut_75 : decode b_M_cut 75 = .ok (.ireturn, 1) := by decide +kernel
theorem zy_M_grow : zy y_M_grow b_M_grow 20 (some .long) 3 := ⟨zmem 1276 (by decide +kernel) (by decide +kernel), zmem 73 (by decide +kernel) (by decide +kernel), by decide +kernel⟩
theorem zv_M_grow : Cond.instanceMethod y_M_grow ∈ ztb ∧ Cond.selects y_M_grow.cls y_M_grow y_M_grow ∈ ztb := ⟨zmem 1274 (by decide +kernel) (by decide +kernel), zmem 1275 (by decide +kernel) (by decide +kernel)⟩
theorem d_M_grow_0 : decode b_M_grow 0 = .ok (.lload_n 1, 1) := by decide +kernel
theorem d_M_grow_1 : decode b_M_grow 1 = .ok (.ldc2_w 132, 3) := by decide +kernel
theorem d_M_grow_4 : decode b_M_grow 4 = .ok (.ldc2_w 51, 3) := by decide +kernel
theorem d_M_grow_7 : decode b_M_grow 7 = .ok (.invokestatic 53, 3) := by decide +kernel
theorem d_M_grow_10 : decode b_M_grow 10 = .ok (.ifCond .eq 16, 3) := by decide +kernel
theorem d_M_grow_13 : decode b_M_grow 13 = .ok (.iload 5, 2) := by decide +kernel
theorem d_M_grow_15 : decode b_M_grow 15 = .ok (.i2l, 1) := by decide +kernel
theorem d_M_grow_16 : decode b_M_grow 16 = .ok (.lconst 1, 1) := by decide +kernel
theorem d_M_grow_17 : decode b_M_grow 17 = .ok (.ldc2_w 272, 3) := by decide +kernel
theorem d_M_grow_20 : decode b_M_grow 20 = .ok (.invokestatic 53, 3) := by decide +kernel
theorem d_M_grow_23 : decode b_M_grow 23 = .ok (.ifCond .ne 7, 3) := by decide +kernel
theorem d_M_grow_26 : decode b_M_grow 26 = .ok (.iconst 1, 1) := by decide +kernel
theorem d_M_grow_27 : decode b_M_grow 27 = .ok (.goto 4, 3) := by decide +kernel
theorem d_M_grow_30 : decode b_M_grow 30 = .ok (.iconst 0, 1) := by decide +kernel
theorem d_M_grow_31 : decode b_M_grow 31 = .ok (.istore 6, 2) := by decide +kernel
theorem d_M_grow_33 : decode b_M_grow 33 = .ok (.aload_n 0, 1) := by decide +kernel
theorem d_M_grow_34 : decode b_M_grow 34 = .ok (.iload 6, 2) := by decide +kernel
theorem d_M_grow_36 : decode b_M_grow 36 = .ok (.ifCond .ne 21, 3) := by decide +kernel
theorem d_M_grow_39 : decode b_M_grow 39 = .ok (.lload_n 3, 1) := by decide +kernel
theorem d_M_grow_40 : decode b_M_grow 40 = .ok (.lconst 0, 1) := by decide +kernel
theorem d_M_grow_41 : decode b_M_grow 41 = .ok (.lcmp, 1) := by decide +kernel
theorem d_M_grow_42 : decode b_M_grow 42 = .ok (.ifCond .lt 15, 3) := by decide +kernel
theorem d_M_grow_45 : decode b_M_grow 45 = .ok (.lload_n 3, 1) := by decide +kernel
theorem d_M_grow_46 : decode b_M_grow 46 = .ok (.lconst 1, 1) := by decide +kernel
theorem d_M_grow_47 : decode b_M_grow 47 = .ok (.bipush 8, 2) := by decide +kernel
theorem d_M_grow_49 : decode b_M_grow 49 = .ok (.iload 5, 2) := by decide +kernel
theorem d_M_grow_51 : decode b_M_grow 51 = .ok (.imul, 1) := by decide +kernel
theorem d_M_grow_52 : decode b_M_grow 52 = .ok (.lshl, 1) := by decide +kernel
theorem d_M_grow_53 : decode b_M_grow 53 = .ok (.lcmp, 1) := by decide +kernel
theorem d_M_grow_54 : decode b_M_grow 54 = .ok (.ifCond .lt 7, 3) := by decide +kernel
theorem d_M_grow_57 : decode b_M_grow 57 = .ok (.iconst 1, 1) := by decide +kernel
theorem d_M_grow_58 : decode b_M_grow 58 = .ok (.goto 4, 3) := by decide +kernel
theorem d_M_grow_61 : decode b_M_grow 61 = .ok (.iconst 0, 1) := by decide +kernel
theorem d_M_grow_62 : decode b_M_grow 62 = .ok (.iconst 1, 1) := by decide +kernel
theorem d_M_grow_63 : decode b_M_grow 63 = .ok (.invokevirtual 62, 3) := by decide +kernel
theorem d_M_grow_66 : decode b_M_grow 66 = .ok (.ifCond .eq 5, 3) := by decide +kernel
theorem d_M_grow_69 : decode b_M_grow 69 = .ok (.lconst 0, 1) := by decide +kernel
theorem d_M_grow_70 : decode b_M_grow 70 = .ok (.lreturn, 1) := by decide +kernel
theorem d_M_grow_71 : decode b_M_grow 71 = .ok (.lconst 1, 1) := by decide +kernel
theorem d_M_grow_72 : decode b_M_grow 72 = .ok (.bipush 8, 2) := by decide +kernel
theorem d_M_grow_74 : decode b_M_grow 74 = .ok (.iload 5, 2) := by decide +kernel
theorem d_M_grow_76 : decode b_M_grow 76 = .ok (.imul, 1) := by decide +kernel
theorem d_M_grow_77 : decode b_M_grow 77 = .ok (.lshl, 1) := by decide +kernel
theorem d_M_grow_78 : decode b_M_grow 78 = .ok (.lstore 7, 2) := by decide +kernel
theorem d_M_grow_80 : decode b_M_grow 80 = .ok (.lload_n 1, 1) := by decide +kernel
theorem d_M_grow_81 : decode b_M_grow 81 = .ok (.lconst 1, 1) := by decide +kernel
theorem d_M_grow_82 : decode b_M_grow 82 = .ok (.ladd, 1) := by decide +kernel
theorem d_M_grow_83 : decode b_M_grow 83 = .ok (.lstore 9, 2) := by decide +kernel
theorem d_M_grow_85 : decode b_M_grow 85 = .ok (.ldc2_w 132, 3) := by decide +kernel
theorem d_M_grow_88 : decode b_M_grow 88 = .ok (.lstore 11, 2) := by decide +kernel
theorem d_M_grow_90 : decode b_M_grow 90 = .ok (.lconst 0, 1) := by decide +kernel
theorem d_M_grow_91 : decode b_M_grow 91 = .ok (.lstore 13, 2) := by decide +kernel
theorem d_M_grow_93 : decode b_M_grow 93 = .ok (.iconst (-1), 1) := by decide +kernel
theorem d_M_grow_94 : decode b_M_grow 94 = .ok (.istore 15, 2) := by decide +kernel
theorem d_M_grow_96 : decode b_M_grow 96 = .ok (.iload 15, 2) := by decide +kernel
theorem d_M_grow_98 : decode b_M_grow 98 = .ok (.iconst 2, 1) := by decide +kernel
theorem d_M_grow_99 : decode b_M_grow 99 = .ok (.if_icmp .ge 82, 3) := by decide +kernel
theorem d_M_grow_102 : decode b_M_grow 102 = .ok (.lload 9, 2) := by decide +kernel
theorem d_M_grow_104 : decode b_M_grow 104 = .ok (.lload 7, 2) := by decide +kernel
theorem d_M_grow_106 : decode b_M_grow 106 = .ok (.ldiv, 1) := by decide +kernel
theorem d_M_grow_107 : decode b_M_grow 107 = .ok (.iload 15, 2) := by decide +kernel
theorem d_M_grow_109 : decode b_M_grow 109 = .ok (.i2l, 1) := by decide +kernel
theorem d_M_grow_110 : decode b_M_grow 110 = .ok (.ladd, 1) := by decide +kernel
theorem d_M_grow_111 : decode b_M_grow 111 = .ok (.lload 7, 2) := by decide +kernel
theorem d_M_grow_113 : decode b_M_grow 113 = .ok (.lmul, 1) := by decide +kernel
theorem d_M_grow_114 : decode b_M_grow 114 = .ok (.lload_n 3, 1) := by decide +kernel
theorem d_M_grow_115 : decode b_M_grow 115 = .ok (.ladd, 1) := by decide +kernel
theorem d_M_grow_116 : decode b_M_grow 116 = .ok (.lstore 16, 2) := by decide +kernel
theorem d_M_grow_118 : decode b_M_grow 118 = .ok (.lload 16, 2) := by decide +kernel
theorem d_M_grow_120 : decode b_M_grow 120 = .ok (.invokestatic 80, 3) := by decide +kernel
theorem d_M_grow_123 : decode b_M_grow 123 = .ok (.ifCond .ne 6, 3) := by decide +kernel
theorem d_M_grow_126 : decode b_M_grow 126 = .ok (.goto 49, 3) := by decide +kernel
theorem d_M_grow_129 : decode b_M_grow 129 = .ok (.lload 16, 2) := by decide +kernel
theorem d_M_grow_131 : decode b_M_grow 131 = .ok (.lload 9, 2) := by decide +kernel
theorem d_M_grow_133 : decode b_M_grow 133 = .ok (.lcmp, 1) := by decide +kernel
theorem d_M_grow_134 : decode b_M_grow 134 = .ok (.ifCond .ge 11, 3) := by decide +kernel
theorem d_M_grow_137 : decode b_M_grow 137 = .ok (.lload 9, 2) := by decide +kernel
theorem d_M_grow_139 : decode b_M_grow 139 = .ok (.lload 16, 2) := by decide +kernel
theorem d_M_grow_141 : decode b_M_grow 141 = .ok (.lsub, 1) := by decide +kernel
theorem d_M_grow_142 : decode b_M_grow 142 = .ok (.goto 8, 3) := by decide +kernel
theorem d_M_grow_145 : decode b_M_grow 145 = .ok (.lload 16, 2) := by decide +kernel
theorem d_M_grow_147 : decode b_M_grow 147 = .ok (.lload 9, 2) := by decide +kernel
theorem d_M_grow_149 : decode b_M_grow 149 = .ok (.lsub, 1) := by decide +kernel
theorem d_M_grow_150 : decode b_M_grow 150 = .ok (.lstore 18, 2) := by decide +kernel
theorem d_M_grow_152 : decode b_M_grow 152 = .ok (.lload 11, 2) := by decide +kernel
theorem d_M_grow_154 : decode b_M_grow 154 = .ok (.lconst 0, 1) := by decide +kernel
theorem d_M_grow_155 : decode b_M_grow 155 = .ok (.lcmp, 1) := by decide +kernel
theorem d_M_grow_156 : decode b_M_grow 156 = .ok (.ifCond .lt 11, 3) := by decide +kernel
theorem d_M_grow_159 : decode b_M_grow 159 = .ok (.lload 18, 2) := by decide +kernel
theorem d_M_grow_161 : decode b_M_grow 161 = .ok (.lload 13, 2) := by decide +kernel
theorem d_M_grow_163 : decode b_M_grow 163 = .ok (.lcmp, 1) := by decide +kernel
theorem d_M_grow_164 : decode b_M_grow 164 = .ok (.ifCond .gt 11, 3) := by decide +kernel
theorem d_M_grow_167 : decode b_M_grow 167 = .ok (.lload 16, 2) := by decide +kernel
theorem d_M_grow_169 : decode b_M_grow 169 = .ok (.lstore 11, 2) := by decide +kernel
theorem d_M_grow_171 : decode b_M_grow 171 = .ok (.lload 18, 2) := by decide +kernel
theorem d_M_grow_173 : decode b_M_grow 173 = .ok (.lstore 13, 2) := by decide +kernel
theorem d_M_grow_175 : decode b_M_grow 175 = .ok (.iinc 15 1, 3) := by decide +kernel
theorem d_M_grow_178 : decode b_M_grow 178 = .ok (.goto (-82), 3) := by decide +kernel
theorem d_M_grow_181 : decode b_M_grow 181 = .ok (.lload 11, 2) := by decide +kernel
theorem d_M_grow_183 : decode b_M_grow 183 = .ok (.lreturn, 1) := by decide +kernel
theorem zy_M_hasBytes : zy y_M_hasBytes b_M_hasBytes 1 (some .boolean) 1 := ⟨zmem 936 (by decide +kernel) (by decide +kernel), zmem 73 (by decide +kernel) (by decide +kernel), by decide +kernel⟩
theorem zv_M_hasBytes : Cond.static y_M_hasBytes ∈ ztb := zmem 935 (by decide +kernel) (by decide +kernel)
theorem d_M_hasBytes_0 : decode b_M_hasBytes 0 = .ok (.iload_n 0, 1) := by decide +kernel
theorem d_M_hasBytes_1 : decode b_M_hasBytes 1 = .ok (.ifCond .eq 26, 3) := by decide +kernel
theorem d_M_hasBytes_4 : decode b_M_hasBytes 4 = .ok (.iload_n 0, 1) := by decide +kernel
theorem d_M_hasBytes_5 : decode b_M_hasBytes 5 = .ok (.iconst 2, 1) := by decide +kernel
theorem d_M_hasBytes_6 : decode b_M_hasBytes 6 = .ok (.if_icmp .eq 21, 3) := by decide +kernel
theorem d_M_hasBytes_9 : decode b_M_hasBytes 9 = .ok (.iload_n 0, 1) := by decide +kernel
theorem d_M_hasBytes_10 : decode b_M_hasBytes 10 = .ok (.bipush 13, 2) := by decide +kernel
theorem d_M_hasBytes_12 : decode b_M_hasBytes 12 = .ok (.if_icmp .eq 15, 3) := by decide +kernel
theorem d_M_hasBytes_15 : decode b_M_hasBytes 15 = .ok (.iload_n 0, 1) := by decide +kernel
theorem d_M_hasBytes_16 : decode b_M_hasBytes 16 = .ok (.bipush 15, 2) := by decide +kernel
theorem d_M_hasBytes_18 : decode b_M_hasBytes 18 = .ok (.if_icmp .eq 9, 3) := by decide +kernel
theorem d_M_hasBytes_21 : decode b_M_hasBytes 21 = .ok (.iload_n 0, 1) := by decide +kernel
theorem d_M_hasBytes_22 : decode b_M_hasBytes 22 = .ok (.bipush 16, 2) := by decide +kernel
theorem d_M_hasBytes_24 : decode b_M_hasBytes 24 = .ok (.if_icmp .ne 7, 3) := by decide +kernel
theorem d_M_hasBytes_27 : decode b_M_hasBytes 27 = .ok (.iconst 1, 1) := by decide +kernel
theorem d_M_hasBytes_28 : decode b_M_hasBytes 28 = .ok (.goto 4, 3) := by decide +kernel
theorem d_M_hasBytes_31 : decode b_M_hasBytes 31 = .ok (.iconst 0, 1) := by decide +kernel
theorem d_M_hasBytes_32 : decode b_M_hasBytes 32 = .ok (.ireturn, 1) := by decide +kernel
theorem zy_M_forgetParameters : zy y_M_forgetParameters b_M_forgetParameters 2 none 0 := ⟨zmem 933 (by decide +kernel) (by decide +kernel), zmem 73 (by decide +kernel) (by decide +kernel), by decide +kernel⟩
theorem zv_M_forgetParameters : Cond.instanceMethod y_M_forgetParameters ∈ ztb ∧ Cond.selects y_M_forgetParameters.cls y_M_forgetParameters y_M_forgetParameters ∈ ztb := ⟨zmem 932 (by decide +kernel) (by decide +kernel), zmem 25 (by decide +kernel) (by decide +kernel)⟩
theorem d_M_forgetParameters_0 : decode b_M_forgetParameters 0 = .ok (.iconst 0, 1) := by decide +kernel
theorem d_M_forgetParameters_1 : decode b_M_forgetParameters 1 = .ok (.istore_n 1, 1) := by decide +kernel
theorem d_M_forgetParameters_2 : decode b_M_forgetParameters 2 = .ok (.iload_n 1, 1) := by decide +kernel
theorem d_M_forgetParameters_3 : decode b_M_forgetParameters 3 = .ok (.bipush 17, 2) := by decide +kernel
theorem d_M_forgetParameters_5 : decode b_M_forgetParameters 5 = .ok (.if_icmp .ge 29, 3) := by decide +kernel
theorem d_M_forgetParameters_8 : decode b_M_forgetParameters 8 = .ok (.aload_n 0, 1) := by decide +kernel
theorem d_M_forgetParameters_9 : decode b_M_forgetParameters 9 = .ok (.getfield 42, 3) := by decide +kernel
theorem d_M_forgetParameters_12 : decode b_M_forgetParameters 12 = .ok (.iload_n 1, 1) := by decide +kernel
theorem d_M_forgetParameters_13 : decode b_M_forgetParameters 13 = .ok (.iload_n 1, 1) := by decide +kernel
theorem d_M_forgetParameters_14 : decode b_M_forgetParameters 14 = .ok (.invokestatic 274, 3) := by decide +kernel
theorem d_M_forgetParameters_17 : decode b_M_forgetParameters 17 = .ok (.ifCond .eq 9, 3) := by decide +kernel
theorem d_M_forgetParameters_20 : decode b_M_forgetParameters 20 = .ok (.ldc2_w 132, 3) := by decide +kernel
theorem d_M_forgetParameters_23 : decode b_M_forgetParameters 23 = .ok (.goto 4, 3) := by decide +kernel
theorem d_M_forgetParameters_26 : decode b_M_forgetParameters 26 = .ok (.lconst 0, 1) := by decide +kernel
theorem d_M_forgetParameters_27 : decode b_M_forgetParameters 27 = .ok (.lastore, 1) := by decide +kernel
theorem d_M_forgetParameters_28 : decode b_M_forgetParameters 28 = .ok (.iinc 1 1, 3) := by decide +kernel
theorem d_M_forgetParameters_31 : decode b_M_forgetParameters 31 = .ok (.goto (-29), 3) := by decide +kernel
theorem d_M_forgetParameters_34 : decode b_M_forgetParameters 34 = .ok (.aload_n 0, 1) := by decide +kernel
theorem d_M_forgetParameters_35 : decode b_M_forgetParameters 35 = .ok (.getfield 42, 3) := by decide +kernel
theorem d_M_forgetParameters_38 : decode b_M_forgetParameters 38 = .ok (.iconst 3, 1) := by decide +kernel
theorem d_M_forgetParameters_39 : decode b_M_forgetParameters 39 = .ok (.ldc2_w 277, 3) := by decide +kernel
theorem d_M_forgetParameters_42 : decode b_M_forgetParameters 42 = .ok (.lastore, 1) := by decide +kernel
theorem d_M_forgetParameters_43 : decode b_M_forgetParameters 43 = .ok (.aload_n 0, 1) := by decide +kernel
theorem d_M_forgetParameters_44 : decode b_M_forgetParameters 44 = .ok (.getfield 42, 3) := by decide +kernel
theorem d_M_forgetParameters_47 : decode b_M_forgetParameters 47 = .ok (.bipush 10, 2) := by decide +kernel
theorem d_M_forgetParameters_49 : decode b_M_forgetParameters 49 = .ok (.ldc2_w 78, 3) := by decide +kernel
theorem d_M_forgetParameters_52 : decode b_M_forgetParameters 52 = .ok (.lastore, 1) := by decide +kernel
theorem d_M_forgetParameters_53 : decode b_M_forgetParameters 53 = .ok (.aload_n 0, 1) := by decide +kernel
theorem d_M_forgetParameters_54 : decode b_M_forgetParameters 54 = .ok (.getfield 42, 3) := by decide +kernel
theorem d_M_forgetParameters_57 : decode b_M_forgetParameters 57 = .ok (.bipush 11, 2) := by decide +kernel
theorem d_M_forgetParameters_59 : decode b_M_forgetParameters 59 = .ok (.ldc2_w 279, 3) := by decide +kernel
theorem d_M_forgetParameters_62 : decode b_M_forgetParameters 62 = .ok (.lastore, 1) := by decide +kernel
theorem d_M_forgetParameters_63 : decode b_M_forgetParameters 63 = .ok (.aload_n 0, 1) := by decide +kernel
theorem d_M_forgetParameters_64 : decode b_M_forgetParameters 64 = .ok (.getfield 42, 3) := by decide +kernel
theorem d_M_forgetParameters_67 : decode b_M_forgetParameters 67 = .ok (.bipush 14, 2) := by decide +kernel
theorem d_M_forgetParameters_69 : decode b_M_forgetParameters 69 = .ok (.ldc2_w 76, 3) := by decide +kernel
theorem d_M_forgetParameters_72 : decode b_M_forgetParameters 72 = .ok (.lastore, 1) := by decide +kernel
theorem d_M_forgetParameters_73 : decode b_M_forgetParameters 73 = .ok (.return_, 1) := by decide +kernel
theorem zy_M_suitsId : zy y_M_suitsId b_M_suitsId 11 (some .boolean) 3 := ⟨zmem 1289 (by decide +kernel) (by decide +kernel), zmem 73 (by decide +kernel) (by decide +kernel), by decide +kernel⟩
theorem zv_M_suitsId : Cond.instanceMethod y_M_suitsId ∈ ztb ∧ Cond.selects y_M_suitsId.cls y_M_suitsId y_M_suitsId ∈ ztb := ⟨zmem 1288 (by decide +kernel) (by decide +kernel), zmem 60 (by decide +kernel) (by decide +kernel)⟩
theorem d_M_suitsId_0 : decode b_M_suitsId 0 = .ok (.iload_n 1, 1) := by decide +kernel
theorem d_M_suitsId_1 : decode b_M_suitsId 1 = .ok (.bipush 12, 2) := by decide +kernel
theorem d_M_suitsId_3 : decode b_M_suitsId 3 = .ok (.if_icmp .ne 13, 3) := by decide +kernel
theorem d_M_suitsId_6 : decode b_M_suitsId 6 = .ok (.iload_n 3, 1) := by decide +kernel
theorem d_M_suitsId_7 : decode b_M_suitsId 7 = .ok (.ifCond .ne 7, 3) := by decide +kernel
theorem d_M_suitsId_10 : decode b_M_suitsId 10 = .ok (.iconst 1, 1) := by decide +kernel
theorem d_M_suitsId_11 : decode b_M_suitsId 11 = .ok (.goto 4, 3) := by decide +kernel
theorem d_M_suitsId_14 : decode b_M_suitsId 14 = .ok (.iconst 0, 1) := by decide +kernel
theorem d_M_suitsId_15 : decode b_M_suitsId 15 = .ok (.ireturn, 1) := by decide +kernel
theorem d_M_suitsId_16 : decode b_M_suitsId 16 = .ok (.iload_n 1, 1) := by decide +kernel
theorem d_M_suitsId_17 : decode b_M_suitsId 17 = .ok (.iconst 2, 1) := by decide +kernel
theorem d_M_suitsId_18 : decode b_M_suitsId 18 = .ok (.if_icmp .ne 15, 3) := by decide +kernel
theorem d_M_suitsId_21 : decode b_M_suitsId 21 = .ok (.iload_n 3, 1) := by decide +kernel
theorem d_M_suitsId_22 : decode b_M_suitsId 22 = .ok (.bipush 16, 2) := by decide +kernel
theorem d_M_suitsId_24 : decode b_M_suitsId 24 = .ok (.if_icmp .ne 7, 3) := by decide +kernel
theorem d_M_suitsId_27 : decode b_M_suitsId 27 = .ok (.iconst 1, 1) := by decide +kernel
theorem d_M_suitsId_28 : decode b_M_suitsId 28 = .ok (.goto 4, 3) := by decide +kernel
theorem d_M_suitsId_31 : decode b_M_suitsId 31 = .ok (.iconst 0, 1) := by decide +kernel
theorem d_M_suitsId_32 : decode b_M_suitsId 32 = .ok (.ireturn, 1) := by decide +kernel
theorem d_M_suitsId_33 : decode b_M_suitsId 33 = .ok (.iload_n 1, 1) := by decide +kernel
theorem d_M_suitsId_34 : decode b_M_suitsId 34 = .ok (.bipush 13, 2) := by decide +kernel
theorem d_M_suitsId_36 : decode b_M_suitsId 36 = .ok (.if_icmp .ne 21, 3) := by decide +kernel
theorem d_M_suitsId_39 : decode b_M_suitsId 39 = .ok (.iload_n 3, 1) := by decide +kernel
theorem d_M_suitsId_40 : decode b_M_suitsId 40 = .ok (.bipush 41, 2) := by decide +kernel
theorem d_M_suitsId_42 : decode b_M_suitsId 42 = .ok (.if_icmp .lt 13, 3) := by decide +kernel
theorem d_M_suitsId_45 : decode b_M_suitsId 45 = .ok (.iload_n 3, 1) := by decide +kernel
theorem d_M_suitsId_46 : decode b_M_suitsId 46 = .ok (.bipush 61, 2) := by decide +kernel
theorem d_M_suitsId_48 : decode b_M_suitsId 48 = .ok (.if_icmp .gt 7, 3) := by decide +kernel
theorem d_M_suitsId_51 : decode b_M_suitsId 51 = .ok (.iconst 1, 1) := by decide +kernel
theorem d_M_suitsId_52 : decode b_M_suitsId 52 = .ok (.goto 4, 3) := by decide +kernel
theorem d_M_suitsId_55 : decode b_M_suitsId 55 = .ok (.iconst 0, 1) := by decide +kernel
theorem d_M_suitsId_56 : decode b_M_suitsId 56 = .ok (.ireturn, 1) := by decide +kernel
theorem d_M_suitsId_57 : decode b_M_suitsId 57 = .ok (.iload_n 1, 1) := by decide +kernel
theorem d_M_suitsId_58 : decode b_M_suitsId 58 = .ok (.invokestatic 274, 3) := by decide +kernel
theorem d_M_suitsId_61 : decode b_M_suitsId 61 = .ok (.ifCond .eq 15, 3) := by decide +kernel
theorem d_M_suitsId_64 : decode b_M_suitsId 64 = .ok (.iload_n 3, 1) := by decide +kernel
theorem d_M_suitsId_65 : decode b_M_suitsId 65 = .ok (.bipush 20, 2) := by decide +kernel
theorem d_M_suitsId_67 : decode b_M_suitsId 67 = .ok (.if_icmp .gt 7, 3) := by decide +kernel
theorem d_M_suitsId_70 : decode b_M_suitsId 70 = .ok (.iconst 1, 1) := by decide +kernel
theorem d_M_suitsId_71 : decode b_M_suitsId 71 = .ok (.goto 4, 3) := by decide +kernel
theorem d_M_suitsId_74 : decode b_M_suitsId 74 = .ok (.iconst 0, 1) := by decide +kernel
theorem d_M_suitsId_75 : decode b_M_suitsId 75 = .ok (.ireturn, 1) := by decide +kernel
theorem d_M_suitsId_76 : decode b_M_suitsId 76 = .ok (.aload_n 0, 1) := by decide +kernel
theorem d_M_suitsId_77 : decode b_M_suitsId 77 = .ok (.getfield 110, 3) := by decide +kernel
theorem d_M_suitsId_80 : decode b_M_suitsId 80 = .ok (.istore 4, 2) := by decide +kernel
theorem d_M_suitsId_82 : decode b_M_suitsId 82 = .ok (.aload_n 0, 1) := by decide +kernel
theorem d_M_suitsId_83 : decode b_M_suitsId 83 = .ok (.getfield 113, 3) := by decide +kernel
theorem d_M_suitsId_86 : decode b_M_suitsId 86 = .ok (.istore 5, 2) := by decide +kernel
theorem d_M_suitsId_88 : decode b_M_suitsId 88 = .ok (.aload_n 0, 1) := by decide +kernel
theorem d_M_suitsId_89 : decode b_M_suitsId 89 = .ok (.iload_n 2, 1) := by decide +kernel
theorem d_M_suitsId_90 : decode b_M_suitsId 90 = .ok (.iload_n 2, 1) := by decide +kernel
theorem d_M_suitsId_91 : decode b_M_suitsId 91 = .ok (.iload_n 3, 1) := by decide +kernel
theorem d_M_suitsId_92 : decode b_M_suitsId 92 = .ok (.iadd, 1) := by decide +kernel
theorem d_M_suitsId_93 : decode b_M_suitsId 93 = .ok (.invokevirtual 124, 3) := by decide +kernel
theorem d_M_suitsId_96 : decode b_M_suitsId 96 = .ok (.aload_n 0, 1) := by decide +kernel
theorem d_M_suitsId_97 : decode b_M_suitsId 97 = .ok (.invokevirtual 128, 3) := by decide +kernel
theorem d_M_suitsId_100 : decode b_M_suitsId 100 = .ok (.lstore 6, 2) := by decide +kernel
theorem d_M_suitsId_102 : decode b_M_suitsId 102 = .ok (.aload_n 0, 1) := by decide +kernel
theorem d_M_suitsId_103 : decode b_M_suitsId 103 = .ok (.getfield 116, 3) := by decide +kernel
theorem d_M_suitsId_106 : decode b_M_suitsId 106 = .ok (.ifCond .ne 18, 3) := by decide +kernel
theorem d_M_suitsId_109 : decode b_M_suitsId 109 = .ok (.aload_n 0, 1) := by decide +kernel
theorem d_M_suitsId_110 : decode b_M_suitsId 110 = .ok (.getfield 110, 3) := by decide +kernel
theorem d_M_suitsId_113 : decode b_M_suitsId 113 = .ok (.aload_n 0, 1) := by decide +kernel
theorem d_M_suitsId_114 : decode b_M_suitsId 114 = .ok (.getfield 113, 3) := by decide +kernel
theorem d_M_suitsId_117 : decode b_M_suitsId 117 = .ok (.if_icmp .ne 7, 3) := by decide +kernel
theorem d_M_suitsId_120 : decode b_M_suitsId 120 = .ok (.iconst 1, 1) := by decide +kernel
theorem d_M_suitsId_121 : decode b_M_suitsId 121 = .ok (.goto 4, 3) := by decide +kernel
theorem d_M_suitsId_124 : decode b_M_suitsId 124 = .ok (.iconst 0, 1) := by decide +kernel
theorem d_M_suitsId_125 : decode b_M_suitsId 125 = .ok (.istore 8, 2) := by decide +kernel
theorem d_M_suitsId_127 : decode b_M_suitsId 127 = .ok (.aload_n 0, 1) := by decide +kernel
theorem d_M_suitsId_128 : decode b_M_suitsId 128 = .ok (.iload 4, 2) := by decide +kernel
theorem d_M_suitsId_130 : decode b_M_suitsId 130 = .ok (.putfield 110, 3) := by decide +kernel
theorem d_M_suitsId_133 : decode b_M_suitsId 133 = .ok (.aload_n 0, 1) := by decide +kernel
theorem d_M_suitsId_134 : decode b_M_suitsId 134 = .ok (.iload 5, 2) := by decide +kernel
theorem d_M_suitsId_136 : decode b_M_suitsId 136 = .ok (.putfield 113, 3) := by decide +kernel
theorem d_M_suitsId_139 : decode b_M_suitsId 139 = .ok (.aload_n 0, 1) := by decide +kernel
theorem d_M_suitsId_140 : decode b_M_suitsId 140 = .ok (.iconst 0, 1) := by decide +kernel
theorem d_M_suitsId_141 : decode b_M_suitsId 141 = .ok (.putfield 116, 3) := by decide +kernel
theorem d_M_suitsId_144 : decode b_M_suitsId 144 = .ok (.aload_n 0, 1) := by decide +kernel
theorem d_M_suitsId_145 : decode b_M_suitsId 145 = .ok (.getfield 42, 3) := by decide +kernel
theorem d_M_suitsId_148 : decode b_M_suitsId 148 = .ok (.iload_n 1, 1) := by decide +kernel
theorem d_M_suitsId_149 : decode b_M_suitsId 149 = .ok (.lload 6, 2) := by decide +kernel
theorem d_M_suitsId_151 : decode b_M_suitsId 151 = .ok (.lastore, 1) := by decide +kernel
theorem d_M_suitsId_152 : decode b_M_suitsId 152 = .ok (.iload_n 1, 1) := by decide +kernel
theorem d_M_suitsId_153 : decode b_M_suitsId 153 = .ok (.iconst 3, 1) := by decide +kernel
theorem d_M_suitsId_154 : decode b_M_suitsId 154 = .ok (.if_icmp .ne 12, 3) := by decide +kernel
theorem d_M_suitsId_157 : decode b_M_suitsId 157 = .ok (.lload 6, 2) := by decide +kernel
theorem d_M_suitsId_159 : decode b_M_suitsId 159 = .ok (.ldc2_w 281, 3) := by decide +kernel
theorem d_M_suitsId_162 : decode b_M_suitsId 162 = .ok (.lcmp, 1) := by decide +kernel
theorem d_M_suitsId_163 : decode b_M_suitsId 163 = .ok (.ifCond .lt 18, 3) := by decide +kernel
theorem d_M_suitsId_166 : decode b_M_suitsId 166 = .ok (.iload_n 1, 1) := by decide +kernel
theorem d_M_suitsId_167 : decode b_M_suitsId 167 = .ok (.bipush 14, 2) := by decide +kernel
theorem d_M_suitsId_169 : decode b_M_suitsId 169 = .ok (.if_icmp .ne 16, 3) := by decide +kernel
theorem d_M_suitsId_172 : decode b_M_suitsId 172 = .ok (.lload 6, 2) := by decide +kernel
theorem d_M_suitsId_174 : decode b_M_suitsId 174 = .ok (.ldc2_w 76, 3) := by decide +kernel
theorem d_M_suitsId_177 : decode b_M_suitsId 177 = .ok (.lcmp, 1) := by decide +kernel
theorem d_M_suitsId_178 : decode b_M_suitsId 178 = .ok (.ifCond .ge 7, 3) := by decide +kernel
theorem d_M_suitsId_181 : decode b_M_suitsId 181 = .ok (.iconst 1, 1) := by decide +kernel
theorem d_M_suitsId_182 : decode b_M_suitsId 182 = .ok (.goto 4, 3) := by decide +kernel
theorem d_M_suitsId_185 : decode b_M_suitsId 185 = .ok (.iconst 0, 1) := by decide +kernel
theorem d_M_suitsId_186 : decode b_M_suitsId 186 = .ok (.istore 9, 2) := by decide +kernel
theorem d_M_suitsId_188 : decode b_M_suitsId 188 = .ok (.iload_n 1, 1) := by decide +kernel
theorem d_M_suitsId_189 : decode b_M_suitsId 189 = .ok (.bipush 8, 2) := by decide +kernel
theorem d_M_suitsId_191 : decode b_M_suitsId 191 = .ok (.if_icmp .eq 9, 3) := by decide +kernel
theorem d_M_suitsId_194 : decode b_M_suitsId 194 = .ok (.iload_n 1, 1) := by decide +kernel
theorem d_M_suitsId_195 : decode b_M_suitsId 195 = .ok (.bipush 9, 2) := by decide +kernel
theorem d_M_suitsId_197 : decode b_M_suitsId 197 = .ok (.if_icmp .ne 12, 3) := by decide +kernel
theorem d_M_suitsId_200 : decode b_M_suitsId 200 = .ok (.lload 6, 2) := by decide +kernel
theorem d_M_suitsId_202 : decode b_M_suitsId 202 = .ok (.ldc2_w 188, 3) := by decide +kernel
theorem d_M_suitsId_205 : decode b_M_suitsId 205 = .ok (.lcmp, 1) := by decide +kernel
theorem d_M_suitsId_206 : decode b_M_suitsId 206 = .ok (.ifCond .gt 33, 3) := by decide +kernel
theorem d_M_suitsId_209 : decode b_M_suitsId 209 = .ok (.iload_n 1, 1) := by decide +kernel
theorem d_M_suitsId_210 : decode b_M_suitsId 210 = .ok (.bipush 10, 2) := by decide +kernel
theorem d_M_suitsId_212 : decode b_M_suitsId 212 = .ok (.if_icmp .ne 12, 3) := by decide +kernel
theorem d_M_suitsId_215 : decode b_M_suitsId 215 = .ok (.lload 6, 2) := by decide +kernel
theorem d_M_suitsId_217 : decode b_M_suitsId 217 = .ok (.ldc2_w 254, 3) := by decide +kernel
theorem d_M_suitsId_220 : decode b_M_suitsId 220 = .ok (.lcmp, 1) := by decide +kernel
theorem d_M_suitsId_221 : decode b_M_suitsId 221 = .ok (.ifCond .gt 18, 3) := by decide +kernel
theorem d_M_suitsId_224 : decode b_M_suitsId 224 = .ok (.iload_n 1, 1) := by decide +kernel
theorem d_M_suitsId_225 : decode b_M_suitsId 225 = .ok (.bipush 11, 2) := by decide +kernel
theorem d_M_suitsId_227 : decode b_M_suitsId 227 = .ok (.if_icmp .ne 16, 3) := by decide +kernel
theorem d_M_suitsId_230 : decode b_M_suitsId 230 = .ok (.lload 6, 2) := by decide +kernel
theorem d_M_suitsId_232 : decode b_M_suitsId 232 = .ok (.ldc2_w 270, 3) := by decide +kernel
theorem d_M_suitsId_235 : decode b_M_suitsId 235 = .ok (.lcmp, 1) := by decide +kernel
theorem d_M_suitsId_236 : decode b_M_suitsId 236 = .ok (.ifCond .le 7, 3) := by decide +kernel
theorem d_M_suitsId_239 : decode b_M_suitsId 239 = .ok (.iconst 1, 1) := by decide +kernel
theorem d_M_suitsId_240 : decode b_M_suitsId 240 = .ok (.goto 4, 3) := by decide +kernel
theorem d_M_suitsId_243 : decode b_M_suitsId 243 = .ok (.iconst 0, 1) := by decide +kernel
theorem d_M_suitsId_244 : decode b_M_suitsId 244 = .ok (.istore 10, 2) := by decide +kernel
theorem d_M_suitsId_246 : decode b_M_suitsId 246 = .ok (.iload 8, 2) := by decide +kernel
theorem d_M_suitsId_248 : decode b_M_suitsId 248 = .ok (.ifCond .eq 17, 3) := by decide +kernel
theorem d_M_suitsId_251 : decode b_M_suitsId 251 = .ok (.iload 9, 2) := by decide +kernel
theorem d_M_suitsId_253 : decode b_M_suitsId 253 = .ok (.ifCond .ne 12, 3) := by decide +kernel
theorem d_M_suitsId_256 : decode b_M_suitsId 256 = .ok (.iload 10, 2) := by decide +kernel
theorem d_M_suitsId_258 : decode b_M_suitsId 258 = .ok (.ifCond .ne 7, 3) := by decide +kernel
theorem d_M_suitsId_261 : decode b_M_suitsId 261 = .ok (.iconst 1, 1) := by decide +kernel
theorem d_M_suitsId_262 : decode b_M_suitsId 262 = .ok (.goto 4, 3) := by decide +kernel
theorem d_M_suitsId_265 : decode b_M_suitsId 265 = .ok (.iconst 0, 1) := by decide +kernel
theorem d_M_suitsId_266 : decode b_M_suitsId 266 = .ok (.ireturn, 1) := by decide +kernel
theorem zy_M_parameterFlaw : zy y_M_parameterFlaw b_M_parameterFlaw 9 (some .int) 2 := ⟨zmem 1285 (by decide +kernel) (by decide +kernel), zmem 73 (by decide +kernel) (by decide +kernel), by decide +kernel⟩
theorem zv_M_parameterFlaw : Cond.instanceMethod y_M_parameterFlaw ∈ ztb ∧ Cond.selects y_M_parameterFlaw.cls y_M_parameterFlaw y_M_parameterFlaw ∈ ztb := ⟨zmem 1284 (by decide +kernel) (by decide +kernel), zmem 59 (by decide +kernel) (by decide +kernel)⟩
theorem d_M_parameterFlaw_0 : decode b_M_parameterFlaw 0 = .ok (.aload_n 0, 1) := by decide +kernel
theorem d_M_parameterFlaw_1 : decode b_M_parameterFlaw 1 = .ok (.invokevirtual 128, 3) := by decide +kernel
theorem d_M_parameterFlaw_4 : decode b_M_parameterFlaw 4 = .ok (.lstore_n 3, 1) := by decide +kernel
theorem d_M_parameterFlaw_5 : decode b_M_parameterFlaw 5 = .ok (.aload_n 0, 1) := by decide +kernel
theorem d_M_parameterFlaw_6 : decode b_M_parameterFlaw 6 = .ok (.invokevirtual 128, 3) := by decide +kernel
theorem d_M_parameterFlaw_9 : decode b_M_parameterFlaw 9 = .ok (.lstore 5, 2) := by decide +kernel
theorem d_M_parameterFlaw_11 : decode b_M_parameterFlaw 11 = .ok (.aload_n 0, 1) := by decide +kernel
theorem d_M_parameterFlaw_12 : decode b_M_parameterFlaw 12 = .ok (.lload 5, 2) := by decide +kernel
theorem d_M_parameterFlaw_14 : decode b_M_parameterFlaw 14 = .ok (.invokevirtual 141, 3) := by decide +kernel
theorem d_M_parameterFlaw_17 : decode b_M_parameterFlaw 17 = .ok (.istore 7, 2) := by decide +kernel
theorem d_M_parameterFlaw_19 : decode b_M_parameterFlaw 19 = .ok (.aload_n 0, 1) := by decide +kernel
theorem d_M_parameterFlaw_20 : decode b_M_parameterFlaw 20 = .ok (.getfield 116, 3) := by decide +kernel
theorem d_M_parameterFlaw_23 : decode b_M_parameterFlaw 23 = .ok (.ifCond .eq 5, 3) := by decide +kernel
theorem d_M_parameterFlaw_26 : decode b_M_parameterFlaw 26 = .ok (.iconst 1, 1) := by decide +kernel
theorem d_M_parameterFlaw_27 : decode b_M_parameterFlaw 27 = .ok (.ireturn, 1) := by decide +kernel
theorem d_M_parameterFlaw_28 : decode b_M_parameterFlaw 28 = .ok (.lload_n 3, 1) := by decide +kernel
theorem d_M_parameterFlaw_29 : decode b_M_parameterFlaw 29 = .ok (.ldc2_w 160, 3) := by decide +kernel
theorem d_M_parameterFlaw_32 : decode b_M_parameterFlaw 32 = .ok (.lcmp, 1) := by decide +kernel
theorem d_M_parameterFlaw_33 : decode b_M_parameterFlaw 33 = .ok (.ifCond .le 5, 3) := by decide +kernel
theorem d_M_parameterFlaw_36 : decode b_M_parameterFlaw 36 = .ok (.iconst 0, 1) := by decide +kernel
theorem d_M_parameterFlaw_37 : decode b_M_parameterFlaw 37 = .ok (.ireturn, 1) := by decide +kernel
theorem d_M_parameterFlaw_38 : decode b_M_parameterFlaw 38 = .ok (.lload_n 3, 1) := by decide +kernel
theorem d_M_parameterFlaw_39 : decode b_M_parameterFlaw 39 = .ok (.l2i, 1) := by decide +kernel
theorem d_M_parameterFlaw_40 : decode b_M_parameterFlaw 40 = .ok (.istore 8, 2) := by decide +kernel
theorem d_M_parameterFlaw_42 : decode b_M_parameterFlaw 42 = .ok (.iload_n 2, 1) := by decide +kernel
theorem d_M_parameterFlaw_43 : decode b_M_parameterFlaw 43 = .ok (.iload 8, 2) := by decide +kernel
theorem d_M_parameterFlaw_45 : decode b_M_parameterFlaw 45 = .ok (.ishr, 1) := by decide +kernel
theorem d_M_parameterFlaw_46 : decode b_M_parameterFlaw 46 = .ok (.iconst 1, 1) := by decide +kernel
theorem d_M_parameterFlaw_47 : decode b_M_parameterFlaw 47 = .ok (.iand, 1) := by decide +kernel
theorem d_M_parameterFlaw_48 : decode b_M_parameterFlaw 48 = .ok (.iconst 1, 1) := by decide +kernel
theorem d_M_parameterFlaw_49 : decode b_M_parameterFlaw 49 = .ok (.if_icmp .ne 5, 3) := by decide +kernel
theorem d_M_parameterFlaw_52 : decode b_M_parameterFlaw 52 = .ok (.iconst 2, 1) := by decide +kernel
theorem d_M_parameterFlaw_53 : decode b_M_parameterFlaw 53 = .ok (.ireturn, 1) := by decide +kernel
theorem d_M_parameterFlaw_54 : decode b_M_parameterFlaw 54 = .ok (.iload_n 1, 1) := by decide +kernel
theorem d_M_parameterFlaw_55 : decode b_M_parameterFlaw 55 = .ok (.ifCond .ne 30, 3) := by decide +kernel
theorem d_M_parameterFlaw_58 : decode b_M_parameterFlaw 58 = .ok (.iload 8, 2) := by decide +kernel
theorem d_M_parameterFlaw_60 : decode b_M_parameterFlaw 60 = .ok (.ifCond .eq 23, 3) := by decide +kernel
theorem d_M_parameterFlaw_63 : decode b_M_parameterFlaw 63 = .ok (.iload 8, 2) := by decide +kernel
theorem d_M_parameterFlaw_65 : decode b_M_parameterFlaw 65 = .ok (.iconst 2, 1) := by decide +kernel
theorem d_M_parameterFlaw_66 : decode b_M_parameterFlaw 66 = .ok (.if_icmp .eq 17, 3) := by decide +kernel
theorem d_M_parameterFlaw_69 : decode b_M_parameterFlaw 69 = .ok (.iload 8, 2) := by decide +kernel
theorem d_M_parameterFlaw_71 : decode b_M_parameterFlaw 71 = .ok (.bipush 13, 2) := by decide +kernel
theorem d_M_parameterFlaw_73 : decode b_M_parameterFlaw 73 = .ok (.if_icmp .eq 10, 3) := by decide +kernel
theorem d_M_parameterFlaw_76 : decode b_M_parameterFlaw 76 = .ok (.iload 8, 2) := by decide +kernel
theorem d_M_parameterFlaw_78 : decode b_M_parameterFlaw 78 = .ok (.bipush 16, 2) := by decide +kernel
theorem d_M_parameterFlaw_80 : decode b_M_parameterFlaw 80 = .ok (.if_icmp .ne 5, 3) := by decide +kernel
theorem d_M_parameterFlaw_83 : decode b_M_parameterFlaw 83 = .ok (.iconst 4, 1) := by decide +kernel
theorem d_M_parameterFlaw_84 : decode b_M_parameterFlaw 84 = .ok (.ireturn, 1) := by decide +kernel
theorem d_M_parameterFlaw_85 : decode b_M_parameterFlaw 85 = .ok (.aload_n 0, 1) := by decide +kernel
theorem d_M_parameterFlaw_86 : decode b_M_parameterFlaw 86 = .ok (.iload 8, 2) := by decide +kernel
theorem d_M_parameterFlaw_88 : decode b_M_parameterFlaw 88 = .ok (.iload 7, 2) := by decide +kernel
theorem d_M_parameterFlaw_90 : decode b_M_parameterFlaw 90 = .ok (.lload 5, 2) := by decide +kernel
theorem d_M_parameterFlaw_92 : decode b_M_parameterFlaw 92 = .ok (.l2i, 1) := by decide +kernel
theorem d_M_parameterFlaw_93 : decode b_M_parameterFlaw 93 = .ok (.invokevirtual 283, 3) := by decide +kernel
theorem d_M_parameterFlaw_96 : decode b_M_parameterFlaw 96 = .ok (.ifCond .ne 5, 3) := by decide +kernel
theorem d_M_parameterFlaw_99 : decode b_M_parameterFlaw 99 = .ok (.iconst 3, 1) := by decide +kernel
theorem d_M_parameterFlaw_100 : decode b_M_parameterFlaw 100 = .ok (.ireturn, 1) := by decide +kernel
theorem d_M_parameterFlaw_101 : decode b_M_parameterFlaw 101 = .ok (.iload 8, 2) := by decide +kernel
theorem d_M_parameterFlaw_103 : decode b_M_parameterFlaw 103 = .ok (.invokestatic 274, 3) := by decide +kernel
theorem d_M_parameterFlaw_106 : decode b_M_parameterFlaw 106 = .ok (.ifCond .eq 12, 3) := by decide +kernel
theorem d_M_parameterFlaw_109 : decode b_M_parameterFlaw 109 = .ok (.aload_n 0, 1) := by decide +kernel
theorem d_M_parameterFlaw_110 : decode b_M_parameterFlaw 110 = .ok (.getfield 42, 3) := by decide +kernel
theorem d_M_parameterFlaw_113 : decode b_M_parameterFlaw 113 = .ok (.iload 8, 2) := by decide +kernel
theorem d_M_parameterFlaw_115 : decode b_M_parameterFlaw 115 = .ok (.lload 5, 2) := by decide +kernel
theorem d_M_parameterFlaw_117 : decode b_M_parameterFlaw 117 = .ok (.lastore, 1) := by decide +kernel
theorem d_M_parameterFlaw_118 : decode b_M_parameterFlaw 118 = .ok (.iload 8, 2) := by decide +kernel
theorem d_M_parameterFlaw_120 : decode b_M_parameterFlaw 120 = .ok (.bipush 12, 2) := by decide +kernel
theorem d_M_parameterFlaw_122 : decode b_M_parameterFlaw 122 = .ok (.if_icmp .ne 11, 3) := by decide +kernel
theorem d_M_parameterFlaw_125 : decode b_M_parameterFlaw 125 = .ok (.aload_n 0, 1) := by decide +kernel
theorem d_M_parameterFlaw_126 : decode b_M_parameterFlaw 126 = .ok (.getfield 42, 3) := by decide +kernel
theorem d_M_parameterFlaw_129 : decode b_M_parameterFlaw 129 = .ok (.iload 8, 2) := by decide +kernel
theorem d_M_parameterFlaw_131 : decode b_M_parameterFlaw 131 = .ok (.lconst 1, 1) := by decide +kernel
theorem d_M_parameterFlaw_132 : decode b_M_parameterFlaw 132 = .ok (.lastore, 1) := by decide +kernel
theorem d_M_parameterFlaw_133 : decode b_M_parameterFlaw 133 = .ok (.iconst 0, 1) := by decide +kernel
theorem d_M_parameterFlaw_134 : decode b_M_parameterFlaw 134 = .ok (.ireturn, 1) := by decide +kernel
theorem zy_M_parameters : zy y_M_parameters b_M_parameters 8 (some .int) 2 := ⟨zmem 1281 (by decide +kernel) (by decide +kernel), zmem 73 (by decide +kernel) (by decide +kernel), by decide +kernel⟩
theorem zv_M_parameters : Cond.instanceMethod y_M_parameters ∈ ztb ∧ Cond.selects y_M_parameters.cls y_M_parameters y_M_parameters ∈ ztb := ⟨zmem 1279 (by decide +kernel) (by decide +kernel), zmem 1280 (by decide +kernel) (by decide +kernel)⟩
theorem d_M_parameters_0 : decode b_M_parameters 0 = .ok (.aload_n 0, 1) := by decide +kernel
theorem d_M_parameters_1 : decode b_M_parameters 1 = .ok (.iload_n 1, 1) := by decide +kernel
theorem d_M_parameters_2 : decode b_M_parameters 2 = .ok (.i2l, 1) := by decide +kernel
theorem d_M_parameters_3 : decode b_M_parameters 3 = .ok (.lconst 0, 1) := by decide +kernel
theorem d_M_parameters_4 : decode b_M_parameters 4 = .ok (.aload_n 0, 1) := by decide +kernel
theorem d_M_parameters_5 : decode b_M_parameters 5 = .ok (.getfield 57, 3) := by decide +kernel
theorem d_M_parameters_8 : decode b_M_parameters 8 = .ok (.i2l, 1) := by decide +kernel
theorem d_M_parameters_9 : decode b_M_parameters 9 = .ok (.invokestatic 53, 3) := by decide +kernel
theorem d_M_parameters_12 : decode b_M_parameters 12 = .ok (.ifCond .ne 7, 3) := by decide +kernel
theorem d_M_parameters_15 : decode b_M_parameters 15 = .ok (.iconst 1, 1) := by decide +kernel
theorem d_M_parameters_16 : decode b_M_parameters 16 = .ok (.goto 4, 3) := by decide +kernel
theorem d_M_parameters_19 : decode b_M_parameters 19 = .ok (.iconst 0, 1) := by decide +kernel
theorem d_M_parameters_20 : decode b_M_parameters 20 = .ok (.iconst 1, 1) := by decide +kernel
theorem d_M_parameters_21 : decode b_M_parameters 21 = .ok (.invokevirtual 62, 3) := by decide +kernel
theorem d_M_parameters_24 : decode b_M_parameters 24 = .ok (.ifCond .eq 5, 3) := by decide +kernel
theorem d_M_parameters_27 : decode b_M_parameters 27 = .ok (.iconst 0, 1) := by decide +kernel
theorem d_M_parameters_28 : decode b_M_parameters 28 = .ok (.ireturn, 1) := by decide +kernel
theorem d_M_parameters_29 : decode b_M_parameters 29 = .ok (.aload_n 0, 1) := by decide +kernel
theorem d_M_parameters_30 : decode b_M_parameters 30 = .ok (.invokevirtual 100, 3) := by decide +kernel
theorem d_M_parameters_33 : decode b_M_parameters 33 = .ok (.aload_n 0, 1) := by decide +kernel
theorem d_M_parameters_34 : decode b_M_parameters 34 = .ok (.invokevirtual 103, 3) := by decide +kernel
theorem d_M_parameters_37 : decode b_M_parameters 37 = .ok (.iconst 0, 1) := by decide +kernel
theorem d_M_parameters_38 : decode b_M_parameters 38 = .ok (.istore_n 3, 1) := by decide +kernel
theorem d_M_parameters_39 : decode b_M_parameters 39 = .ok (.iconst 0, 1) := by decide +kernel
theorem d_M_parameters_40 : decode b_M_parameters 40 = .ok (.istore 4, 2) := by decide +kernel
theorem d_M_parameters_42 : decode b_M_parameters 42 = .ok (.aload_n 0, 1) := by decide +kernel
theorem d_M_parameters_43 : decode b_M_parameters 43 = .ok (.iload_n 1, 1) := by decide +kernel
theorem d_M_parameters_44 : decode b_M_parameters 44 = .ok (.aload_n 0, 1) := by decide +kernel
theorem d_M_parameters_45 : decode b_M_parameters 45 = .ok (.getfield 57, 3) := by decide +kernel
theorem d_M_parameters_48 : decode b_M_parameters 48 = .ok (.invokevirtual 124, 3) := by decide +kernel
theorem d_M_parameters_51 : decode b_M_parameters 51 = .ok (.aload_n 0, 1) := by decide +kernel
theorem d_M_parameters_52 : decode b_M_parameters 52 = .ok (.getfield 110, 3) := by decide +kernel
theorem d_M_parameters_55 : decode b_M_parameters 55 = .ok (.aload_n 0, 1) := by decide +kernel
theorem d_M_parameters_56 : decode b_M_parameters 56 = .ok (.getfield 57, 3) := by decide +kernel
theorem d_M_parameters_59 : decode b_M_parameters 59 = .ok (.if_icmp .ge 86, 3) := by decide +kernel
theorem d_M_parameters_62 : decode b_M_parameters 62 = .ok (.aload_n 0, 1) := by decide +kernel
theorem d_M_parameters_63 : decode b_M_parameters 63 = .ok (.getfield 91, 3) := by decide +kernel
theorem d_M_parameters_66 : decode b_M_parameters 66 = .ok (.ifCond .ne 79, 3) := by decide +kernel
theorem d_M_parameters_69 : decode b_M_parameters 69 = .ok (.aload_n 0, 1) := by decide +kernel
theorem d_M_parameters_70 : decode b_M_parameters 70 = .ok (.getfield 110, 3) := by decide +kernel
theorem d_M_parameters_73 : decode b_M_parameters 73 = .ok (.istore 5, 2) := by decide +kernel
theorem d_M_parameters_75 : decode b_M_parameters 75 = .ok (.aload_n 0, 1) := by decide +kernel
theorem d_M_parameters_76 : decode b_M_parameters 76 = .ok (.aload_n 0, 1) := by decide +kernel
theorem d_M_parameters_77 : decode b_M_parameters 77 = .ok (.iload_n 2, 1) := by decide +kernel
theorem d_M_parameters_78 : decode b_M_parameters 78 = .ok (.iload_n 3, 1) := by decide +kernel
theorem d_M_parameters_79 : decode b_M_parameters 79 = .ok (.invokevirtual 287, 3) := by decide +kernel
theorem d_M_parameters_82 : decode b_M_parameters 82 = .ok (.iload 5, 2) := by decide +kernel
theorem d_M_parameters_84 : decode b_M_parameters 84 = .ok (.invokevirtual 203, 3) := by decide +kernel
theorem d_M_parameters_87 : decode b_M_parameters 87 = .ok (.aload_n 0, 1) := by decide +kernel
theorem d_M_parameters_88 : decode b_M_parameters 88 = .ok (.iload 5, 2) := by decide +kernel
theorem d_M_parameters_90 : decode b_M_parameters 90 = .ok (.aload_n 0, 1) := by decide +kernel
theorem d_M_parameters_91 : decode b_M_parameters 91 = .ok (.getfield 57, 3) := by decide +kernel
theorem d_M_parameters_94 : decode b_M_parameters 94 = .ok (.invokevirtual 124, 3) := by decide +kernel
theorem d_M_parameters_97 : decode b_M_parameters 97 = .ok (.aload_n 0, 1) := by decide +kernel
theorem d_M_parameters_98 : decode b_M_parameters 98 = .ok (.invokevirtual 128, 3) := by decide +kernel
theorem d_M_parameters_101 : decode b_M_parameters 101 = .ok (.lstore 6, 2) := by decide +kernel
theorem d_M_parameters_103 : decode b_M_parameters 103 = .ok (.aload_n 0, 1) := by decide +kernel
theorem d_M_parameters_104 : decode b_M_parameters 104 = .ok (.aload_n 0, 1) := by decide +kernel
theorem d_M_parameters_105 : decode b_M_parameters 105 = .ok (.invokevirtual 128, 3) := by decide +kernel
theorem d_M_parameters_108 : decode b_M_parameters 108 = .ok (.invokevirtual 141, 3) := by decide +kernel
theorem d_M_parameters_111 : decode b_M_parameters 111 = .ok (.pop, 1) := by decide +kernel
theorem d_M_parameters_112 : decode b_M_parameters 112 = .ok (.aload_n 0, 1) := by decide +kernel
theorem d_M_parameters_113 : decode b_M_parameters 113 = .ok (.getfield 91, 3) := by decide +kernel
theorem d_M_parameters_116 : decode b_M_parameters 116 = .ok (.ifCond .gt (-65), 3) := by decide +kernel
theorem d_M_parameters_119 : decode b_M_parameters 119 = .ok (.lload 6, 2) := by decide +kernel
theorem d_M_parameters_121 : decode b_M_parameters 121 = .ok (.ldc2_w 160, 3) := by decide +kernel
theorem d_M_parameters_124 : decode b_M_parameters 124 = .ok (.lcmp, 1) := by decide +kernel
theorem d_M_parameters_125 : decode b_M_parameters 125 = .ok (.ifCond .le 6, 3) := by decide +kernel
theorem d_M_parameters_128 : decode b_M_parameters 128 = .ok (.goto (-77), 3) := by decide +kernel
theorem d_M_parameters_131 : decode b_M_parameters 131 = .ok (.iload_n 3, 1) := by decide +kernel
theorem d_M_parameters_132 : decode b_M_parameters 132 = .ok (.iconst 1, 1) := by decide +kernel
theorem d_M_parameters_133 : decode b_M_parameters 133 = .ok (.lload 6, 2) := by decide +kernel
theorem d_M_parameters_135 : decode b_M_parameters 135 = .ok (.l2i, 1) := by decide +kernel
theorem d_M_parameters_136 : decode b_M_parameters 136 = .ok (.ishl, 1) := by decide +kernel
theorem d_M_parameters_137 : decode b_M_parameters 137 = .ok (.ior, 1) := by decide +kernel
theorem d_M_parameters_138 : decode b_M_parameters 138 = .ok (.istore_n 3, 1) := by decide +kernel
theorem d_M_parameters_139 : decode b_M_parameters 139 = .ok (.iinc 4 1, 3) := by decide +kernel
theorem d_M_parameters_142 : decode b_M_parameters 142 = .ok (.goto (-91), 3) := by decide +kernel
theorem d_M_parameters_145 : decode b_M_parameters 145 = .ok (.aload_n 0, 1) := by decide +kernel
theorem d_M_parameters_146 : decode b_M_parameters 146 = .ok (.getfield 91, 3) := by decide +kernel
theorem d_M_parameters_149 : decode b_M_parameters 149 = .ok (.ifCond .ne 6, 3) := by decide +kernel
theorem d_M_parameters_152 : decode b_M_parameters 152 = .ok (.iload 4, 2) := by decide +kernel
theorem d_M_parameters_154 : decode b_M_parameters 154 = .ok (.ireturn, 1) := by decide +kernel
theorem d_M_parameters_155 : decode b_M_parameters 155 = .ok (.aload_n 0, 1) := by decide +kernel
theorem d_M_parameters_156 : decode b_M_parameters 156 = .ok (.invokevirtual 103, 3) := by decide +kernel
theorem d_M_parameters_159 : decode b_M_parameters 159 = .ok (.iconst (-1), 1) := by decide +kernel
theorem d_M_parameters_160 : decode b_M_parameters 160 = .ok (.ireturn, 1) := by decide +kernel
theorem zy_M_parameter : zy y_M_parameter b_M_parameter 2 (some .long) 1 := ⟨zmem 1294 (by decide +kernel) (by decide +kernel), zmem 73 (by decide +kernel) (by decide +kernel), by decide +kernel⟩
theorem zv_M_parameter : Cond.instanceMethod y_M_parameter ∈ ztb ∧ Cond.selects y_M_parameter.cls y_M_parameter y_M_parameter ∈ ztb := ⟨zmem 1292 (by decide +kernel) (by decide +kernel), zmem 1293 (by decide +kernel) (by decide +kernel)⟩
theorem d_M_parameter_0 : decode b_M_parameter 0 = .ok (.aload_n 0, 1) := by decide +kernel
theorem d_M_parameter_1 : decode b_M_parameter 1 = .ok (.iload_n 1, 1) := by decide +kernel
theorem d_M_parameter_2 : decode b_M_parameter 2 = .ok (.i2l, 1) := by decide +kernel
theorem d_M_parameter_3 : decode b_M_parameter 3 = .ok (.lconst 0, 1) := by decide +kernel
theorem d_M_parameter_4 : decode b_M_parameter 4 = .ok (.ldc2_w 160, 3) := by decide +kernel
theorem d_M_parameter_7 : decode b_M_parameter 7 = .ok (.invokestatic 53, 3) := by decide +kernel
theorem d_M_parameter_10 : decode b_M_parameter 10 = .ok (.ifCond .ne 7, 3) := by decide +kernel
theorem d_M_parameter_13 : decode b_M_parameter 13 = .ok (.iconst 1, 1) := by decide +kernel
theorem d_M_parameter_14 : decode b_M_parameter 14 = .ok (.goto 4, 3) := by decide +kernel
theorem d_M_parameter_17 : decode b_M_parameter 17 = .ok (.iconst 0, 1) := by decide +kernel
theorem d_M_parameter_18 : decode b_M_parameter 18 = .ok (.iconst 1, 1) := by decide +kernel
theorem d_M_parameter_19 : decode b_M_parameter 19 = .ok (.invokevirtual 62, 3) := by decide +kernel
theorem d_M_parameter_22 : decode b_M_parameter 22 = .ok (.ifCond .eq 7, 3) := by decide +kernel
theorem d_M_parameter_25 : decode b_M_parameter 25 = .ok (.lconst 0, 1) := by decide +kernel
theorem d_M_parameter_26 : decode b_M_parameter 26 = .ok (.goto 9, 3) := by decide +kernel
theorem d_M_parameter_29 : decode b_M_parameter 29 = .ok (.aload_n 0, 1) := by decide +kernel
theorem d_M_parameter_30 : decode b_M_parameter 30 = .ok (.getfield 42, 3) := by decide +kernel
theorem d_M_parameter_33 : decode b_M_parameter 33 = .ok (.iload_n 1, 1) := by decide +kernel
theorem d_M_parameter_34 : decode b_M_parameter 34 = .ok (.laload, 1) := by decide +kernel
theorem d_M_parameter_35 : decode b_M_parameter 35 = .ok (.lreturn, 1) := by decide +kernel
theorem zy_M_forget : zy y_M_forget b_M_forget 1 none 0 := ⟨zmem 925 (by decide +kernel) (by decide +kernel), zmem 73 (by decide +kernel) (by decide +kernel), by decide +kernel⟩
theorem zv_M_forget : Cond.instanceMethod y_M_forget ∈ ztb ∧ Cond.selects y_M_forget.cls y_M_forget y_M_forget ∈ ztb := ⟨zmem 924 (by decide +kernel) (by decide +kernel), zmem 23 (by decide +kernel) (by decide +kernel)⟩
theorem d_M_forget_0 : decode b_M_forget 0 = .ok (.aload_n 0, 1) := by decide +kernel
theorem d_M_forget_1 : decode b_M_forget 1 = .ok (.invokevirtual 100, 3) := by decide +kernel
theorem d_M_forget_4 : decode b_M_forget 4 = .ok (.aload_n 0, 1) := by decide +kernel
theorem d_M_forget_5 : decode b_M_forget 5 = .ok (.invokevirtual 103, 3) := by decide +kernel
theorem d_M_forget_8 : decode b_M_forget 8 = .ok (.return_, 1) := by decide +kernel
theorem zy_M_clear : zy y_M_clear b_M_clear 2 (some .int) 0 := ⟨zmem 1062 (by decide +kernel) (by decide +kernel), zmem 73 (by decide +kernel) (by decide +kernel), by decide +kernel⟩
theorem zv_M_clear : Cond.instanceMethod y_M_clear ∈ ztb ∧ Cond.selects y_M_clear.cls y_M_clear y_M_clear ∈ ztb := ⟨zmem 1060 (by decide +kernel) (by decide +kernel), zmem 1061 (by decide +kernel) (by decide +kernel)⟩
theorem d_M_clear_0 : decode b_M_clear 0 = .ok (.aload_n 0, 1) := by decide +kernel
theorem d_M_clear_1 : decode b_M_clear 1 = .ok (.iconst 0, 1) := by decide +kernel
theorem d_M_clear_2 : decode b_M_clear 2 = .ok (.putfield 48, 3) := by decide +kernel
theorem d_M_clear_5 : decode b_M_clear 5 = .ok (.aload_n 0, 1) := by decide +kernel
theorem d_M_clear_6 : decode b_M_clear 6 = .ok (.getfield 57, 3) := by decide +kernel
theorem d_M_clear_9 : decode b_M_clear 9 = .ok (.istore_n 1, 1) := by decide +kernel
theorem d_M_clear_10 : decode b_M_clear 10 = .ok (.aload_n 0, 1) := by decide +kernel
theorem d_M_clear_11 : decode b_M_clear 11 = .ok (.iconst 0, 1) := by decide +kernel
theorem d_M_clear_12 : decode b_M_clear 12 = .ok (.putfield 57, 3) := by decide +kernel
theorem d_M_clear_15 : decode b_M_clear 15 = .ok (.aload_n 0, 1) := by decide +kernel
theorem d_M_clear_16 : decode b_M_clear 16 = .ok (.invokevirtual 45, 3) := by decide +kernel
theorem d_M_clear_19 : decode b_M_clear 19 = .ok (.iload_n 1, 1) := by decide +kernel
theorem d_M_clear_20 : decode b_M_clear 20 = .ok (.ireturn, 1) := by decide +kernel
theorem zy_M_takeFields : zy y_M_takeFields b_M_takeFields 4 none 1 := ⟨zmem 1137 (by decide +kernel) (by decide +kernel), zmem 73 (by decide +kernel) (by decide +kernel), by decide +kernel⟩
theorem zv_M_takeFields : Cond.instanceMethod y_M_takeFields ∈ ztb ∧ Cond.selects y_M_takeFields.cls y_M_takeFields y_M_takeFields ∈ ztb := ⟨zmem 1136 (by decide +kernel) (by decide +kernel), zmem 42 (by decide +kernel) (by decide +kernel)⟩
theorem d_M_takeFields_0 : decode b_M_takeFields 0 = .ok (.iload_n 1, 1) := by decide +kernel
theorem d_M_takeFields_1 : decode b_M_takeFields 1 = .ok (.invokestatic 134, 3) := by decide +kernel
theorem d_M_takeFields_4 : decode b_M_takeFields 4 = .ok (.istore_n 2, 1) := by decide +kernel
theorem d_M_takeFields_5 : decode b_M_takeFields 5 = .ok (.iload_n 2, 1) := by decide +kernel
theorem d_M_takeFields_6 : decode b_M_takeFields 6 = .ok (.ifCond .le 64, 3) := by decide +kernel
theorem d_M_takeFields_9 : decode b_M_takeFields 9 = .ok (.iload_n 2, 1) := by decide +kernel
theorem d_M_takeFields_10 : decode b_M_takeFields 10 = .ok (.bipush 10, 2) := by decide +kernel
theorem d_M_takeFields_12 : decode b_M_takeFields 12 = .ok (.irem, 1) := by decide +kernel
theorem d_M_takeFields_13 : decode b_M_takeFields 13 = .ok (.istore_n 3, 1) := by decide +kernel
theorem d_M_takeFields_14 : decode b_M_takeFields 14 = .ok (.iload_n 3, 1) := by decide +kernel
theorem d_M_takeFields_15 : decode b_M_takeFields 15 = .ok (.iconst 5, 1) := by decide +kernel
theorem d_M_takeFields_16 : decode b_M_takeFields 16 = .ok (.if_icmp .ne 18, 3) := by decide +kernel
theorem d_M_takeFields_19 : decode b_M_takeFields 19 = .ok (.aload_n 0, 1) := by decide +kernel
theorem d_M_takeFields_20 : decode b_M_takeFields 20 = .ok (.getfield 22, 3) := by decide +kernel
theorem d_M_takeFields_23 : decode b_M_takeFields 23 = .ok (.iconst 0, 1) := by decide +kernel
theorem d_M_takeFields_24 : decode b_M_takeFields 24 = .ok (.aload_n 0, 1) := by decide +kernel
theorem d_M_takeFields_25 : decode b_M_takeFields 25 = .ok (.bipush 8, 2) := by decide +kernel
theorem d_M_takeFields_27 : decode b_M_takeFields 27 = .ok (.invokevirtual 120, 3) := by decide +kernel
theorem d_M_takeFields_30 : decode b_M_takeFields 30 = .ok (.lastore, 1) := by decide +kernel
theorem d_M_takeFields_31 : decode b_M_takeFields 31 = .ok (.goto 31, 3) := by decide +kernel
theorem d_M_takeFields_34 : decode b_M_takeFields 34 = .ok (.iload_n 3, 1) := by decide +kernel
theorem d_M_takeFields_35 : decode b_M_takeFields 35 = .ok (.iconst 4, 1) := by decide +kernel
theorem d_M_takeFields_36 : decode b_M_takeFields 36 = .ok (.if_icmp .ne 14, 3) := by decide +kernel
theorem d_M_takeFields_39 : decode b_M_takeFields 39 = .ok (.aload_n 0, 1) := by decide +kernel
theorem d_M_takeFields_40 : decode b_M_takeFields 40 = .ok (.aload_n 0, 1) := by decide +kernel
theorem d_M_takeFields_41 : decode b_M_takeFields 41 = .ok (.invokevirtual 128, 3) := by decide +kernel
theorem d_M_takeFields_44 : decode b_M_takeFields 44 = .ok (.invokevirtual 137, 3) := by decide +kernel
theorem d_M_takeFields_47 : decode b_M_takeFields 47 = .ok (.goto 15, 3) := by decide +kernel
theorem d_M_takeFields_50 : decode b_M_takeFields 50 = .ok (.aload_n 0, 1) := by decide +kernel
theorem d_M_takeFields_51 : decode b_M_takeFields 51 = .ok (.getfield 22, 3) := by decide +kernel
theorem d_M_takeFields_54 : decode b_M_takeFields 54 = .ok (.iload_n 3, 1) := by decide +kernel
theorem d_M_takeFields_55 : decode b_M_takeFields 55 = .ok (.iconst 1, 1) := by decide +kernel
theorem d_M_takeFields_56 : decode b_M_takeFields 56 = .ok (.isub, 1) := by decide +kernel
theorem d_M_takeFields_57 : decode b_M_takeFields 57 = .ok (.aload_n 0, 1) := by decide +kernel
theorem d_M_takeFields_58 : decode b_M_takeFields 58 = .ok (.invokevirtual 128, 3) := by decide +kernel
theorem d_M_takeFields_61 : decode b_M_takeFields 61 = .ok (.lastore, 1) := by decide +kernel
theorem d_M_takeFields_62 : decode b_M_takeFields 62 = .ok (.iload_n 2, 1) := by decide +kernel
theorem d_M_takeFields_63 : decode b_M_takeFields 63 = .ok (.bipush 10, 2) := by decide +kernel
theorem d_M_takeFields_65 : decode b_M_takeFields 65 = .ok (.idiv, 1) := by decide +kernel
theorem d_M_takeFields_66 : decode b_M_takeFields 66 = .ok (.istore_n 2, 1) := by decide +kernel
theorem d_M_takeFields_67 : decode b_M_takeFields 67 = .ok (.goto (-62), 3) := by decide +kernel
theorem d_M_takeFields_70 : decode b_M_takeFields 70 = .ok (.return_, 1) := by decide +kernel
theorem zy_M_takeName : zy y_M_takeName b_M_takeName 1 none 0 := ⟨zmem 1133 (by decide +kernel) (by decide +kernel), zmem 73 (by decide +kernel) (by decide +kernel), by decide +kernel⟩
theorem zv_M_takeName : Cond.instanceMethod y_M_takeName ∈ ztb ∧ Cond.selects y_M_takeName.cls y_M_takeName y_M_takeName ∈ ztb := ⟨zmem 1132 (by decide +kernel) (by decide +kernel), zmem 41 (by decide +kernel) (by decide +kernel)⟩
theorem d_M_takeName_0 : decode b_M_takeName 0 = .ok (.aload_n 0, 1) := by decide +kernel
theorem d_M_takeName_1 : decode b_M_takeName 1 = .ok (.bipush 24, 2) := by decide +kernel
theorem d_M_takeName_3 : decode b_M_takeName 3 = .ok (.invokevirtual 156, 3) := by decide +kernel
theorem d_M_takeName_6 : decode b_M_takeName 6 = .ok (.aload_n 0, 1) := by decide +kernel
theorem d_M_takeName_7 : decode b_M_takeName 7 = .ok (.aload_n 0, 1) := by decide +kernel
theorem d_M_takeName_8 : decode b_M_takeName 8 = .ok (.iconst 1, 1) := by decide +kernel
theorem d_M_takeName_9 : decode b_M_takeName 9 = .ok (.invokevirtual 120, 3) := by decide +kernel
theorem d_M_takeName_12 : decode b_M_takeName 12 = .ok (.invokevirtual 137, 3) := by decide +kernel
theorem d_M_takeName_15 : decode b_M_takeName 15 = .ok (.aload_n 0, 1) := by decide +kernel
theorem d_M_takeName_16 : decode b_M_takeName 16 = .ok (.aload_n 0, 1) := by decide +kernel
theorem d_M_takeName_17 : decode b_M_takeName 17 = .ok (.ldc2_w 160, 3) := by decide +kernel
theorem d_M_takeName_20 : decode b_M_takeName 20 = .ok (.invokevirtual 141, 3) := by decide +kernel
theorem d_M_takeName_23 : decode b_M_takeName 23 = .ok (.putfield 162, 3) := by decide +kernel
theorem d_M_takeName_26 : decode b_M_takeName 26 = .ok (.return_, 1) := by decide +kernel
theorem zy_M_parse : zy y_M_parse b_M_parse 4 none 2 := ⟨zmem 1106 (by decide +kernel) (by decide +kernel), zmem 73 (by decide +kernel) (by decide +kernel), by decide +kernel⟩
theorem zv_M_parse : Cond.instanceMethod y_M_parse ∈ ztb ∧ Cond.selects y_M_parse.cls y_M_parse y_M_parse ∈ ztb := ⟨zmem 1105 (by decide +kernel) (by decide +kernel), zmem 35 (by decide +kernel) (by decide +kernel)⟩
theorem d_M_parse_0 : decode b_M_parse 0 = .ok (.aload_n 0, 1) := by decide +kernel
theorem d_M_parse_1 : decode b_M_parse 1 = .ok (.iload_n 1, 1) := by decide +kernel
theorem d_M_parse_2 : decode b_M_parse 2 = .ok (.iconst 1, 1) := by decide +kernel
theorem d_M_parse_3 : decode b_M_parse 3 = .ok (.iadd, 1) := by decide +kernel
theorem d_M_parse_4 : decode b_M_parse 4 = .ok (.iload_n 2, 1) := by decide +kernel
theorem d_M_parse_5 : decode b_M_parse 5 = .ok (.invokevirtual 124, 3) := by decide +kernel
theorem d_M_parse_8 : decode b_M_parse 8 = .ok (.iconst 0, 1) := by decide +kernel
theorem d_M_parse_9 : decode b_M_parse 9 = .ok (.istore_n 3, 1) := by decide +kernel
theorem d_M_parse_10 : decode b_M_parse 10 = .ok (.iload_n 3, 1) := by decide +kernel
theorem d_M_parse_11 : decode b_M_parse 11 = .ok (.bipush 12, 2) := by decide +kernel
theorem d_M_parse_13 : decode b_M_parse 13 = .ok (.if_icmp .ge 16, 3) := by decide +kernel
theorem d_M_parse_16 : decode b_M_parse 16 = .ok (.aload_n 0, 1) := by decide +kernel
theorem d_M_parse_17 : decode b_M_parse 17 = .ok (.getfield 22, 3) := by decide +kernel
theorem d_M_parse_20 : decode b_M_parse 20 = .ok (.iload_n 3, 1) := by decide +kernel
theorem d_M_parse_21 : decode b_M_parse 21 = .ok (.lconst 0, 1) := by decide +kernel
theorem d_M_parse_22 : decode b_M_parse 22 = .ok (.lastore, 1) := by decide +kernel
theorem d_M_parse_23 : decode b_M_parse 23 = .ok (.iinc 3 1, 3) := by decide +kernel
theorem d_M_parse_26 : decode b_M_parse 26 = .ok (.goto (-16), 3) := by decide +kernel
theorem d_M_parse_29 : decode b_M_parse 29 = .ok (.aload_n 0, 1) := by decide +kernel
theorem d_M_parse_30 : decode b_M_parse 30 = .ok (.iconst 0, 1) := by decide +kernel
theorem d_M_parse_31 : decode b_M_parse 31 = .ok (.putfield 144, 3) := by decide +kernel
theorem d_M_parse_34 : decode b_M_parse 34 = .ok (.aload_n 0, 1) := by decide +kernel
theorem d_M_parse_35 : decode b_M_parse 35 = .ok (.iconst 0, 1) := by decide +kernel
theorem d_M_parse_36 : decode b_M_parse 36 = .ok (.putfield 147, 3) := by decide +kernel
theorem d_M_parse_39 : decode b_M_parse 39 = .ok (.aload_n 0, 1) := by decide +kernel
theorem d_M_parse_40 : decode b_M_parse 40 = .ok (.iconst 0, 1) := by decide +kernel
theorem d_M_parse_41 : decode b_M_parse 41 = .ok (.putfield 153, 3) := by decide +kernel
theorem d_M_parse_44 : decode b_M_parse 44 = .ok (.aload_n 0, 1) := by decide +kernel
theorem d_M_parse_45 : decode b_M_parse 45 = .ok (.iload_n 1, 1) := by decide +kernel
theorem d_M_parse_46 : decode b_M_parse 46 = .ok (.invokevirtual 165, 3) := by decide +kernel
theorem d_M_parse_49 : decode b_M_parse 49 = .ok (.istore_n 3, 1) := by decide +kernel
theorem d_M_parse_50 : decode b_M_parse 50 = .ok (.iload_n 3, 1) := by decide +kernel
theorem d_M_parse_51 : decode b_M_parse 51 = .ok (.ifCond .ne 10, 3) := by decide +kernel
theorem d_M_parse_54 : decode b_M_parse 54 = .ok (.aload_n 0, 1) := by decide +kernel
theorem d_M_parse_55 : decode b_M_parse 55 = .ok (.invokevirtual 168, 3) := by decide +kernel
theorem d_M_parse_58 : decode b_M_parse 58 = .ok (.goto 54, 3) := by decide +kernel
theorem d_M_parse_61 : decode b_M_parse 61 = .ok (.iload_n 3, 1) := by decide +kernel
theorem d_M_parse_62 : decode b_M_parse 62 = .ok (.invokestatic 171, 3) := by decide +kernel
theorem d_M_parse_65 : decode b_M_parse 65 = .ok (.ifCond .eq 11, 3) := by decide +kernel
theorem d_M_parse_68 : decode b_M_parse 68 = .ok (.aload_n 0, 1) := by decide +kernel
theorem d_M_parse_69 : decode b_M_parse 69 = .ok (.iload_n 3, 1) := by decide +kernel
theorem d_M_parse_70 : decode b_M_parse 70 = .ok (.invokevirtual 175, 3) := by decide +kernel
theorem d_M_parse_73 : decode b_M_parse 73 = .ok (.goto 39, 3) := by decide +kernel
theorem d_M_parse_76 : decode b_M_parse 76 = .ok (.iload_n 3, 1) := by decide +kernel
theorem d_M_parse_77 : decode b_M_parse 77 = .ok (.bipush 8, 2) := by decide +kernel
theorem d_M_parse_79 : decode b_M_parse 79 = .ok (.if_icmp .ne 15, 3) := by decide +kernel
theorem d_M_parse_82 : decode b_M_parse 82 = .ok (.aload_n 0, 1) := by decide +kernel
theorem d_M_parse_83 : decode b_M_parse 83 = .ok (.aload_n 0, 1) := by decide +kernel
theorem d_M_parse_84 : decode b_M_parse 84 = .ok (.iload_n 1, 1) := by decide +kernel
theorem d_M_parse_85 : decode b_M_parse 85 = .ok (.invokevirtual 106, 3) := by decide +kernel
theorem d_M_parse_88 : decode b_M_parse 88 = .ok (.invokevirtual 178, 3) := by decide +kernel
theorem d_M_parse_91 : decode b_M_parse 91 = .ok (.goto 21, 3) := by decide +kernel
theorem d_M_parse_94 : decode b_M_parse 94 = .ok (.iload_n 3, 1) := by decide +kernel
theorem d_M_parse_95 : decode b_M_parse 95 = .ok (.bipush 24, 2) := by decide +kernel
theorem d_M_parse_97 : decode b_M_parse 97 = .ok (.if_icmp .ne 10, 3) := by decide +kernel
theorem d_M_parse_100 : decode b_M_parse 100 = .ok (.aload_n 0, 1) := by decide +kernel
theorem d_M_parse_101 : decode b_M_parse 101 = .ok (.invokevirtual 181, 3) := by decide +kernel
theorem d_M_parse_104 : decode b_M_parse 104 = .ok (.goto 8, 3) := by decide +kernel
theorem d_M_parse_107 : decode b_M_parse 107 = .ok (.aload_n 0, 1) := by decide +kernel
theorem d_M_parse_108 : decode b_M_parse 108 = .ok (.iload_n 3, 1) := by decide +kernel
theorem d_M_parse_109 : decode b_M_parse 109 = .ok (.invokevirtual 156, 3) := by decide +kernel
theorem d_M_parse_112 : decode b_M_parse 112 = .ok (.return_, 1) := by decide +kernel
theorem zin_M_268 : Cond.constantLong R_M 268 (15 : Int64) ∈ ztb := zmem 1267 (by decide +kernel) (by decide +kernel)
theorem zin_M_270 : Cond.constantLong R_M 270 (16383 : Int64) ∈ ztb := zmem 1268 (by decide +kernel) (by decide +kernel)
theorem zin_M_266 : Cond.constantLong R_M 266 (63 : Int64) ∈ ztb := zmem 1266 (by decide +kernel) (by decide +kernel)
theorem zin_M_272 : Cond.constantLong R_M 272 (4 : Int64) ∈ ztb := zmem 1277 (by decide +kernel) (by decide +kernel)
theorem zin_M_42 : Cond.fieldLink R_M 42 "WireCodecModel" "known" "[J" ∈ ztb := zmem 967 (by decide +kernel) (by decide +kernel)
theorem zin_M_277 : Cond.constantLong R_M 277 (65527 : Int64) ∈ ztb := zmem 938 (by decide +kernel) (by decide +kernel)
theorem zin_M_279 : Cond.constantLong R_M 279 (25 : Int64) ∈ ztb := zmem 940 (by decide +kernel) (by decide +kernel)
theorem zin_M_274 : Cond.methodLink R_M 274 y_M_hasBytes ∈ ztb := zmem 934 (by decide +kernel) (by decide +kernel)
theorem zin_M_281 : Cond.constantLong R_M 281 (1200 : Int64) ∈ ztb := zmem 1290 (by decide +kernel) (by decide +kernel)
theorem zin_M_283 : Cond.methodLink R_M 283 y_M_suitsId ∈ ztb := zmem 1286 (by decide +kernel) (by decide +kernel)
theorem zin_M_100 : Cond.methodLink R_M 100 y_M_begin ∈ ztb := zmem 926 (by decide +kernel) (by decide +kernel)
theorem zin_M_103 : Cond.methodLink R_M 103 y_M_forgetParameters ∈ ztb := zmem 930 (by decide +kernel) (by decide +kernel)
theorem zin_M_287 : Cond.methodLink R_M 287 y_M_parameterFlaw ∈ ztb := zmem 1282 (by decide +kernel) (by decide +kernel)
theorem zin_M_203 : Cond.methodLink R_M 203 y_M_tell ∈ ztb := zmem 1151 (by decide +kernel) (by decide +kernel)
theorem zin_M_45 : Cond.methodLink R_M 45 y_M_forget ∈ ztb := zmem 922 (by decide +kernel) (by decide +kernel)
theorem zin_M_156 : Cond.methodLink R_M 156 y_M_takeFields ∈ ztb := zmem 1134 (by decide +kernel) (by decide +kernel)
theorem zin_M_162 : Cond.fieldLink R_M 162 "WireCodecModel" "secretAt" "I" ∈ ztb := zmem 953 (by decide +kernel) (by decide +kernel)
theorem zin_M_165 : Cond.methodLink R_M 165 y_M_kindAt ∈ ztb := zmem 1099 (by decide +kernel) (by decide +kernel)
theorem zin_M_181 : Cond.methodLink R_M 181 y_M_takeName ∈ ztb := zmem 1130 (by decide +kernel) (by decide +kernel)
theorem zin_M_178 : Cond.methodLink R_M 178 y_M_takeStream ∈ ztb := zmem 1118 (by decide +kernel) (by decide +kernel)
theorem zin_M_175 : Cond.methodLink R_M 175 y_M_takeAck ∈ ztb := zmem 1114 (by decide +kernel) (by decide +kernel)
theorem zin_M_168 : Cond.methodLink R_M 168 y_M_takePadding ∈ ztb := zmem 1107 (by decide +kernel) (by decide +kernel)
noncomputable def g_M_packet_c35 (v1 : Int32) (v2 : Int32) (sM_35 : zM) (r_35 : Int32) : Option (Int64 × zM) := if r_35 = (0 : Int32) then (zg (vp_in (((12 : Int32) * v1) + v2) 49152) (some (((zM_packet sM_35) (((12 : Int32) * v1) + v2).toNatClampNeg).toInt64, sM_35))) else (some ((0 : Int64), sM_35))
noncomputable def g_M_packet_34 (sM : zM) (v1 : Int32) (v2 : Int32) (s0 : Int32) : Option (Int64 × zM) := (g_M_fails sM s0 (1 : Int32)).bind (fun a => g_M_packet_c35 v1 v2 a.2 a.1)
noncomputable def g_M_packet_29 (sM : zM) (v1 : Int32) (v2 : Int32) : Option (Int64 × zM) := g_M_packet_34 sM v1 v2 (1 : Int32)
noncomputable def g_M_packet_c23 (sM : zM) (v1 : Int32) (v2 : Int32) (r_23 : Int32) : Option (Int64 × zM) := if r_23 = (0 : Int32) then (g_M_packet_29 sM v1 v2) else (g_M_packet_34 sM v1 v2 (0 : Int32))
noncomputable def g_M_packet_c11 (sM : zM) (v1 : Int32) (v2 : Int32) (r_11 : Int32) : Option (Int64 × zM) := if r_11 = (0 : Int32) then (g_M_packet_29 sM v1 v2) else ((g_M_within v2.toInt64 (0 : Int64) (11 : Int64)).bind (fun a => g_M_packet_c23 sM v1 v2 a))
noncomputable def g_M_packet (sM : zM) (v1 : Int32) (v2 : Int32) : Option (Int64 × zM) := (g_M_within v1.toInt64 (0 : Int64) (((zM_packets sM).toInt64) - (1 : Int64))).bind (fun a => g_M_packet_c11 sM v1 v2 a)
def q_M_packet (dC : Nat → ClassId) (dI : Nat → Nat → Nat) (cB cI cL : ClassId) (A : Nat → Prop) (adM : Nat) (adM_tape : Nat) (adM_frameAt : Nat) (adM_field : Nat) (adM_draft : Nat) (adM_given : Nat) (adM_low : Nat) (adM_high : Nat) (adM_packet : Nat) (adM_known : Nat) (a : Int64 × zM) : Array Value → State → Outcome → State → Prop := va_Ql (fun (r : Int64) (u : zM) => (r, u) = a) (fun u U => va_P (dC, dI) zcl (zwM adM adM_tape adM_frameAt adM_field adM_draft adM_given adM_low adM_high adM_packet adM_known cB cI cL u) U.heap ∧ va_D A (zwM adM adM_tape adM_frameAt adM_field adM_draft adM_given adM_low adM_high adM_packet adM_known cB cI cL u)) A
set_option maxRecDepth 100000 in
set_option maxHeartbeats 4000000 in
theorem k_M_packet_34 {p : Program} {l : Launch} {e : Env} {R : Room} {s : State} {m : MethodId} {args : Array Value} {below : List Frame} {meth : Method} {c : Code} {dC : Nat → ClassId} {dI : Nat → Nat → Nat} {cB cI cL : ClassId} {A : Nat → Prop} (X : zx p s m args meth c R R_M b_M_packet (some .long) 3 1 25) (hA : ∀ q, s.heap.size ≤ q → A q) (zz : zk dC dI cB cI cL A s)  (sM : zM) (v1 : Int32) (v2 : Int32) (s0 : Int32) (a : Int64 × zM) (hG : g_M_packet_34 sM v1 v2 s0 = some a) (adM adM_tape adM_frameAt adM_field adM_draft adM_given adM_low adM_high adM_packet adM_known : Nat) (H : Heap) (locs : List Loc) (hP : va_P (dC, dI) zcl (zwM adM adM_tape adM_frameAt adM_field adM_draft adM_given adM_low adM_high adM_packet adM_known cB cI cL sM) H) (hD : va_D A (zwM adM adM_tape adM_frameAt adM_field adM_draft adM_given adM_low adM_high adM_packet adM_known cB cI cL sM)) (hS : va_S A s.heap H locs) (ls : Array Slot) (hl : lv_has ls 3 [(0, .ref adM), (1, .int v1), (2, .int v2)]) : W p l e R s m args below meth c H locs 0 0 (MQ below (q_M_packet dC dI cB cI cL A adM adM_tape adM_frameAt adM_field adM_draft adM_given adM_low adM_high adM_packet adM_known a) args s 0 0 A) (F0 m 34 ls [.int s0, .ref adM]) := by
  obtain ⟨hx, hb, hr, hml, hown, hts, hlocks, hRf, hRl⟩ := id X
  unfold g_M_packet_34 at hG
  refine lv_iconst (v := (1 : Int32)) hx hb d_M_packet_34 (by decide) ?_
  obtain ⟨a_35, hx_35, hG⟩ := zb hG
  have hr_35 := zrunV (p := p) (e := e) (below := below) (meth := meth) (As := [.int s0, .int (1 : Int32)]) (rest := []) (st0 := [.int (1 : Int32), .int s0, .ref adM]) (cells := 0) (slots := 0) X zz hP hD hS hA [0, 1, 2, 3, 4, 5, 6, 7, 8, 9] (by decide) rfl (c_M_fails l dC dI cB cI cL H.size adM adM_tape adM_frameAt adM_field adM_draft adM_given adM_low adM_high adM_packet adM_known sM s0 (1 : Int32) _ hx_35) zy_M_fails zv_M_fails (hts (.methodLink R_M 62 y_M_fails) zin_M_62) hl rfl rfl d_M_packet_35 (lv_room (Nat.le_of_ble_eq_true rfl)) rfl rfl ⟨Nat.le_trans (Nat.le_of_ble_eq_true rfl) hRf, Nat.le_trans (Nat.le_of_ble_eq_true rfl) hRl⟩ ⟨Nat.zero_le _, Nat.zero_le _⟩ 0 8 rfl rfl
  refine zcalli (wr := ([] : va_W)) hr_35 hP hD hS hA [0, 1, 2, 3, 4, 5, 6, 7, 8, 9] [] rfl rfl (by decide) (by decide) (fun r_35 u_35 H locs hw_35 hP hD hS => ?_)
  obtain ⟨sM_35, rfl⟩ : ∃ z, z = u_35 := ⟨_, rfl⟩
  subst hw_35
  have hP : va_P (dC, dI) zcl (zwM adM adM_tape adM_frameAt adM_field adM_draft adM_given adM_low adM_high adM_packet adM_known cB cI cL sM_35) H := hP
  have hD : va_D A (zwM adM adM_tape adM_frameAt adM_field adM_draft adM_given adM_low adM_high adM_packet adM_known cB cI cL sM_35) := hD
  have hG : g_M_packet_c35 v1 v2 sM_35 r_35 = some a := hG
  unfold g_M_packet_c35 at hG
  refine lv_if_eq (tgt := 43) hx hb d_M_packet_38 (by decide) (fun hc => ?_) (fun hc => ?_)
  · have hG := zt hG hc
    refine lv_aload_n hx hb d_M_packet_43 rfl (lv_at hl 0 rfl) ?_
    refine va_get (D := (dC, dI)) (ci := 8) (v := .ref adM_packet) (C := R_M) (T := F_M) (N := 26) hx hb hts zi_M hown zz.1 hP 0 rfl rfl 24 (by decide) (hts (.fieldLink R_M 39 "WireCodecModel" "packet" "[I") zin_M_39) (fun _ h9 => h9) rfl d_M_packet_44 ?_
    refine lv_bipush (v := (12 : Int32)) hx hb d_M_packet_47 (by decide) ?_
    refine lv_iload_n hx hb d_M_packet_49 rfl (lv_at hl 1 rfl) ?_
    refine lv_imul hx hb d_M_packet_50 ?_
    refine lv_iload_n hx hb d_M_packet_51 rfl (lv_at hl 2 rfl) ?_
    refine lv_iadd hx hb d_M_packet_52 ?_
    obtain ⟨hin, hG⟩ := zgd hG
    refine va_iald hx hb zz.1 hP 8 1 rfl rfl hin d_M_packet_53 ?_
    refine lv_i2l hx hb d_M_packet_54 rfl ?_
    exact W.lret (v := ((zM_packet sM_35) (((12 : Int32) * v1) + v2).toNatClampNeg).toInt64) hx hb hr (fun t9 ht9 hW9 => ⟨⟨((zM_packet sM_35) (((12 : Int32) * v1) + v2).toNatClampNeg).toInt64, (sM_35), rfl, Option.some.inj hG, by rw [ht9]; exact hP, hD⟩, hS.F ht9⟩) hS.2.2 d_M_packet_55
  · have hG := zf hG hc
    refine lv_lconst (v := (0 : Int64)) hx hb d_M_packet_41 (by decide) ?_
    exact W.lret (v := (0 : Int64)) hx hb hr (fun t9 ht9 hW9 => ⟨⟨(0 : Int64), (sM_35), rfl, Option.some.inj hG, by rw [ht9]; exact hP, hD⟩, hS.F ht9⟩) hS.2.2 d_M_packet_42
set_option maxRecDepth 100000 in
set_option maxHeartbeats 4000000 in
theorem k_M_packet_29 {p : Program} {l : Launch} {e : Env} {R : Room} {s : State} {m : MethodId} {args : Array Value} {below : List Frame} {meth : Method} {c : Code} {dC : Nat → ClassId} {dI : Nat → Nat → Nat} {cB cI cL : ClassId} {A : Nat → Prop} (X : zx p s m args meth c R R_M b_M_packet (some .long) 3 1 25) (hA : ∀ q, s.heap.size ≤ q → A q) (zz : zk dC dI cB cI cL A s)  (sM : zM) (v1 : Int32) (v2 : Int32) (a : Int64 × zM) (hG : g_M_packet_29 sM v1 v2 = some a) (adM adM_tape adM_frameAt adM_field adM_draft adM_given adM_low adM_high adM_packet adM_known : Nat) (H : Heap) (locs : List Loc) (hP : va_P (dC, dI) zcl (zwM adM adM_tape adM_frameAt adM_field adM_draft adM_given adM_low adM_high adM_packet adM_known cB cI cL sM) H) (hD : va_D A (zwM adM adM_tape adM_frameAt adM_field adM_draft adM_given adM_low adM_high adM_packet adM_known cB cI cL sM)) (hS : va_S A s.heap H locs) (ls : Array Slot) (hl : lv_has ls 3 [(0, .ref adM), (1, .int v1), (2, .int v2)]) : W p l e R s m args below meth c H locs 0 0 (MQ below (q_M_packet dC dI cB cI cL A adM adM_tape adM_frameAt adM_field adM_draft adM_given adM_low adM_high adM_packet adM_known a) args s 0 0 A) (F0 m 29 ls [.ref adM]) := by
  obtain ⟨hx, hb, hr, hml, hown, hts, hlocks, hRf, hRl⟩ := id X
  unfold g_M_packet_29 at hG
  refine lv_iconst (v := (1 : Int32)) hx hb d_M_packet_29 (by decide) ?_
  refine lv_goto (tgt := 34) hx hb d_M_packet_30 (by decide) ?_
  exact k_M_packet_34 X hA zz sM v1 v2 (1 : Int32) _ hG adM adM_tape adM_frameAt adM_field adM_draft adM_given adM_low adM_high adM_packet adM_known _ _ hP hD hS _ (lv_sub hl [0, 1, 2] rfl)
set_option maxRecDepth 100000 in
set_option maxHeartbeats 4000000 in
theorem k_M_packet_0 {p : Program} {l : Launch} {e : Env} {R : Room} {s : State} {m : MethodId} {args : Array Value} {below : List Frame} {meth : Method} {c : Code} {dC : Nat → ClassId} {dI : Nat → Nat → Nat} {cB cI cL : ClassId} {A : Nat → Prop} (X : zx p s m args meth c R R_M b_M_packet (some .long) 3 1 25) (hA : ∀ q, s.heap.size ≤ q → A q) (zz : zk dC dI cB cI cL A s)  (sM : zM) (v1 : Int32) (v2 : Int32) (a : Int64 × zM) (hG : g_M_packet sM v1 v2 = some a) (adM adM_tape adM_frameAt adM_field adM_draft adM_given adM_low adM_high adM_packet adM_known : Nat) (H : Heap) (locs : List Loc) (hP : va_P (dC, dI) zcl (zwM adM adM_tape adM_frameAt adM_field adM_draft adM_given adM_low adM_high adM_packet adM_known cB cI cL sM) H) (hD : va_D A (zwM adM adM_tape adM_frameAt adM_field adM_draft adM_given adM_low adM_high adM_packet adM_known cB cI cL sM)) (hS : va_S A s.heap H locs) (ls : Array Slot) (hl : lv_has ls 3 [(0, .ref adM), (1, .int v1), (2, .int v2)]) : W p l e R s m args below meth c H locs 0 0 (MQ below (q_M_packet dC dI cB cI cL A adM adM_tape adM_frameAt adM_field adM_draft adM_given adM_low adM_high adM_packet adM_known a) args s 0 0 A) (F0 m 0 ls []) := by
  obtain ⟨hx, hb, hr, hml, hown, hts, hlocks, hRf, hRl⟩ := id X
  unfold g_M_packet at hG
  refine lv_aload_n hx hb d_M_packet_0 rfl (lv_at hl 0 rfl) ?_
  refine lv_iload_n hx hb d_M_packet_1 rfl (lv_at hl 1 rfl) ?_
  refine lv_i2l hx hb d_M_packet_2 rfl ?_
  refine lv_lconst (v := (0 : Int64)) hx hb d_M_packet_3 (by decide) ?_
  refine lv_aload_n hx hb d_M_packet_4 rfl (lv_at hl 0 rfl) ?_
  refine va_get (D := (dC, dI)) (ci := 8) (v := .int (zM_packets sM)) (C := R_M) (T := F_M) (N := 26) hx hb hts zi_M hown zz.1 hP 0 rfl rfl 23 (by decide) (hts (.fieldLink R_M 97 "WireCodecModel" "packets" "I") zin_M_97) (fun _ h9 => h9) rfl d_M_packet_5 ?_
  refine lv_i2l hx hb d_M_packet_8 rfl ?_
  refine lv_lconst (v := (1 : Int64)) hx hb d_M_packet_9 (by decide) ?_
  refine lv_lsub hx hb d_M_packet_10 ?_
  obtain ⟨a_11, hx_11, hG⟩ := zb hG
  have hr_11 := zrunS (p := p) (e := e) (below := below) (meth := meth) (As := [.long v1.toInt64, .long (0 : Int64), .long (((zM_packets sM).toInt64) - (1 : Int64))]) (rest := [.ref adM]) (st0 := [.long (((zM_packets sM).toInt64) - (1 : Int64)), .long (0 : Int64), .long v1.toInt64, .ref adM]) (cells := 0) (slots := 0) X zz hP hD hS hA [] (by decide) rfl (c_M_within l dC dI cB cI cL H.size v1.toInt64 (0 : Int64) (((zM_packets sM).toInt64) - (1 : Int64)) _ hx_11) zy_M_within zv_M_within (hts (.methodLink R_M 53 y_M_within) zin_M_53) hl rfl rfl d_M_packet_11 (lv_room (Nat.le_of_ble_eq_true rfl)) rfl rfl ⟨Nat.le_trans (Nat.le_of_ble_eq_true rfl) hRf, Nat.le_trans (Nat.le_of_ble_eq_true rfl) hRl⟩ ⟨Nat.zero_le _, Nat.zero_le _⟩
  refine zcalli (wr := (zwM adM adM_tape adM_frameAt adM_field adM_draft adM_given adM_low adM_high adM_packet adM_known cB cI cL sM)) hr_11 hP hD hS hA [] [0, 1, 2, 3, 4, 5, 6, 7, 8, 9] rfl rfl (by decide) (by decide) (fun r_11 u_11 H locs hw_11 hP hD hS => ?_)
  subst hw_11
  have hP : va_P (dC, dI) zcl (zwM adM adM_tape adM_frameAt adM_field adM_draft adM_given adM_low adM_high adM_packet adM_known cB cI cL sM) H := hP
  have hD : va_D A (zwM adM adM_tape adM_frameAt adM_field adM_draft adM_given adM_low adM_high adM_packet adM_known cB cI cL sM) := hD
  have hG : g_M_packet_c11 sM v1 v2 r_11 = some a := hG
  unfold g_M_packet_c11 at hG
  refine lv_if_eq (tgt := 29) hx hb d_M_packet_14 (by decide) (fun hc => ?_) (fun hc => ?_)
  · have hG := zt hG hc
    exact k_M_packet_29 X hA zz sM v1 v2 _ hG adM adM_tape adM_frameAt adM_field adM_draft adM_given adM_low adM_high adM_packet adM_known _ _ hP hD hS _ (lv_sub hl [0, 1, 2] rfl)
  · have hG := zf hG hc
    refine lv_iload_n hx hb d_M_packet_17 rfl (lv_at hl 2 rfl) ?_
    refine lv_i2l hx hb d_M_packet_18 rfl ?_
    refine lv_lconst (v := (0 : Int64)) hx hb d_M_packet_19 (by decide) ?_
    refine lv_ldc2 (v := (11 : Int64)) hx hb hown (hts (.constantLong R_M 206 (11 : Int64)) zin_M_206) d_M_packet_20 ?_
    obtain ⟨a_23, hx_23, hG⟩ := zb hG
    have hr_23 := zrunS (p := p) (e := e) (below := below) (meth := meth) (As := [.long v2.toInt64, .long (0 : Int64), .long (11 : Int64)]) (rest := [.ref adM]) (st0 := [.long (11 : Int64), .long (0 : Int64), .long v2.toInt64, .ref adM]) (cells := 0) (slots := 0) X zz hP hD hS hA [] (by decide) rfl (c_M_within l dC dI cB cI cL H.size v2.toInt64 (0 : Int64) (11 : Int64) _ hx_23) zy_M_within zv_M_within (hts (.methodLink R_M 53 y_M_within) zin_M_53) hl rfl rfl d_M_packet_23 (lv_room (Nat.le_of_ble_eq_true rfl)) rfl rfl ⟨Nat.le_trans (Nat.le_of_ble_eq_true rfl) hRf, Nat.le_trans (Nat.le_of_ble_eq_true rfl) hRl⟩ ⟨Nat.zero_le _, Nat.zero_le _⟩
    refine zcalli (wr := (zwM adM adM_tape adM_frameAt adM_field adM_draft adM_given adM_low adM_high adM_packet adM_known cB cI cL sM)) hr_23 hP hD hS hA [] [0, 1, 2, 3, 4, 5, 6, 7, 8, 9] rfl rfl (by decide) (by decide) (fun r_23 u_23 H locs hw_23 hP hD hS => ?_)
    subst hw_23
    have hP : va_P (dC, dI) zcl (zwM adM adM_tape adM_frameAt adM_field adM_draft adM_given adM_low adM_high adM_packet adM_known cB cI cL sM) H := hP
    have hD : va_D A (zwM adM adM_tape adM_frameAt adM_field adM_draft adM_given adM_low adM_high adM_packet adM_known cB cI cL sM) := hD
    have hG : g_M_packet_c23 sM v1 v2 r_23 = some a := hG
    unfold g_M_packet_c23 at hG
    refine lv_if_ne (tgt := 33) hx hb d_M_packet_26 (by decide) (fun hc => ?_) (fun hc => ?_)
    · have hG := zf hG hc
      refine lv_iconst (v := (0 : Int32)) hx hb d_M_packet_33 (by decide) ?_
      exact k_M_packet_34 X hA zz sM v1 v2 (0 : Int32) _ hG adM adM_tape adM_frameAt adM_field adM_draft adM_given adM_low adM_high adM_packet adM_known _ _ hP hD hS _ (lv_sub hl [0, 1, 2] rfl)
    · have hG := zt hG hc
      exact k_M_packet_29 X hA zz sM v1 v2 _ hG adM adM_tape adM_frameAt adM_field adM_draft adM_given adM_low adM_high adM_packet adM_known _ _ hP hD hS _ (lv_sub hl [0, 1, 2] rfl)
set_option maxRecDepth 100000 in
set_option maxHeartbeats 4000000 in
theorem c_M_packet (l : Launch) (dC : Nat → ClassId) (dI : Nat → Nat → Nat) (cB cI cL : ClassId) (sz : Nat) (adM adM_tape adM_frameAt adM_field adM_draft adM_given adM_low adM_high adM_packet adM_known : Nat) (sM : zM) (v1 : Int32) (v2 : Int32) (a : Int64 × zM) (hG : g_M_packet sM v1 v2 = some a) : Met l y_M_packet (zw y_M_packet b_M_packet 3 (some .long)) ({ frames := 1, cells := 0, slots := 0, locals := 25 }) (va_Pc [.ref adM, .int v1, .int v2] (zpre dC dI cB cI cL sz (zwM adM adM_tape adM_frameAt adM_field adM_draft adM_given adM_low adM_high adM_packet adM_known cB cI cL sM))) (q_M_packet dC dI cB cI cL (va_A (zwM adM adM_tape adM_frameAt adM_field adM_draft adM_given adM_low adM_high adM_packet adM_known cB cI cL sM) sz) adM adM_tape adM_frameAt adM_field adM_draft adM_given adM_low adM_high adM_packet adM_known a) 0 0 (va_A (zwM adM adM_tape adM_frameAt adM_field adM_draft adM_given adM_low adM_high adM_packet adM_known cB cI cL sM) sz) := by
  refine Met.ofW (cc := b_M_packet) (maxL := 3) (ret := (some .long)) (by decide) rfl ?_
  intro p e s m args below meth c s₁ B hml hv
  obtain ⟨rfl, hsz, hP, zz, hD0⟩ := hv
  subst hsz
  have X := zx_of (F := 1) (L := 25) B hml (Nat.le_refl _) (Nat.le_refl _)
  have hD := hD0.self (sz := s.heap.size)
  have hA : ∀ q : Nat, s.heap.size ≤ q → va_A (zwM adM adM_tape adM_frameAt adM_field adM_draft adM_given adM_low adM_high adM_packet adM_known cB cI cL sM) s.heap.size q := fun q h => Or.inr h
  have hl := lv_entry ([.ref adM, .int v1, .int v2]) (n := 3) (Nat.le_of_ble_eq_true rfl)
  rw [lg_entry_eq]
  generalize (lg_sl ([.ref adM, .int v1, .int v2]) ++ List.replicate (3 - (lg_sl ([.ref adM, .int v1, .int v2])).length) Slot.unset).toArray = ls at hl ⊢
  exact k_M_packet_0 X hA zz sM v1 v2 a hG adM adM_tape adM_frameAt adM_field adM_draft adM_given adM_low adM_high adM_packet adM_known _ _ hP hD va_S.rf ls hl
noncomputable def g_M_lead_c388 (sM_388 : zM) : Option (Int32 × zM) := some (zM_size sM_388, sM_388)
noncomputable def g_M_lead_383 (N : Nat) (sM : zM) (v5 : Int32) : Option (Int32 × zM) := (g_M_writeNumber N sM v5.toInt64 (2 : Int32)).bind (fun a => g_M_lead_c388 a)
noncomputable def g_M_lead_c380 (N : Nat) (v5 : Int32) (sM_380 : zM) : Option (Int32 × zM) := g_M_lead_383 N sM_380 v5
noncomputable def g_M_lead_362 (N : Nat) (sM : zM) (v1 : Int32) (v3 : Int32) (v4 : Int32) (v5 : Int32) : Option (Int32 × zM) := if (zM_gives sM) = (v3 + v4) then (if v1 = (0 : Int32) then ((g_M_writeNumber N sM (0 : Int64) (1 : Int32)).bind (fun a => g_M_lead_c380 N v5 a)) else (g_M_lead_383 N sM v5)) else (g_M_lead_383 N sM v5)
noncomputable def g_M_lead_c359 (N : Nat) (v1 : Int32) (v3 : Int32) (v4 : Int32) (v5 : Int32) (sM_359 : zM) : Option (Int32 × zM) := g_M_lead_362 N sM_359 v1 v3 v4 v5
noncomputable def g_M_lead_c337 (kr : zM → Int32 → Int32 → Int32 → Int32 → Int32 → Int32 → Option (Int32 × zM)) (v1 : Int32) (v3 : Int32) (v4 : Int32) (v5 : Int32) (v7 : Int32) (v9 : Int32) (sM_337 : zM) : Option (Int32 × zM) := kr sM_337 v1 v3 v4 v5 v7 (v9 + 1)
noncomputable def g_M_lead_327 (N : Nat) (kr : zM → Int32 → Int32 → Int32 → Int32 → Int32 → Int32 → Option (Int32 × zM)) (sM : zM) (v1 : Int32) (v3 : Int32) (v4 : Int32) (v5 : Int32) (v7 : Int32) (v9 : Int32) : Option (Int32 × zM) := zg (vp_in v9 2000) ((g_M_write N sM (((zM_given sM) v9.toNatClampNeg).toInt64) (1 : Int32)).bind (fun a => g_M_lead_c337 kr v1 v3 v4 v5 v7 v9 a))
noncomputable def g_M_lead_c324 (N : Nat) (kr : zM → Int32 → Int32 → Int32 → Int32 → Int32 → Int32 → Option (Int32 × zM)) (v1 : Int32) (v3 : Int32) (v4 : Int32) (v5 : Int32) (v7 : Int32) (v9 : Int32) (sM_324 : zM) : Option (Int32 × zM) := g_M_lead_327 N kr sM_324 v1 v3 v4 v5 v7 v9
noncomputable def g_M_lead_c321 (N : Nat) (kr : zM → Int32 → Int32 → Int32 → Int32 → Int32 → Int32 → Option (Int32 × zM)) (sM : zM) (v1 : Int32) (v3 : Int32) (v4 : Int32) (v5 : Int32) (v7 : Int32) (v9 : Int32) (r_321 : Int32) : Option (Int32 × zM) := (g_M_writeNumber N sM v7.toInt64 r_321).bind (fun a => g_M_lead_c324 N kr v1 v3 v4 v5 v7 v9 a)
noncomputable def g_M_lead_305 (N : Nat) (kr : zM → Int32 → Int32 → Int32 → Int32 → Int32 → Int32 → Option (Int32 × zM)) (sM : zM) (v1 : Int32) (v3 : Int32) (v4 : Int32) (v5 : Int32) (v7 : Int32) (v9 : Int32) : Option (Int32 × zM) := if v9 = (v3 + v4) then ((g_M_needs v7.toInt64).bind (fun a => g_M_lead_c321 N kr sM v1 v3 v4 v5 v7 v9 a)) else (g_M_lead_327 N kr sM v1 v3 v4 v5 v7 v9)
noncomputable def g_M_lead_c302 (N : Nat) (kr : zM → Int32 → Int32 → Int32 → Int32 → Int32 → Int32 → Option (Int32 × zM)) (v1 : Int32) (v3 : Int32) (v4 : Int32) (v5 : Int32) (v7 : Int32) (v9 : Int32) (sM_302 : zM) : Option (Int32 × zM) := g_M_lead_305 N kr sM_302 v1 v3 v4 v5 v7 v9
noncomputable def g_M_lead_282_b (N : Nat) (kr : zM → Int32 → Int32 → Int32 → Int32 → Int32 → Int32 → Option (Int32 × zM)) (sM : zM) (v1 : Int32) (v3 : Int32) (v4 : Int32) (v5 : Int32) (v7 : Int32) (v9 : Int32) : Option (Int32 × zM) := if (zM_gives sM) ≤ v9 then (if (zM_gives sM) = v3 then ((g_M_write N sM v4.toInt64 (1 : Int32)).bind (fun a => g_M_lead_c359 N v1 v3 v4 v5 a)) else (g_M_lead_362 N sM v1 v3 v4 v5)) else (if v9 = v3 then ((g_M_write N sM v4.toInt64 (1 : Int32)).bind (fun a => g_M_lead_c302 N kr v1 v3 v4 v5 v7 v9 a)) else (g_M_lead_305 N kr sM v1 v3 v4 v5 v7 v9))
noncomputable def g_M_lead_282 (N : Nat) : Nat → zM → Int32 → Int32 → Int32 → Int32 → Int32 → Int32 → Option (Int32 × zM)
  | 0 => fun _ _ _ _ _ _ _ => none
  | k + 1 => fun sM v1 v3 v4 v5 v7 v9 => g_M_lead_282_b N (g_M_lead_282 N k) sM v1 v3 v4 v5 v7 v9
noncomputable def g_M_lead_c276 (N : Nat) (v1 : Int32) (v3 : Int32) (v4 : Int32) (v5 : Int32) (v7 : Int32) (sM_276 : zM) : Option (Int32 × zM) := g_M_lead_282 N N sM_276 v1 v3 v4 v5 v7 (0 : Int32)
noncomputable def g_M_lead_c269 (N : Nat) (v1 : Int32) (v3 : Int32) (v4 : Int32) (v5 : Int32) (v7 : Int32) (sM_269 : zM) : Option (Int32 × zM) := (g_M_write N sM_269 v3.toInt64 (1 : Int32)).bind (fun a => g_M_lead_c276 N v1 v3 v4 v5 v7 a)
noncomputable def g_M_lead_c263 (N : Nat) (v1 : Int32) (v3 : Int32) (v4 : Int32) (v5 : Int32) (v7 : Int32) (sM_263 : zM) : Option (Int32 × zM) := (g_M_write N sM_263 (1 : Int64) (4 : Int32)).bind (fun a => g_M_lead_c269 N v1 v3 v4 v5 v7 a)
noncomputable def g_M_lead_c242 (sM_242 : zM) : Option (Int32 × zM) := some (zM_size sM_242, sM_242)
noncomputable def g_M_lead_c237 (N : Nat) (v3 : Int32) (sM_237 : zM) : Option (Int32 × zM) := (g_M_writeGiven N sM_237 v3).bind (fun a => g_M_lead_c242 a)
noncomputable def g_M_lead_c217 (N : Nat) (v1 : Int32) (v2 : Int32) (v3 : Int32) (v4 : Int32) (v5 : Int32) (v7 : Int32) (sM_217 : zM) (r_217 : Int32) : Option (Int32 × zM) := if r_217 = (0 : Int32) then (if v1 = (4 : Int32) then ((g_M_write N sM_217 (((64 : Int32) + v2).toInt64) (1 : Int32)).bind (fun a => g_M_lead_c237 N v3 a)) else ((g_M_write N sM_217 ((((192 : Int32) + ((16 : Int32) * v1)) + v2).toInt64) (1 : Int32)).bind (fun a => g_M_lead_c263 N v1 v3 v4 v5 v7 a))) else (some ((0 : Int32), sM_217))
noncomputable def g_M_lead_216 (N : Nat) (sM : zM) (v1 : Int32) (v2 : Int32) (v3 : Int32) (v4 : Int32) (v5 : Int32) (v7 : Int32) (s0 : Int32) : Option (Int32 × zM) := (g_M_fails sM s0 (2 : Int32)).bind (fun a => g_M_lead_c217 N v1 v2 v3 v4 v5 v7 a.2 a.1)
noncomputable def g_M_lead_196 (N : Nat) (sM : zM) (v1 : Int32) (v2 : Int32) (v3 : Int32) (v4 : Int32) (v5 : Int32) (v7 : Int32) (s0 : Int32) : Option (Int32 × zM) := if ((zM_size sM) + s0) ≤ (65536 : Int32) then (g_M_lead_216 N sM v1 v2 v3 v4 v5 v7 (0 : Int32)) else (g_M_lead_216 N sM v1 v2 v3 v4 v5 v7 (1 : Int32))
noncomputable def g_M_lead_195 (N : Nat) (sM : zM) (v1 : Int32) (v2 : Int32) (v3 : Int32) (v4 : Int32) (v5 : Int32) (v7 : Int32) (s0 : Int32) (s1 : Int32) : Option (Int32 × zM) := g_M_lead_196 N sM v1 v2 v3 v4 v5 v7 (s1 + s0)
noncomputable def g_M_lead_c185 (N : Nat) (v1 : Int32) (v2 : Int32) (v3 : Int32) (v4 : Int32) (v5 : Int32) (sM_141 : zM) (r_185 : Int32) : Option (Int32 × zM) := g_M_lead_195 N sM_141 v1 v2 v3 v4 v5 (((zM_gives sM_141) - v3) - v4) (r_185 + (((zM_gives sM_141) - v3) - v4)) (((9 : Int32) + v3) + v4)
noncomputable def g_M_lead_c141 (N : Nat) (v1 : Int32) (v2 : Int32) (v3 : Int32) (v4 : Int32) (v5 : Int32) (sM_141 : zM) (r_141 : Int32) : Option (Int32 × zM) := if r_141 = (0 : Int32) then (if v1 = (4 : Int32) then (g_M_lead_196 N sM_141 v1 v2 v3 v4 v5 (((zM_gives sM_141) - v3) - v4) ((1 : Int32) + v3)) else (if v1 = (0 : Int32) then ((g_M_needs ((((zM_gives sM_141) - v3) - v4).toInt64)).bind (fun a => g_M_lead_c185 N v1 v2 v3 v4 v5 sM_141 a)) else (g_M_lead_195 N sM_141 v1 v2 v3 v4 v5 (((zM_gives sM_141) - v3) - v4) (0 : Int32) (((9 : Int32) + v3) + v4)))) else (some ((0 : Int32), sM_141))
noncomputable def g_M_lead_135 (N : Nat) (sM : zM) (v1 : Int32) (v2 : Int32) (v3 : Int32) (v4 : Int32) (v5 : Int32) (s0 : Int32) : Option (Int32 × zM) := (g_M_fails sM s0 (1 : Int32)).bind (fun a => g_M_lead_c141 N v1 v2 v3 v4 v5 a.2 a.1)
noncomputable def g_M_lead_130 (N : Nat) (sM : zM) (v1 : Int32) (v2 : Int32) (v3 : Int32) (v4 : Int32) (v5 : Int32) : Option (Int32 × zM) := g_M_lead_135 N sM v1 v2 v3 v4 v5 (1 : Int32)
noncomputable def g_M_lead_134 (N : Nat) (sM : zM) (v1 : Int32) (v2 : Int32) (v3 : Int32) (v4 : Int32) (v5 : Int32) : Option (Int32 × zM) := g_M_lead_135 N sM v1 v2 v3 v4 v5 (0 : Int32)
noncomputable def g_M_lead_c124 (N : Nat) (sM : zM) (v1 : Int32) (v2 : Int32) (v3 : Int32) (v4 : Int32) (v5 : Int32) (r_124 : Int32) : Option (Int32 × zM) := if r_124 = (0 : Int32) then (g_M_lead_130 N sM v1 v2 v3 v4 v5) else (g_M_lead_134 N sM v1 v2 v3 v4 v5)
noncomputable def g_M_lead_110 (N : Nat) (sM : zM) (v1 : Int32) (v2 : Int32) (v3 : Int32) (v4 : Int32) (v5 : Int32) : Option (Int32 × zM) := if v1 = (4 : Int32) then (g_M_lead_134 N sM v1 v2 v3 v4 v5) else ((g_M_within v5.toInt64 (20 : Int64) (16383 : Int64)).bind (fun a => g_M_lead_c124 N sM v1 v2 v3 v4 v5 a))
noncomputable def g_M_lead_76 (N : Nat) (sM : zM) (v1 : Int32) (v2 : Int32) (v3 : Int32) (v4 : Int32) (v5 : Int32) (s0 : Int32) : Option (Int32 × zM) := if s0 = (0 : Int32) then (if (zM_gives sM) < (v3 + v4) then (g_M_lead_130 N sM v1 v2 v3 v4 v5) else (if v1 = (2 : Int32) then (if (v3 + v4) < (zM_gives sM) then (g_M_lead_130 N sM v1 v2 v3 v4 v5) else (g_M_lead_110 N sM v1 v2 v3 v4 v5)) else (g_M_lead_110 N sM v1 v2 v3 v4 v5))) else (g_M_lead_130 N sM v1 v2 v3 v4 v5)
noncomputable def g_M_lead_71 (N : Nat) (sM : zM) (v1 : Int32) (v2 : Int32) (v3 : Int32) (v4 : Int32) (v5 : Int32) : Option (Int32 × zM) := g_M_lead_76 N sM v1 v2 v3 v4 v5 (1 : Int32)
noncomputable def g_M_lead_c65 (N : Nat) (sM : zM) (v1 : Int32) (v2 : Int32) (v3 : Int32) (v4 : Int32) (v5 : Int32) (r_65 : Int32) : Option (Int32 × zM) := if r_65 = (0 : Int32) then (g_M_lead_71 N sM v1 v2 v3 v4 v5) else (g_M_lead_76 N sM v1 v2 v3 v4 v5 (0 : Int32))
noncomputable def g_M_lead_65 (N : Nat) (sM : zM) (v1 : Int32) (v2 : Int32) (v3 : Int32) (v4 : Int32) (v5 : Int32) (s0 : Int64) (s1 : Int64) (s2 : Int64) : Option (Int32 × zM) := (g_M_within s2 s1 s0).bind (fun a => g_M_lead_c65 N sM v1 v2 v3 v4 v5 a)
noncomputable def g_M_lead_c43 (N : Nat) (sM : zM) (v1 : Int32) (v2 : Int32) (v3 : Int32) (v4 : Int32) (v5 : Int32) (r_43 : Int32) : Option (Int32 × zM) := if r_43 = (0 : Int32) then (g_M_lead_71 N sM v1 v2 v3 v4 v5) else (if v1 = (4 : Int32) then (g_M_lead_65 N sM v1 v2 v3 v4 v5 (0 : Int64) (0 : Int64) v4.toInt64) else (g_M_lead_65 N sM v1 v2 v3 v4 v5 (20 : Int64) (0 : Int64) v4.toInt64))
noncomputable def g_M_lead_c31 (N : Nat) (sM : zM) (v1 : Int32) (v2 : Int32) (v3 : Int32) (v4 : Int32) (v5 : Int32) (r_31 : Int32) : Option (Int32 × zM) := if r_31 = (0 : Int32) then (g_M_lead_71 N sM v1 v2 v3 v4 v5) else ((g_M_within v3.toInt64 (0 : Int64) (20 : Int64)).bind (fun a => g_M_lead_c43 N sM v1 v2 v3 v4 v5 a))
noncomputable def g_M_lead_31 (N : Nat) (sM : zM) (v1 : Int32) (v2 : Int32) (v3 : Int32) (v4 : Int32) (v5 : Int32) (s0 : Int64) (s1 : Int64) (s2 : Int64) : Option (Int32 × zM) := (g_M_within s2 s1 s0).bind (fun a => g_M_lead_c31 N sM v1 v2 v3 v4 v5 a)
noncomputable def g_M_lead_14 (N : Nat) (sM : zM) (v1 : Int32) (v2 : Int32) (v3 : Int32) (v4 : Int32) (v5 : Int32) : Option (Int32 × zM) := if v1 = (4 : Int32) then (g_M_lead_31 N sM v1 v2 v3 v4 v5 (63 : Int64) (0 : Int64) v2.toInt64) else (g_M_lead_31 N sM v1 v2 v3 v4 v5 (15 : Int64) (0 : Int64) v2.toInt64)
noncomputable def g_M_lead (N : Nat) (sM : zM) (v1 : Int32) (v2 : Int32) (v3 : Int32) (v4 : Int32) (v5 : Int32) : Option (Int32 × zM) := if v1 = (0 : Int32) then (g_M_lead_14 N sM v1 v2 v3 v4 v5) else (if v1 = (2 : Int32) then (g_M_lead_14 N sM v1 v2 v3 v4 v5) else (if v1 = (4 : Int32) then (g_M_lead_14 N sM v1 v2 v3 v4 v5) else (g_M_lead_71 N sM v1 v2 v3 v4 v5)))
def q_M_lead (dC : Nat → ClassId) (dI : Nat → Nat → Nat) (cB cI cL : ClassId) (A : Nat → Prop) (adM : Nat) (adM_tape : Nat) (adM_frameAt : Nat) (adM_field : Nat) (adM_draft : Nat) (adM_given : Nat) (adM_low : Nat) (adM_high : Nat) (adM_packet : Nat) (adM_known : Nat) (a : Int32 × zM) : Array Value → State → Outcome → State → Prop := va_Qi (fun (r : Int32) (u : zM) => (r, u) = a) (fun u U => va_P (dC, dI) zcl (zwM adM adM_tape adM_frameAt adM_field adM_draft adM_given adM_low adM_high adM_packet adM_known cB cI cL u) U.heap ∧ va_D A (zwM adM adM_tape adM_frameAt adM_field adM_draft adM_given adM_low adM_high adM_packet adM_known cB cI cL u)) A
set_option maxRecDepth 100000 in
set_option maxHeartbeats 4000000 in
theorem k_M_lead_383 {p : Program} {l : Launch} {e : Env} {R : Room} {s : State} {m : MethodId} {args : Array Value} {below : List Frame} {meth : Method} {c : Code} {dC : Nat → ClassId} {dI : Nat → Nat → Nat} {cB cI cL : ClassId} {A : Nat → Prop} (X : zx p s m args meth c R R_M b_M_lead (some .int) 10 2 49) (hA : ∀ q, s.heap.size ≤ q → A q) (zz : zk dC dI cB cI cL A s)  (N : Nat) (sM : zM) (v5 : Int32) (a : Int32 × zM) (hG : g_M_lead_383 N sM v5 = some a) (adM adM_tape adM_frameAt adM_field adM_draft adM_given adM_low adM_high adM_packet adM_known : Nat) (H : Heap) (locs : List Loc) (hP : va_P (dC, dI) zcl (zwM adM adM_tape adM_frameAt adM_field adM_draft adM_given adM_low adM_high adM_packet adM_known cB cI cL sM) H) (hD : va_D A (zwM adM adM_tape adM_frameAt adM_field adM_draft adM_given adM_low adM_high adM_packet adM_known cB cI cL sM)) (hS : va_S A s.heap H locs) (ls : Array Slot) (hl : lv_has ls 10 [(0, .ref adM), (5, .int v5)]) : W p l e R s m args below meth c H locs 0 0 (MQ below (q_M_lead dC dI cB cI cL A adM adM_tape adM_frameAt adM_field adM_draft adM_given adM_low adM_high adM_packet adM_known a) args s 0 0 A) (F0 m 383 ls []) := by
  obtain ⟨hx, hb, hr, hml, hown, hts, hlocks, hRf, hRl⟩ := id X
  unfold g_M_lead_383 at hG
  refine lv_aload_n hx hb d_M_lead_383 rfl (lv_at hl 0 rfl) ?_
  refine lv_iload hx hb d_M_lead_384 (lv_at hl 1 rfl) ?_
  refine lv_i2l hx hb d_M_lead_386 rfl ?_
  refine lv_iconst (v := (2 : Int32)) hx hb d_M_lead_387 (by decide) ?_
  obtain ⟨a_388, hx_388, hG⟩ := zb hG
  have hr_388 := zrunV (p := p) (e := e) (below := below) (meth := meth) (As := [.long v5.toInt64, .int (2 : Int32)]) (rest := []) (st0 := [.int (2 : Int32), .long v5.toInt64, .ref adM]) (cells := 0) (slots := 0) X zz hP hD hS hA [0, 1, 2, 3, 4, 5, 6, 7, 8, 9] (by decide) rfl (c_M_writeNumber l dC dI cB cI cL H.size adM adM_tape adM_frameAt adM_field adM_draft adM_given adM_low adM_high adM_packet adM_known N sM v5.toInt64 (2 : Int32) _ hx_388) zy_M_writeNumber zv_M_writeNumber (hts (.methodLink R_M 88 y_M_writeNumber) zin_M_88) hl rfl rfl d_M_lead_388 (lv_room (Nat.le_of_ble_eq_true rfl)) rfl rfl ⟨Nat.le_trans (Nat.le_of_ble_eq_true rfl) hRf, Nat.le_trans (Nat.le_of_ble_eq_true rfl) hRl⟩ ⟨Nat.zero_le _, Nat.zero_le _⟩ 0 8 rfl rfl
  refine zcallv (wr := ([] : va_W)) hr_388 hP hD hS hA [0, 1, 2, 3, 4, 5, 6, 7, 8, 9] [] rfl rfl (by decide) (by decide) (fun u_388 H locs hw_388 hP hD hS => ?_)
  obtain ⟨sM_388, rfl⟩ : ∃ z, z = u_388 := ⟨_, rfl⟩
  subst hw_388
  have hP : va_P (dC, dI) zcl (zwM adM adM_tape adM_frameAt adM_field adM_draft adM_given adM_low adM_high adM_packet adM_known cB cI cL sM_388) H := hP
  have hD : va_D A (zwM adM adM_tape adM_frameAt adM_field adM_draft adM_given adM_low adM_high adM_packet adM_known cB cI cL sM_388) := hD
  have hG : g_M_lead_c388 sM_388 = some a := hG
  unfold g_M_lead_c388 at hG
  refine lv_aload_n hx hb d_M_lead_391 rfl (lv_at hl 0 rfl) ?_
  refine va_get (D := (dC, dI)) (ci := 8) (v := .int (zM_size sM_388)) (C := R_M) (T := F_M) (N := 26) hx hb hts zi_M hown zz.1 hP 0 rfl rfl 2 (by decide) (hts (.fieldLink R_M 57 "WireCodecModel" "size" "I") zin_M_57) (fun _ h9 => h9) rfl d_M_lead_392 ?_
  exact W.iret (v := zM_size sM_388) hx hb hr (fun t9 ht9 hW9 => ⟨⟨zM_size sM_388, (sM_388), rfl, Option.some.inj hG, by rw [ht9]; exact hP, hD⟩, hS.F ht9⟩) hS.2.2 d_M_lead_395
set_option maxRecDepth 100000 in
set_option maxHeartbeats 4000000 in
theorem k_M_lead_362 {p : Program} {l : Launch} {e : Env} {R : Room} {s : State} {m : MethodId} {args : Array Value} {below : List Frame} {meth : Method} {c : Code} {dC : Nat → ClassId} {dI : Nat → Nat → Nat} {cB cI cL : ClassId} {A : Nat → Prop} (X : zx p s m args meth c R R_M b_M_lead (some .int) 10 2 49) (hA : ∀ q, s.heap.size ≤ q → A q) (zz : zk dC dI cB cI cL A s)  (N : Nat) (sM : zM) (v1 : Int32) (v3 : Int32) (v4 : Int32) (v5 : Int32) (a : Int32 × zM) (hG : g_M_lead_362 N sM v1 v3 v4 v5 = some a) (adM adM_tape adM_frameAt adM_field adM_draft adM_given adM_low adM_high adM_packet adM_known : Nat) (H : Heap) (locs : List Loc) (hP : va_P (dC, dI) zcl (zwM adM adM_tape adM_frameAt adM_field adM_draft adM_given adM_low adM_high adM_packet adM_known cB cI cL sM) H) (hD : va_D A (zwM adM adM_tape adM_frameAt adM_field adM_draft adM_given adM_low adM_high adM_packet adM_known cB cI cL sM)) (hS : va_S A s.heap H locs) (ls : Array Slot) (hl : lv_has ls 10 [(0, .ref adM), (1, .int v1), (3, .int v3), (4, .int v4), (5, .int v5)]) : W p l e R s m args below meth c H locs 0 0 (MQ below (q_M_lead dC dI cB cI cL A adM adM_tape adM_frameAt adM_field adM_draft adM_given adM_low adM_high adM_packet adM_known a) args s 0 0 A) (F0 m 362 ls []) := by
  obtain ⟨hx, hb, hr, hml, hown, hts, hlocks, hRf, hRl⟩ := id X
  unfold g_M_lead_362 at hG
  refine lv_aload_n hx hb d_M_lead_362 rfl (lv_at hl 0 rfl) ?_
  refine va_get (D := (dC, dI)) (ci := 8) (v := .int (zM_gives sM)) (C := R_M) (T := F_M) (N := 26) hx hb hts zi_M hown zz.1 hP 0 rfl rfl 19 (by decide) (hts (.fieldLink R_M 211 "WireCodecModel" "gives" "I") zin_M_211) (fun _ h9 => h9) rfl d_M_lead_363 ?_
  refine lv_iload_n hx hb d_M_lead_366 rfl (lv_at hl 2 rfl) ?_
  refine lv_iload hx hb d_M_lead_367 (lv_at hl 3 rfl) ?_
  refine lv_iadd hx hb d_M_lead_369 ?_
  refine lv_icmp_ne (tgt := 383) hx hb d_M_lead_370 (by decide) (fun hc => ?_) (fun hc => ?_)
  · have hG := zf hG hc
    exact k_M_lead_383 X hA zz N sM v5 _ hG adM adM_tape adM_frameAt adM_field adM_draft adM_given adM_low adM_high adM_packet adM_known _ _ hP hD hS _ (lv_sub hl [0, 4] rfl)
  · have hG := zt hG hc
    refine lv_iload_n hx hb d_M_lead_373 rfl (lv_at hl 1 rfl) ?_
    refine lv_if_ne (tgt := 383) hx hb d_M_lead_374 (by decide) (fun hc => ?_) (fun hc => ?_)
    · have hG := zf hG hc
      exact k_M_lead_383 X hA zz N sM v5 _ hG adM adM_tape adM_frameAt adM_field adM_draft adM_given adM_low adM_high adM_packet adM_known _ _ hP hD hS _ (lv_sub hl [0, 4] rfl)
    · have hG := zt hG hc
      refine lv_aload_n hx hb d_M_lead_377 rfl (lv_at hl 0 rfl) ?_
      refine lv_lconst (v := (0 : Int64)) hx hb d_M_lead_378 (by decide) ?_
      refine lv_iconst (v := (1 : Int32)) hx hb d_M_lead_379 (by decide) ?_
      obtain ⟨a_380, hx_380, hG⟩ := zb hG
      have hr_380 := zrunV (p := p) (e := e) (below := below) (meth := meth) (As := [.long (0 : Int64), .int (1 : Int32)]) (rest := []) (st0 := [.int (1 : Int32), .long (0 : Int64), .ref adM]) (cells := 0) (slots := 0) X zz hP hD hS hA [0, 1, 2, 3, 4, 5, 6, 7, 8, 9] (by decide) rfl (c_M_writeNumber l dC dI cB cI cL H.size adM adM_tape adM_frameAt adM_field adM_draft adM_given adM_low adM_high adM_packet adM_known N sM (0 : Int64) (1 : Int32) _ hx_380) zy_M_writeNumber zv_M_writeNumber (hts (.methodLink R_M 88 y_M_writeNumber) zin_M_88) hl rfl rfl d_M_lead_380 (lv_room (Nat.le_of_ble_eq_true rfl)) rfl rfl ⟨Nat.le_trans (Nat.le_of_ble_eq_true rfl) hRf, Nat.le_trans (Nat.le_of_ble_eq_true rfl) hRl⟩ ⟨Nat.zero_le _, Nat.zero_le _⟩ 0 8 rfl rfl
      refine zcallv (wr := ([] : va_W)) hr_380 hP hD hS hA [0, 1, 2, 3, 4, 5, 6, 7, 8, 9] [] rfl rfl (by decide) (by decide) (fun u_380 H locs hw_380 hP hD hS => ?_)
      obtain ⟨sM_380, rfl⟩ : ∃ z, z = u_380 := ⟨_, rfl⟩
      subst hw_380
      have hP : va_P (dC, dI) zcl (zwM adM adM_tape adM_frameAt adM_field adM_draft adM_given adM_low adM_high adM_packet adM_known cB cI cL sM_380) H := hP
      have hD : va_D A (zwM adM adM_tape adM_frameAt adM_field adM_draft adM_given adM_low adM_high adM_packet adM_known cB cI cL sM_380) := hD
      have hG : g_M_lead_c380 N v5 sM_380 = some a := hG
      unfold g_M_lead_c380 at hG
      exact k_M_lead_383 X hA zz N sM_380 v5 _ hG adM adM_tape adM_frameAt adM_field adM_draft adM_given adM_low adM_high adM_packet adM_known _ _ hP hD hS _ (lv_sub hl [0, 4] rfl)
set_option maxRecDepth 100000 in
set_option maxHeartbeats 4000000 in
theorem k_M_lead_327 {p : Program} {l : Launch} {e : Env} {R : Room} {s : State} {m : MethodId} {args : Array Value} {below : List Frame} {meth : Method} {c : Code} {dC : Nat → ClassId} {dI : Nat → Nat → Nat} {cB cI cL : ClassId} {A : Nat → Prop} (kr : zM → Int32 → Int32 → Int32 → Int32 → Int32 → Int32 → Option (Int32 × zM)) (hrec : ∀ (sM : zM) (v1 : Int32) (v3 : Int32) (v4 : Int32) (v5 : Int32) (v7 : Int32) (v9 : Int32) (a : Int32 × zM), kr sM v1 v3 v4 v5 v7 v9 = some a → ∀ (adM adM_tape adM_frameAt adM_field adM_draft adM_given adM_low adM_high adM_packet adM_known : Nat) (H : Heap) (locs : List Loc), va_P (dC, dI) zcl (zwM adM adM_tape adM_frameAt adM_field adM_draft adM_given adM_low adM_high adM_packet adM_known cB cI cL sM) H → va_D A (zwM adM adM_tape adM_frameAt adM_field adM_draft adM_given adM_low adM_high adM_packet adM_known cB cI cL sM) → va_S A s.heap H locs → ∀ ls : Array Slot, lv_has ls 10 [(0, .ref adM), (1, .int v1), (3, .int v3), (4, .int v4), (5, .int v5), (7, .int v7), (9, .int v9)] → W p l e R s m args below meth c H locs 0 0 (MQ below (q_M_lead dC dI cB cI cL A adM adM_tape adM_frameAt adM_field adM_draft adM_given adM_low adM_high adM_packet adM_known a) args s 0 0 A) (F0 m 282 ls [])) (X : zx p s m args meth c R R_M b_M_lead (some .int) 10 2 49) (hA : ∀ q, s.heap.size ≤ q → A q) (zz : zk dC dI cB cI cL A s)  (N : Nat) (sM : zM) (v1 : Int32) (v3 : Int32) (v4 : Int32) (v5 : Int32) (v7 : Int32) (v9 : Int32) (a : Int32 × zM) (hG : g_M_lead_327 N kr sM v1 v3 v4 v5 v7 v9 = some a) (adM adM_tape adM_frameAt adM_field adM_draft adM_given adM_low adM_high adM_packet adM_known : Nat) (H : Heap) (locs : List Loc) (hP : va_P (dC, dI) zcl (zwM adM adM_tape adM_frameAt adM_field adM_draft adM_given adM_low adM_high adM_packet adM_known cB cI cL sM) H) (hD : va_D A (zwM adM adM_tape adM_frameAt adM_field adM_draft adM_given adM_low adM_high adM_packet adM_known cB cI cL sM)) (hS : va_S A s.heap H locs) (ls : Array Slot) (hl : lv_has ls 10 [(0, .ref adM), (1, .int v1), (3, .int v3), (4, .int v4), (5, .int v5), (7, .int v7), (9, .int v9)]) : W p l e R s m args below meth c H locs 0 0 (MQ below (q_M_lead dC dI cB cI cL A adM adM_tape adM_frameAt adM_field adM_draft adM_given adM_low adM_high adM_packet adM_known a) args s 0 0 A) (F0 m 327 ls []) := by
  obtain ⟨hx, hb, hr, hml, hown, hts, hlocks, hRf, hRl⟩ := id X
  unfold g_M_lead_327 at hG
  refine lv_aload_n hx hb d_M_lead_327 rfl (lv_at hl 0 rfl) ?_
  refine lv_aload_n hx hb d_M_lead_328 rfl (lv_at hl 0 rfl) ?_
  refine va_get (D := (dC, dI)) (ci := 8) (v := .ref adM_given) (C := R_M) (T := F_M) (N := 26) hx hb hts zi_M hown zz.1 hP 0 rfl rfl 18 (by decide) (hts (.fieldLink R_M 29 "WireCodecModel" "given" "[B") zin_M_29) (fun _ h9 => h9) rfl d_M_lead_329 ?_
  refine lv_iload hx hb d_M_lead_332 (lv_at hl 6 rfl) ?_
  obtain ⟨hin, hG⟩ := zgd hG
  refine va_bald hx hb zz.1 hP 5 0 rfl rfl hin d_M_lead_334 ?_
  refine lv_i2l hx hb d_M_lead_335 rfl ?_
  refine lv_iconst (v := (1 : Int32)) hx hb d_M_lead_336 (by decide) ?_
  obtain ⟨a_337, hx_337, hG⟩ := zb hG
  have hr_337 := zrunV (p := p) (e := e) (below := below) (meth := meth) (As := [.long (((zM_given sM) v9.toNatClampNeg).toInt64), .int (1 : Int32)]) (rest := []) (st0 := [.int (1 : Int32), .long (((zM_given sM) v9.toNatClampNeg).toInt64), .ref adM]) (cells := 0) (slots := 0) X zz hP hD hS hA [0, 1, 2, 3, 4, 5, 6, 7, 8, 9] (by decide) rfl (c_M_write l dC dI cB cI cL H.size adM adM_tape adM_frameAt adM_field adM_draft adM_given adM_low adM_high adM_packet adM_known N sM (((zM_given sM) v9.toNatClampNeg).toInt64) (1 : Int32) _ hx_337) zy_M_write zv_M_write (hts (.methodLink R_M 66 y_M_write) zin_M_66) hl rfl rfl d_M_lead_337 (lv_room (Nat.le_of_ble_eq_true rfl)) rfl rfl ⟨Nat.le_trans (Nat.le_of_ble_eq_true rfl) hRf, Nat.le_trans (Nat.le_of_ble_eq_true rfl) hRl⟩ ⟨Nat.zero_le _, Nat.zero_le _⟩ 0 8 rfl rfl
  refine zcallv (wr := ([] : va_W)) hr_337 hP hD hS hA [0, 1, 2, 3, 4, 5, 6, 7, 8, 9] [] rfl rfl (by decide) (by decide) (fun u_337 H locs hw_337 hP hD hS => ?_)
  obtain ⟨sM_337, rfl⟩ : ∃ z, z = u_337 := ⟨_, rfl⟩
  subst hw_337
  have hP : va_P (dC, dI) zcl (zwM adM adM_tape adM_frameAt adM_field adM_draft adM_given adM_low adM_high adM_packet adM_known cB cI cL sM_337) H := hP
  have hD : va_D A (zwM adM adM_tape adM_frameAt adM_field adM_draft adM_given adM_low adM_high adM_packet adM_known cB cI cL sM_337) := hD
  have hG : g_M_lead_c337 kr v1 v3 v4 v5 v7 v9 sM_337 = some a := hG
  unfold g_M_lead_c337 at hG
  refine lv_iinc (v := v9 + 1) (lv' := [(9, .int (v9 + 1)), (0, .ref adM), (1, .int v1), (3, .int v3), (4, .int v4), (5, .int v5), (7, .int v7)]) hx hb d_M_lead_340 hl (k := 6) rfl rfl (by decide) rfl (fun ls hl => ?_)
  refine lv_goto (tgt := 282) hx hb d_M_lead_343 (by decide) ?_
  exact hrec sM_337 v1 v3 v4 v5 v7 (v9 + 1) _ hG adM adM_tape adM_frameAt adM_field adM_draft adM_given adM_low adM_high adM_packet adM_known _ _ hP hD hS _ (lv_sub hl [1, 2, 3, 4, 5, 6, 0] rfl)
set_option maxRecDepth 100000 in
set_option maxHeartbeats 4000000 in
theorem k_M_lead_305 {p : Program} {l : Launch} {e : Env} {R : Room} {s : State} {m : MethodId} {args : Array Value} {below : List Frame} {meth : Method} {c : Code} {dC : Nat → ClassId} {dI : Nat → Nat → Nat} {cB cI cL : ClassId} {A : Nat → Prop} (kr : zM → Int32 → Int32 → Int32 → Int32 → Int32 → Int32 → Option (Int32 × zM)) (hrec : ∀ (sM : zM) (v1 : Int32) (v3 : Int32) (v4 : Int32) (v5 : Int32) (v7 : Int32) (v9 : Int32) (a : Int32 × zM), kr sM v1 v3 v4 v5 v7 v9 = some a → ∀ (adM adM_tape adM_frameAt adM_field adM_draft adM_given adM_low adM_high adM_packet adM_known : Nat) (H : Heap) (locs : List Loc), va_P (dC, dI) zcl (zwM adM adM_tape adM_frameAt adM_field adM_draft adM_given adM_low adM_high adM_packet adM_known cB cI cL sM) H → va_D A (zwM adM adM_tape adM_frameAt adM_field adM_draft adM_given adM_low adM_high adM_packet adM_known cB cI cL sM) → va_S A s.heap H locs → ∀ ls : Array Slot, lv_has ls 10 [(0, .ref adM), (1, .int v1), (3, .int v3), (4, .int v4), (5, .int v5), (7, .int v7), (9, .int v9)] → W p l e R s m args below meth c H locs 0 0 (MQ below (q_M_lead dC dI cB cI cL A adM adM_tape adM_frameAt adM_field adM_draft adM_given adM_low adM_high adM_packet adM_known a) args s 0 0 A) (F0 m 282 ls [])) (X : zx p s m args meth c R R_M b_M_lead (some .int) 10 2 49) (hA : ∀ q, s.heap.size ≤ q → A q) (zz : zk dC dI cB cI cL A s)  (N : Nat) (sM : zM) (v1 : Int32) (v3 : Int32) (v4 : Int32) (v5 : Int32) (v7 : Int32) (v9 : Int32) (a : Int32 × zM) (hG : g_M_lead_305 N kr sM v1 v3 v4 v5 v7 v9 = some a) (adM adM_tape adM_frameAt adM_field adM_draft adM_given adM_low adM_high adM_packet adM_known : Nat) (H : Heap) (locs : List Loc) (hP : va_P (dC, dI) zcl (zwM adM adM_tape adM_frameAt adM_field adM_draft adM_given adM_low adM_high adM_packet adM_known cB cI cL sM) H) (hD : va_D A (zwM adM adM_tape adM_frameAt adM_field adM_draft adM_given adM_low adM_high adM_packet adM_known cB cI cL sM)) (hS : va_S A s.heap H locs) (ls : Array Slot) (hl : lv_has ls 10 [(0, .ref adM), (1, .int v1), (3, .int v3), (4, .int v4), (5, .int v5), (7, .int v7), (9, .int v9)]) : W p l e R s m args below meth c H locs 0 0 (MQ below (q_M_lead dC dI cB cI cL A adM adM_tape adM_frameAt adM_field adM_draft adM_given adM_low adM_high adM_packet adM_known a) args s 0 0 A) (F0 m 305 ls []) := by
  obtain ⟨hx, hb, hr, hml, hown, hts, hlocks, hRf, hRl⟩ := id X
  unfold g_M_lead_305 at hG
  refine lv_iload hx hb d_M_lead_305 (lv_at hl 6 rfl) ?_
  refine lv_iload_n hx hb d_M_lead_307 rfl (lv_at hl 2 rfl) ?_
  refine lv_iload hx hb d_M_lead_308 (lv_at hl 3 rfl) ?_
  refine lv_iadd hx hb d_M_lead_310 ?_
  refine lv_icmp_ne (tgt := 327) hx hb d_M_lead_311 (by decide) (fun hc => ?_) (fun hc => ?_)
  · have hG := zf hG hc
    exact k_M_lead_327 kr hrec X hA zz N sM v1 v3 v4 v5 v7 v9 _ hG adM adM_tape adM_frameAt adM_field adM_draft adM_given adM_low adM_high adM_packet adM_known _ _ hP hD hS _ (lv_sub hl [0, 1, 2, 3, 4, 5, 6] rfl)
  · have hG := zt hG hc
    refine lv_aload_n hx hb d_M_lead_314 rfl (lv_at hl 0 rfl) ?_
    refine lv_iload hx hb d_M_lead_315 (lv_at hl 5 rfl) ?_
    refine lv_i2l hx hb d_M_lead_317 rfl ?_
    refine lv_iload hx hb d_M_lead_318 (lv_at hl 5 rfl) ?_
    refine lv_i2l hx hb d_M_lead_320 rfl ?_
    obtain ⟨a_321, hx_321, hG⟩ := zb hG
    have hr_321 := zrunS (p := p) (e := e) (below := below) (meth := meth) (As := [.long v7.toInt64]) (rest := [.long v7.toInt64, .ref adM]) (st0 := [.long v7.toInt64, .long v7.toInt64, .ref adM]) (cells := 0) (slots := 0) X zz hP hD hS hA [] (by decide) rfl (c_M_needs l dC dI cB cI cL H.size v7.toInt64 _ hx_321) zy_M_needs zv_M_needs (hts (.methodLink R_M 84 y_M_needs) zin_M_84) hl rfl rfl d_M_lead_321 (lv_room (Nat.le_of_ble_eq_true rfl)) rfl rfl ⟨Nat.le_trans (Nat.le_of_ble_eq_true rfl) hRf, Nat.le_trans (Nat.le_of_ble_eq_true rfl) hRl⟩ ⟨Nat.zero_le _, Nat.zero_le _⟩
    refine zcalli (wr := (zwM adM adM_tape adM_frameAt adM_field adM_draft adM_given adM_low adM_high adM_packet adM_known cB cI cL sM)) hr_321 hP hD hS hA [] [0, 1, 2, 3, 4, 5, 6, 7, 8, 9] rfl rfl (by decide) (by decide) (fun r_321 u_321 H locs hw_321 hP hD hS => ?_)
    subst hw_321
    have hP : va_P (dC, dI) zcl (zwM adM adM_tape adM_frameAt adM_field adM_draft adM_given adM_low adM_high adM_packet adM_known cB cI cL sM) H := hP
    have hD : va_D A (zwM adM adM_tape adM_frameAt adM_field adM_draft adM_given adM_low adM_high adM_packet adM_known cB cI cL sM) := hD
    have hG : g_M_lead_c321 N kr sM v1 v3 v4 v5 v7 v9 r_321 = some a := hG
    unfold g_M_lead_c321 at hG
    obtain ⟨a_324, hx_324, hG⟩ := zb hG
    have hr_324 := zrunV (p := p) (e := e) (below := below) (meth := meth) (As := [.long v7.toInt64, .int r_321]) (rest := []) (st0 := [.int r_321, .long v7.toInt64, .ref adM]) (cells := 0) (slots := 0) X zz hP hD hS hA [0, 1, 2, 3, 4, 5, 6, 7, 8, 9] (by decide) rfl (c_M_writeNumber l dC dI cB cI cL H.size adM adM_tape adM_frameAt adM_field adM_draft adM_given adM_low adM_high adM_packet adM_known N sM v7.toInt64 r_321 _ hx_324) zy_M_writeNumber zv_M_writeNumber (hts (.methodLink R_M 88 y_M_writeNumber) zin_M_88) hl rfl rfl d_M_lead_324 (lv_room (Nat.le_of_ble_eq_true rfl)) rfl rfl ⟨Nat.le_trans (Nat.le_of_ble_eq_true rfl) hRf, Nat.le_trans (Nat.le_of_ble_eq_true rfl) hRl⟩ ⟨Nat.zero_le _, Nat.zero_le _⟩ 0 8 rfl rfl
    refine zcallv (wr := ([] : va_W)) hr_324 hP hD hS hA [0, 1, 2, 3, 4, 5, 6, 7, 8, 9] [] rfl rfl (by decide) (by decide) (fun u_324 H locs hw_324 hP hD hS => ?_)
    obtain ⟨sM_324, rfl⟩ : ∃ z, z = u_324 := ⟨_, rfl⟩
    subst hw_324
    have hP : va_P (dC, dI) zcl (zwM adM adM_tape adM_frameAt adM_field adM_draft adM_given adM_low adM_high adM_packet adM_known cB cI cL sM_324) H := hP
    have hD : va_D A (zwM adM adM_tape adM_frameAt adM_field adM_draft adM_given adM_low adM_high adM_packet adM_known cB cI cL sM_324) := hD
    have hG : g_M_lead_c324 N kr v1 v3 v4 v5 v7 v9 sM_324 = some a := hG
    unfold g_M_lead_c324 at hG
    exact k_M_lead_327 kr hrec X hA zz N sM_324 v1 v3 v4 v5 v7 v9 _ hG adM adM_tape adM_frameAt adM_field adM_draft adM_given adM_low adM_high adM_packet adM_known _ _ hP hD hS _ (lv_sub hl [0, 1, 2, 3, 4, 5, 6] rfl)
set_option maxRecDepth 100000 in
set_option maxHeartbeats 4000000 in
theorem k_M_lead_282_b {p : Program} {l : Launch} {e : Env} {R : Room} {s : State} {m : MethodId} {args : Array Value} {below : List Frame} {meth : Method} {c : Code} {dC : Nat → ClassId} {dI : Nat → Nat → Nat} {cB cI cL : ClassId} {A : Nat → Prop} (kr : zM → Int32 → Int32 → Int32 → Int32 → Int32 → Int32 → Option (Int32 × zM)) (hrec : ∀ (sM : zM) (v1 : Int32) (v3 : Int32) (v4 : Int32) (v5 : Int32) (v7 : Int32) (v9 : Int32) (a : Int32 × zM), kr sM v1 v3 v4 v5 v7 v9 = some a → ∀ (adM adM_tape adM_frameAt adM_field adM_draft adM_given adM_low adM_high adM_packet adM_known : Nat) (H : Heap) (locs : List Loc), va_P (dC, dI) zcl (zwM adM adM_tape adM_frameAt adM_field adM_draft adM_given adM_low adM_high adM_packet adM_known cB cI cL sM) H → va_D A (zwM adM adM_tape adM_frameAt adM_field adM_draft adM_given adM_low adM_high adM_packet adM_known cB cI cL sM) → va_S A s.heap H locs → ∀ ls : Array Slot, lv_has ls 10 [(0, .ref adM), (1, .int v1), (3, .int v3), (4, .int v4), (5, .int v5), (7, .int v7), (9, .int v9)] → W p l e R s m args below meth c H locs 0 0 (MQ below (q_M_lead dC dI cB cI cL A adM adM_tape adM_frameAt adM_field adM_draft adM_given adM_low adM_high adM_packet adM_known a) args s 0 0 A) (F0 m 282 ls [])) (X : zx p s m args meth c R R_M b_M_lead (some .int) 10 2 49) (hA : ∀ q, s.heap.size ≤ q → A q) (zz : zk dC dI cB cI cL A s)  (N : Nat) (sM : zM) (v1 : Int32) (v3 : Int32) (v4 : Int32) (v5 : Int32) (v7 : Int32) (v9 : Int32) (a : Int32 × zM) (hG : g_M_lead_282_b N kr sM v1 v3 v4 v5 v7 v9 = some a) (adM adM_tape adM_frameAt adM_field adM_draft adM_given adM_low adM_high adM_packet adM_known : Nat) (H : Heap) (locs : List Loc) (hP : va_P (dC, dI) zcl (zwM adM adM_tape adM_frameAt adM_field adM_draft adM_given adM_low adM_high adM_packet adM_known cB cI cL sM) H) (hD : va_D A (zwM adM adM_tape adM_frameAt adM_field adM_draft adM_given adM_low adM_high adM_packet adM_known cB cI cL sM)) (hS : va_S A s.heap H locs) (ls : Array Slot) (hl : lv_has ls 10 [(0, .ref adM), (1, .int v1), (3, .int v3), (4, .int v4), (5, .int v5), (7, .int v7), (9, .int v9)]) : W p l e R s m args below meth c H locs 0 0 (MQ below (q_M_lead dC dI cB cI cL A adM adM_tape adM_frameAt adM_field adM_draft adM_given adM_low adM_high adM_packet adM_known a) args s 0 0 A) (F0 m 282 ls []) := by
  obtain ⟨hx, hb, hr, hml, hown, hts, hlocks, hRf, hRl⟩ := id X
  unfold g_M_lead_282_b at hG
  refine lv_iload hx hb d_M_lead_282 (lv_at hl 6 rfl) ?_
  refine lv_aload_n hx hb d_M_lead_284 rfl (lv_at hl 0 rfl) ?_
  refine va_get (D := (dC, dI)) (ci := 8) (v := .int (zM_gives sM)) (C := R_M) (T := F_M) (N := 26) hx hb hts zi_M hown zz.1 hP 0 rfl rfl 19 (by decide) (hts (.fieldLink R_M 211 "WireCodecModel" "gives" "I") zin_M_211) (fun _ h9 => h9) rfl d_M_lead_285 ?_
  refine lv_icmp_ge (tgt := 346) hx hb d_M_lead_288 (by decide) (fun hc => ?_) (fun hc => ?_)
  · have hG := zt hG hc
    refine lv_aload_n hx hb d_M_lead_346 rfl (lv_at hl 0 rfl) ?_
    refine va_get (D := (dC, dI)) (ci := 8) (v := .int (zM_gives sM)) (C := R_M) (T := F_M) (N := 26) hx hb hts zi_M hown zz.1 hP 0 rfl rfl 19 (by decide) (hts (.fieldLink R_M 211 "WireCodecModel" "gives" "I") zin_M_211) (fun _ h9 => h9) rfl d_M_lead_347 ?_
    refine lv_iload_n hx hb d_M_lead_350 rfl (lv_at hl 2 rfl) ?_
    refine lv_icmp_ne (tgt := 362) hx hb d_M_lead_351 (by decide) (fun hc => ?_) (fun hc => ?_)
    · have hG := zf hG hc
      exact k_M_lead_362 X hA zz N sM v1 v3 v4 v5 _ hG adM adM_tape adM_frameAt adM_field adM_draft adM_given adM_low adM_high adM_packet adM_known _ _ hP hD hS _ (lv_sub hl [0, 1, 2, 3, 4] rfl)
    · have hG := zt hG hc
      refine lv_aload_n hx hb d_M_lead_354 rfl (lv_at hl 0 rfl) ?_
      refine lv_iload hx hb d_M_lead_355 (lv_at hl 3 rfl) ?_
      refine lv_i2l hx hb d_M_lead_357 rfl ?_
      refine lv_iconst (v := (1 : Int32)) hx hb d_M_lead_358 (by decide) ?_
      obtain ⟨a_359, hx_359, hG⟩ := zb hG
      have hr_359 := zrunV (p := p) (e := e) (below := below) (meth := meth) (As := [.long v4.toInt64, .int (1 : Int32)]) (rest := []) (st0 := [.int (1 : Int32), .long v4.toInt64, .ref adM]) (cells := 0) (slots := 0) X zz hP hD hS hA [0, 1, 2, 3, 4, 5, 6, 7, 8, 9] (by decide) rfl (c_M_write l dC dI cB cI cL H.size adM adM_tape adM_frameAt adM_field adM_draft adM_given adM_low adM_high adM_packet adM_known N sM v4.toInt64 (1 : Int32) _ hx_359) zy_M_write zv_M_write (hts (.methodLink R_M 66 y_M_write) zin_M_66) hl rfl rfl d_M_lead_359 (lv_room (Nat.le_of_ble_eq_true rfl)) rfl rfl ⟨Nat.le_trans (Nat.le_of_ble_eq_true rfl) hRf, Nat.le_trans (Nat.le_of_ble_eq_true rfl) hRl⟩ ⟨Nat.zero_le _, Nat.zero_le _⟩ 0 8 rfl rfl
      refine zcallv (wr := ([] : va_W)) hr_359 hP hD hS hA [0, 1, 2, 3, 4, 5, 6, 7, 8, 9] [] rfl rfl (by decide) (by decide) (fun u_359 H locs hw_359 hP hD hS => ?_)
      obtain ⟨sM_359, rfl⟩ : ∃ z, z = u_359 := ⟨_, rfl⟩
      subst hw_359
      have hP : va_P (dC, dI) zcl (zwM adM adM_tape adM_frameAt adM_field adM_draft adM_given adM_low adM_high adM_packet adM_known cB cI cL sM_359) H := hP
      have hD : va_D A (zwM adM adM_tape adM_frameAt adM_field adM_draft adM_given adM_low adM_high adM_packet adM_known cB cI cL sM_359) := hD
      have hG : g_M_lead_c359 N v1 v3 v4 v5 sM_359 = some a := hG
      unfold g_M_lead_c359 at hG
      exact k_M_lead_362 X hA zz N sM_359 v1 v3 v4 v5 _ hG adM adM_tape adM_frameAt adM_field adM_draft adM_given adM_low adM_high adM_packet adM_known _ _ hP hD hS _ (lv_sub hl [0, 1, 2, 3, 4] rfl)
  · have hG := zf hG hc
    refine lv_iload hx hb d_M_lead_291 (lv_at hl 6 rfl) ?_
    refine lv_iload_n hx hb d_M_lead_293 rfl (lv_at hl 2 rfl) ?_
    refine lv_icmp_ne (tgt := 305) hx hb d_M_lead_294 (by decide) (fun hc => ?_) (fun hc => ?_)
    · have hG := zf hG hc
      exact k_M_lead_305 kr hrec X hA zz N sM v1 v3 v4 v5 v7 v9 _ hG adM adM_tape adM_frameAt adM_field adM_draft adM_given adM_low adM_high adM_packet adM_known _ _ hP hD hS _ (lv_sub hl [0, 1, 2, 3, 4, 5, 6] rfl)
    · have hG := zt hG hc
      refine lv_aload_n hx hb d_M_lead_297 rfl (lv_at hl 0 rfl) ?_
      refine lv_iload hx hb d_M_lead_298 (lv_at hl 3 rfl) ?_
      refine lv_i2l hx hb d_M_lead_300 rfl ?_
      refine lv_iconst (v := (1 : Int32)) hx hb d_M_lead_301 (by decide) ?_
      obtain ⟨a_302, hx_302, hG⟩ := zb hG
      have hr_302 := zrunV (p := p) (e := e) (below := below) (meth := meth) (As := [.long v4.toInt64, .int (1 : Int32)]) (rest := []) (st0 := [.int (1 : Int32), .long v4.toInt64, .ref adM]) (cells := 0) (slots := 0) X zz hP hD hS hA [0, 1, 2, 3, 4, 5, 6, 7, 8, 9] (by decide) rfl (c_M_write l dC dI cB cI cL H.size adM adM_tape adM_frameAt adM_field adM_draft adM_given adM_low adM_high adM_packet adM_known N sM v4.toInt64 (1 : Int32) _ hx_302) zy_M_write zv_M_write (hts (.methodLink R_M 66 y_M_write) zin_M_66) hl rfl rfl d_M_lead_302 (lv_room (Nat.le_of_ble_eq_true rfl)) rfl rfl ⟨Nat.le_trans (Nat.le_of_ble_eq_true rfl) hRf, Nat.le_trans (Nat.le_of_ble_eq_true rfl) hRl⟩ ⟨Nat.zero_le _, Nat.zero_le _⟩ 0 8 rfl rfl
      refine zcallv (wr := ([] : va_W)) hr_302 hP hD hS hA [0, 1, 2, 3, 4, 5, 6, 7, 8, 9] [] rfl rfl (by decide) (by decide) (fun u_302 H locs hw_302 hP hD hS => ?_)
      obtain ⟨sM_302, rfl⟩ : ∃ z, z = u_302 := ⟨_, rfl⟩
      subst hw_302
      have hP : va_P (dC, dI) zcl (zwM adM adM_tape adM_frameAt adM_field adM_draft adM_given adM_low adM_high adM_packet adM_known cB cI cL sM_302) H := hP
      have hD : va_D A (zwM adM adM_tape adM_frameAt adM_field adM_draft adM_given adM_low adM_high adM_packet adM_known cB cI cL sM_302) := hD
      have hG : g_M_lead_c302 N kr v1 v3 v4 v5 v7 v9 sM_302 = some a := hG
      unfold g_M_lead_c302 at hG
      exact k_M_lead_305 kr hrec X hA zz N sM_302 v1 v3 v4 v5 v7 v9 _ hG adM adM_tape adM_frameAt adM_field adM_draft adM_given adM_low adM_high adM_packet adM_known _ _ hP hD hS _ (lv_sub hl [0, 1, 2, 3, 4, 5, 6] rfl)
theorem k_M_lead_282 {p : Program} {l : Launch} {e : Env} {R : Room} {s : State} {m : MethodId} {args : Array Value} {below : List Frame} {meth : Method} {c : Code} {dC : Nat → ClassId} {dI : Nat → Nat → Nat} {cB cI cL : ClassId} {A : Nat → Prop} (X : zx p s m args meth c R R_M b_M_lead (some .int) 10 2 49) (hA : ∀ q, s.heap.size ≤ q → A q) (zz : zk dC dI cB cI cL A s)  (N : Nat) : ∀ (k : Nat) (sM : zM) (v1 : Int32) (v3 : Int32) (v4 : Int32) (v5 : Int32) (v7 : Int32) (v9 : Int32) (a : Int32 × zM) (hG : g_M_lead_282 N k sM v1 v3 v4 v5 v7 v9 = some a) (adM adM_tape adM_frameAt adM_field adM_draft adM_given adM_low adM_high adM_packet adM_known : Nat) (H : Heap) (locs : List Loc) (hP : va_P (dC, dI) zcl (zwM adM adM_tape adM_frameAt adM_field adM_draft adM_given adM_low adM_high adM_packet adM_known cB cI cL sM) H) (hD : va_D A (zwM adM adM_tape adM_frameAt adM_field adM_draft adM_given adM_low adM_high adM_packet adM_known cB cI cL sM)) (hS : va_S A s.heap H locs) (ls : Array Slot) (hl : lv_has ls 10 [(0, .ref adM), (1, .int v1), (3, .int v3), (4, .int v4), (5, .int v5), (7, .int v7), (9, .int v9)]), W p l e R s m args below meth c H locs 0 0 (MQ below (q_M_lead dC dI cB cI cL A adM adM_tape adM_frameAt adM_field adM_draft adM_given adM_low adM_high adM_packet adM_known a) args s 0 0 A) (F0 m 282 ls []) := by
  intro k
  induction k with
  | zero => intro sM v1 v3 v4 v5 v7 v9 a hG; exact absurd hG (by unfold g_M_lead_282; simp)
  | succ k ih => intro sM v1 v3 v4 v5 v7 v9 a hG adM adM_tape adM_frameAt adM_field adM_draft adM_given adM_low adM_high adM_packet adM_known H locs hP hD hS ls hl; exact k_M_lead_282_b _ ih X hA zz N sM v1 v3 v4 v5 v7 v9 a hG adM adM_tape adM_frameAt adM_field adM_draft adM_given adM_low adM_high adM_packet adM_known H locs hP hD hS ls hl
set_option maxRecDepth 100000 in
set_option maxHeartbeats 4000000 in
theorem k_M_lead_216 {p : Program} {l : Launch} {e : Env} {R : Room} {s : State} {m : MethodId} {args : Array Value} {below : List Frame} {meth : Method} {c : Code} {dC : Nat → ClassId} {dI : Nat → Nat → Nat} {cB cI cL : ClassId} {A : Nat → Prop} (X : zx p s m args meth c R R_M b_M_lead (some .int) 10 2 49) (hA : ∀ q, s.heap.size ≤ q → A q) (zz : zk dC dI cB cI cL A s)  (N : Nat) (sM : zM) (v1 : Int32) (v2 : Int32) (v3 : Int32) (v4 : Int32) (v5 : Int32) (v7 : Int32) (s0 : Int32) (a : Int32 × zM) (hG : g_M_lead_216 N sM v1 v2 v3 v4 v5 v7 s0 = some a) (adM adM_tape adM_frameAt adM_field adM_draft adM_given adM_low adM_high adM_packet adM_known : Nat) (H : Heap) (locs : List Loc) (hP : va_P (dC, dI) zcl (zwM adM adM_tape adM_frameAt adM_field adM_draft adM_given adM_low adM_high adM_packet adM_known cB cI cL sM) H) (hD : va_D A (zwM adM adM_tape adM_frameAt adM_field adM_draft adM_given adM_low adM_high adM_packet adM_known cB cI cL sM)) (hS : va_S A s.heap H locs) (ls : Array Slot) (hl : lv_has ls 10 [(0, .ref adM), (1, .int v1), (2, .int v2), (3, .int v3), (4, .int v4), (5, .int v5), (7, .int v7)]) : W p l e R s m args below meth c H locs 0 0 (MQ below (q_M_lead dC dI cB cI cL A adM adM_tape adM_frameAt adM_field adM_draft adM_given adM_low adM_high adM_packet adM_known a) args s 0 0 A) (F0 m 216 ls [.int s0, .ref adM]) := by
  obtain ⟨hx, hb, hr, hml, hown, hts, hlocks, hRf, hRl⟩ := id X
  unfold g_M_lead_216 at hG
  refine lv_iconst (v := (2 : Int32)) hx hb d_M_lead_216 (by decide) ?_
  obtain ⟨a_217, hx_217, hG⟩ := zb hG
  have hr_217 := zrunV (p := p) (e := e) (below := below) (meth := meth) (As := [.int s0, .int (2 : Int32)]) (rest := []) (st0 := [.int (2 : Int32), .int s0, .ref adM]) (cells := 0) (slots := 0) X zz hP hD hS hA [0, 1, 2, 3, 4, 5, 6, 7, 8, 9] (by decide) rfl (c_M_fails l dC dI cB cI cL H.size adM adM_tape adM_frameAt adM_field adM_draft adM_given adM_low adM_high adM_packet adM_known sM s0 (2 : Int32) _ hx_217) zy_M_fails zv_M_fails (hts (.methodLink R_M 62 y_M_fails) zin_M_62) hl rfl rfl d_M_lead_217 (lv_room (Nat.le_of_ble_eq_true rfl)) rfl rfl ⟨Nat.le_trans (Nat.le_of_ble_eq_true rfl) hRf, Nat.le_trans (Nat.le_of_ble_eq_true rfl) hRl⟩ ⟨Nat.zero_le _, Nat.zero_le _⟩ 0 8 rfl rfl
  refine zcalli (wr := ([] : va_W)) hr_217 hP hD hS hA [0, 1, 2, 3, 4, 5, 6, 7, 8, 9] [] rfl rfl (by decide) (by decide) (fun r_217 u_217 H locs hw_217 hP hD hS => ?_)
  obtain ⟨sM_217, rfl⟩ : ∃ z, z = u_217 := ⟨_, rfl⟩
  subst hw_217
  have hP : va_P (dC, dI) zcl (zwM adM adM_tape adM_frameAt adM_field adM_draft adM_given adM_low adM_high adM_packet adM_known cB cI cL sM_217) H := hP
  have hD : va_D A (zwM adM adM_tape adM_frameAt adM_field adM_draft adM_given adM_low adM_high adM_packet adM_known cB cI cL sM_217) := hD
  have hG : g_M_lead_c217 N v1 v2 v3 v4 v5 v7 sM_217 r_217 = some a := hG
  unfold g_M_lead_c217 at hG
  refine lv_if_eq (tgt := 225) hx hb d_M_lead_220 (by decide) (fun hc => ?_) (fun hc => ?_)
  · have hG := zt hG hc
    refine lv_iload_n hx hb d_M_lead_225 rfl (lv_at hl 1 rfl) ?_
    refine lv_iconst (v := (4 : Int32)) hx hb d_M_lead_226 (by decide) ?_
    refine lv_icmp_ne (tgt := 250) hx hb d_M_lead_227 (by decide) (fun hc => ?_) (fun hc => ?_)
    · have hG := zf hG hc
      refine lv_aload_n hx hb d_M_lead_250 rfl (lv_at hl 0 rfl) ?_
      refine lv_sipush (v := (192 : Int32)) hx hb d_M_lead_251 (by decide) ?_
      refine lv_bipush (v := (16 : Int32)) hx hb d_M_lead_254 (by decide) ?_
      refine lv_iload_n hx hb d_M_lead_256 rfl (lv_at hl 1 rfl) ?_
      refine lv_imul hx hb d_M_lead_257 ?_
      refine lv_iadd hx hb d_M_lead_258 ?_
      refine lv_iload_n hx hb d_M_lead_259 rfl (lv_at hl 2 rfl) ?_
      refine lv_iadd hx hb d_M_lead_260 ?_
      refine lv_i2l hx hb d_M_lead_261 rfl ?_
      refine lv_iconst (v := (1 : Int32)) hx hb d_M_lead_262 (by decide) ?_
      obtain ⟨a_263, hx_263, hG⟩ := zb hG
      have hr_263 := zrunV (p := p) (e := e) (below := below) (meth := meth) (As := [.long ((((192 : Int32) + ((16 : Int32) * v1)) + v2).toInt64), .int (1 : Int32)]) (rest := []) (st0 := [.int (1 : Int32), .long ((((192 : Int32) + ((16 : Int32) * v1)) + v2).toInt64), .ref adM]) (cells := 0) (slots := 0) X zz hP hD hS hA [0, 1, 2, 3, 4, 5, 6, 7, 8, 9] (by decide) rfl (c_M_write l dC dI cB cI cL H.size adM adM_tape adM_frameAt adM_field adM_draft adM_given adM_low adM_high adM_packet adM_known N sM_217 ((((192 : Int32) + ((16 : Int32) * v1)) + v2).toInt64) (1 : Int32) _ hx_263) zy_M_write zv_M_write (hts (.methodLink R_M 66 y_M_write) zin_M_66) hl rfl rfl d_M_lead_263 (lv_room (Nat.le_of_ble_eq_true rfl)) rfl rfl ⟨Nat.le_trans (Nat.le_of_ble_eq_true rfl) hRf, Nat.le_trans (Nat.le_of_ble_eq_true rfl) hRl⟩ ⟨Nat.zero_le _, Nat.zero_le _⟩ 0 8 rfl rfl
      refine zcallv (wr := ([] : va_W)) hr_263 hP hD hS hA [0, 1, 2, 3, 4, 5, 6, 7, 8, 9] [] rfl rfl (by decide) (by decide) (fun u_263 H locs hw_263 hP hD hS => ?_)
      obtain ⟨sM_263, rfl⟩ : ∃ z, z = u_263 := ⟨_, rfl⟩
      subst hw_263
      have hP : va_P (dC, dI) zcl (zwM adM adM_tape adM_frameAt adM_field adM_draft adM_given adM_low adM_high adM_packet adM_known cB cI cL sM_263) H := hP
      have hD : va_D A (zwM adM adM_tape adM_frameAt adM_field adM_draft adM_given adM_low adM_high adM_packet adM_known cB cI cL sM_263) := hD
      have hG : g_M_lead_c263 N v1 v3 v4 v5 v7 sM_263 = some a := hG
      unfold g_M_lead_c263 at hG
      refine lv_aload_n hx hb d_M_lead_266 rfl (lv_at hl 0 rfl) ?_
      refine lv_lconst (v := (1 : Int64)) hx hb d_M_lead_267 (by decide) ?_
      refine lv_iconst (v := (4 : Int32)) hx hb d_M_lead_268 (by decide) ?_
      obtain ⟨a_269, hx_269, hG⟩ := zb hG
      have hr_269 := zrunV (p := p) (e := e) (below := below) (meth := meth) (As := [.long (1 : Int64), .int (4 : Int32)]) (rest := []) (st0 := [.int (4 : Int32), .long (1 : Int64), .ref adM]) (cells := 0) (slots := 0) X zz hP hD hS hA [0, 1, 2, 3, 4, 5, 6, 7, 8, 9] (by decide) rfl (c_M_write l dC dI cB cI cL H.size adM adM_tape adM_frameAt adM_field adM_draft adM_given adM_low adM_high adM_packet adM_known N sM_263 (1 : Int64) (4 : Int32) _ hx_269) zy_M_write zv_M_write (hts (.methodLink R_M 66 y_M_write) zin_M_66) hl rfl rfl d_M_lead_269 (lv_room (Nat.le_of_ble_eq_true rfl)) rfl rfl ⟨Nat.le_trans (Nat.le_of_ble_eq_true rfl) hRf, Nat.le_trans (Nat.le_of_ble_eq_true rfl) hRl⟩ ⟨Nat.zero_le _, Nat.zero_le _⟩ 0 8 rfl rfl
      refine zcallv (wr := ([] : va_W)) hr_269 hP hD hS hA [0, 1, 2, 3, 4, 5, 6, 7, 8, 9] [] rfl rfl (by decide) (by decide) (fun u_269 H locs hw_269 hP hD hS => ?_)
      obtain ⟨sM_269, rfl⟩ : ∃ z, z = u_269 := ⟨_, rfl⟩
      subst hw_269
      have hP : va_P (dC, dI) zcl (zwM adM adM_tape adM_frameAt adM_field adM_draft adM_given adM_low adM_high adM_packet adM_known cB cI cL sM_269) H := hP
      have hD : va_D A (zwM adM adM_tape adM_frameAt adM_field adM_draft adM_given adM_low adM_high adM_packet adM_known cB cI cL sM_269) := hD
      have hG : g_M_lead_c269 N v1 v3 v4 v5 v7 sM_269 = some a := hG
      unfold g_M_lead_c269 at hG
      refine lv_aload_n hx hb d_M_lead_272 rfl (lv_at hl 0 rfl) ?_
      refine lv_iload_n hx hb d_M_lead_273 rfl (lv_at hl 3 rfl) ?_
      refine lv_i2l hx hb d_M_lead_274 rfl ?_
      refine lv_iconst (v := (1 : Int32)) hx hb d_M_lead_275 (by decide) ?_
      obtain ⟨a_276, hx_276, hG⟩ := zb hG
      have hr_276 := zrunV (p := p) (e := e) (below := below) (meth := meth) (As := [.long v3.toInt64, .int (1 : Int32)]) (rest := []) (st0 := [.int (1 : Int32), .long v3.toInt64, .ref adM]) (cells := 0) (slots := 0) X zz hP hD hS hA [0, 1, 2, 3, 4, 5, 6, 7, 8, 9] (by decide) rfl (c_M_write l dC dI cB cI cL H.size adM adM_tape adM_frameAt adM_field adM_draft adM_given adM_low adM_high adM_packet adM_known N sM_269 v3.toInt64 (1 : Int32) _ hx_276) zy_M_write zv_M_write (hts (.methodLink R_M 66 y_M_write) zin_M_66) hl rfl rfl d_M_lead_276 (lv_room (Nat.le_of_ble_eq_true rfl)) rfl rfl ⟨Nat.le_trans (Nat.le_of_ble_eq_true rfl) hRf, Nat.le_trans (Nat.le_of_ble_eq_true rfl) hRl⟩ ⟨Nat.zero_le _, Nat.zero_le _⟩ 0 8 rfl rfl
      refine zcallv (wr := ([] : va_W)) hr_276 hP hD hS hA [0, 1, 2, 3, 4, 5, 6, 7, 8, 9] [] rfl rfl (by decide) (by decide) (fun u_276 H locs hw_276 hP hD hS => ?_)
      obtain ⟨sM_276, rfl⟩ : ∃ z, z = u_276 := ⟨_, rfl⟩
      subst hw_276
      have hP : va_P (dC, dI) zcl (zwM adM adM_tape adM_frameAt adM_field adM_draft adM_given adM_low adM_high adM_packet adM_known cB cI cL sM_276) H := hP
      have hD : va_D A (zwM adM adM_tape adM_frameAt adM_field adM_draft adM_given adM_low adM_high adM_packet adM_known cB cI cL sM_276) := hD
      have hG : g_M_lead_c276 N v1 v3 v4 v5 v7 sM_276 = some a := hG
      unfold g_M_lead_c276 at hG
      refine lv_iconst (v := (0 : Int32)) hx hb d_M_lead_279 (by decide) ?_
      refine lv_istore (lv' := [(9, .int (0 : Int32)), (0, .ref adM), (1, .int v1), (2, .int v2), (3, .int v3), (4, .int v4), (5, .int v5), (7, .int v7)]) hx hb d_M_lead_280 hl (by decide) rfl (fun ls hl => ?_)
      exact k_M_lead_282 X hA zz N N sM_276 v1 v3 v4 v5 v7 (0 : Int32) _ hG adM adM_tape adM_frameAt adM_field adM_draft adM_given adM_low adM_high adM_packet adM_known _ _ hP hD hS _ (lv_sub hl [1, 2, 4, 5, 6, 7, 0] rfl)
    · have hG := zt hG hc
      refine lv_aload_n hx hb d_M_lead_230 rfl (lv_at hl 0 rfl) ?_
      refine lv_bipush (v := (64 : Int32)) hx hb d_M_lead_231 (by decide) ?_
      refine lv_iload_n hx hb d_M_lead_233 rfl (lv_at hl 2 rfl) ?_
      refine lv_iadd hx hb d_M_lead_234 ?_
      refine lv_i2l hx hb d_M_lead_235 rfl ?_
      refine lv_iconst (v := (1 : Int32)) hx hb d_M_lead_236 (by decide) ?_
      obtain ⟨a_237, hx_237, hG⟩ := zb hG
      have hr_237 := zrunV (p := p) (e := e) (below := below) (meth := meth) (As := [.long (((64 : Int32) + v2).toInt64), .int (1 : Int32)]) (rest := []) (st0 := [.int (1 : Int32), .long (((64 : Int32) + v2).toInt64), .ref adM]) (cells := 0) (slots := 0) X zz hP hD hS hA [0, 1, 2, 3, 4, 5, 6, 7, 8, 9] (by decide) rfl (c_M_write l dC dI cB cI cL H.size adM adM_tape adM_frameAt adM_field adM_draft adM_given adM_low adM_high adM_packet adM_known N sM_217 (((64 : Int32) + v2).toInt64) (1 : Int32) _ hx_237) zy_M_write zv_M_write (hts (.methodLink R_M 66 y_M_write) zin_M_66) hl rfl rfl d_M_lead_237 (lv_room (Nat.le_of_ble_eq_true rfl)) rfl rfl ⟨Nat.le_trans (Nat.le_of_ble_eq_true rfl) hRf, Nat.le_trans (Nat.le_of_ble_eq_true rfl) hRl⟩ ⟨Nat.zero_le _, Nat.zero_le _⟩ 0 8 rfl rfl
      refine zcallv (wr := ([] : va_W)) hr_237 hP hD hS hA [0, 1, 2, 3, 4, 5, 6, 7, 8, 9] [] rfl rfl (by decide) (by decide) (fun u_237 H locs hw_237 hP hD hS => ?_)
      obtain ⟨sM_237, rfl⟩ : ∃ z, z = u_237 := ⟨_, rfl⟩
      subst hw_237
      have hP : va_P (dC, dI) zcl (zwM adM adM_tape adM_frameAt adM_field adM_draft adM_given adM_low adM_high adM_packet adM_known cB cI cL sM_237) H := hP
      have hD : va_D A (zwM adM adM_tape adM_frameAt adM_field adM_draft adM_given adM_low adM_high adM_packet adM_known cB cI cL sM_237) := hD
      have hG : g_M_lead_c237 N v3 sM_237 = some a := hG
      unfold g_M_lead_c237 at hG
      refine lv_aload_n hx hb d_M_lead_240 rfl (lv_at hl 0 rfl) ?_
      refine lv_iload_n hx hb d_M_lead_241 rfl (lv_at hl 3 rfl) ?_
      obtain ⟨a_242, hx_242, hG⟩ := zb hG
      have hr_242 := zrunV (p := p) (e := e) (below := below) (meth := meth) (As := [.int v3]) (rest := []) (st0 := [.int v3, .ref adM]) (cells := 0) (slots := 0) X zz hP hD hS hA [0, 1, 2, 3, 4, 5, 6, 7, 8, 9] (by decide) rfl (c_M_writeGiven l dC dI cB cI cL H.size adM adM_tape adM_frameAt adM_field adM_draft adM_given adM_low adM_high adM_packet adM_known N sM_237 v3 _ hx_242) zy_M_writeGiven zv_M_writeGiven (hts (.methodLink R_M 225 y_M_writeGiven) zin_M_225) hl rfl rfl d_M_lead_242 (lv_room (Nat.le_of_ble_eq_true rfl)) rfl rfl ⟨Nat.le_trans (Nat.le_of_ble_eq_true rfl) hRf, Nat.le_trans (Nat.le_of_ble_eq_true rfl) hRl⟩ ⟨Nat.zero_le _, Nat.zero_le _⟩ 0 8 rfl rfl
      refine zcallv (wr := ([] : va_W)) hr_242 hP hD hS hA [0, 1, 2, 3, 4, 5, 6, 7, 8, 9] [] rfl rfl (by decide) (by decide) (fun u_242 H locs hw_242 hP hD hS => ?_)
      obtain ⟨sM_242, rfl⟩ : ∃ z, z = u_242 := ⟨_, rfl⟩
      subst hw_242
      have hP : va_P (dC, dI) zcl (zwM adM adM_tape adM_frameAt adM_field adM_draft adM_given adM_low adM_high adM_packet adM_known cB cI cL sM_242) H := hP
      have hD : va_D A (zwM adM adM_tape adM_frameAt adM_field adM_draft adM_given adM_low adM_high adM_packet adM_known cB cI cL sM_242) := hD
      have hG : g_M_lead_c242 sM_242 = some a := hG
      unfold g_M_lead_c242 at hG
      refine lv_aload_n hx hb d_M_lead_245 rfl (lv_at hl 0 rfl) ?_
      refine va_get (D := (dC, dI)) (ci := 8) (v := .int (zM_size sM_242)) (C := R_M) (T := F_M) (N := 26) hx hb hts zi_M hown zz.1 hP 0 rfl rfl 2 (by decide) (hts (.fieldLink R_M 57 "WireCodecModel" "size" "I") zin_M_57) (fun _ h9 => h9) rfl d_M_lead_246 ?_
      exact W.iret (v := zM_size sM_242) hx hb hr (fun t9 ht9 hW9 => ⟨⟨zM_size sM_242, (sM_242), rfl, Option.some.inj hG, by rw [ht9]; exact hP, hD⟩, hS.F ht9⟩) hS.2.2 d_M_lead_249
  · have hG := zf hG hc
    refine lv_iconst (v := (0 : Int32)) hx hb d_M_lead_223 (by decide) ?_
    exact W.iret (v := (0 : Int32)) hx hb hr (fun t9 ht9 hW9 => ⟨⟨(0 : Int32), (sM_217), rfl, Option.some.inj hG, by rw [ht9]; exact hP, hD⟩, hS.F ht9⟩) hS.2.2 d_M_lead_224
set_option maxRecDepth 100000 in
set_option maxHeartbeats 4000000 in
theorem k_M_lead_196 {p : Program} {l : Launch} {e : Env} {R : Room} {s : State} {m : MethodId} {args : Array Value} {below : List Frame} {meth : Method} {c : Code} {dC : Nat → ClassId} {dI : Nat → Nat → Nat} {cB cI cL : ClassId} {A : Nat → Prop} (X : zx p s m args meth c R R_M b_M_lead (some .int) 10 2 49) (hA : ∀ q, s.heap.size ≤ q → A q) (zz : zk dC dI cB cI cL A s)  (N : Nat) (sM : zM) (v1 : Int32) (v2 : Int32) (v3 : Int32) (v4 : Int32) (v5 : Int32) (v7 : Int32) (s0 : Int32) (a : Int32 × zM) (hG : g_M_lead_196 N sM v1 v2 v3 v4 v5 v7 s0 = some a) (adM adM_tape adM_frameAt adM_field adM_draft adM_given adM_low adM_high adM_packet adM_known : Nat) (H : Heap) (locs : List Loc) (hP : va_P (dC, dI) zcl (zwM adM adM_tape adM_frameAt adM_field adM_draft adM_given adM_low adM_high adM_packet adM_known cB cI cL sM) H) (hD : va_D A (zwM adM adM_tape adM_frameAt adM_field adM_draft adM_given adM_low adM_high adM_packet adM_known cB cI cL sM)) (hS : va_S A s.heap H locs) (ls : Array Slot) (hl : lv_has ls 10 [(0, .ref adM), (1, .int v1), (2, .int v2), (3, .int v3), (4, .int v4), (5, .int v5), (7, .int v7)]) : W p l e R s m args below meth c H locs 0 0 (MQ below (q_M_lead dC dI cB cI cL A adM adM_tape adM_frameAt adM_field adM_draft adM_given adM_low adM_high adM_packet adM_known a) args s 0 0 A) (F0 m 196 ls [.int s0]) := by
  obtain ⟨hx, hb, hr, hml, hown, hts, hlocks, hRf, hRl⟩ := id X
  unfold g_M_lead_196 at hG
  refine lv_istore (lv' := [(8, .int s0), (0, .ref adM), (1, .int v1), (2, .int v2), (3, .int v3), (4, .int v4), (5, .int v5), (7, .int v7)]) hx hb d_M_lead_196 hl (by decide) rfl (fun ls hl => ?_)
  refine lv_aload_n hx hb d_M_lead_198 rfl (lv_at hl 1 rfl) ?_
  refine lv_aload_n hx hb d_M_lead_199 rfl (lv_at hl 1 rfl) ?_
  refine va_get (D := (dC, dI)) (ci := 8) (v := .int (zM_size sM)) (C := R_M) (T := F_M) (N := 26) hx hb hts zi_M hown zz.1 hP 0 rfl rfl 2 (by decide) (hts (.fieldLink R_M 57 "WireCodecModel" "size" "I") zin_M_57) (fun _ h9 => h9) rfl d_M_lead_200 ?_
  refine lv_iload hx hb d_M_lead_203 (lv_at hl 0 rfl) ?_
  refine lv_iadd hx hb d_M_lead_205 ?_
  refine lv_ldc (v := (65536 : Int32)) hx hb hown (hts (.constant R_M 7 (65536 : Int32)) zin_M_7) d_M_lead_206 ?_
  refine lv_icmp_le (tgt := 215) hx hb d_M_lead_208 (by decide) (fun hc => ?_) (fun hc => ?_)
  · have hG := zt hG hc
    refine lv_iconst (v := (0 : Int32)) hx hb d_M_lead_215 (by decide) ?_
    exact k_M_lead_216 X hA zz N sM v1 v2 v3 v4 v5 v7 (0 : Int32) _ hG adM adM_tape adM_frameAt adM_field adM_draft adM_given adM_low adM_high adM_packet adM_known _ _ hP hD hS _ (lv_sub hl [1, 2, 3, 4, 5, 6, 7] rfl)
  · have hG := zf hG hc
    refine lv_iconst (v := (1 : Int32)) hx hb d_M_lead_211 (by decide) ?_
    refine lv_goto (tgt := 216) hx hb d_M_lead_212 (by decide) ?_
    exact k_M_lead_216 X hA zz N sM v1 v2 v3 v4 v5 v7 (1 : Int32) _ hG adM adM_tape adM_frameAt adM_field adM_draft adM_given adM_low adM_high adM_packet adM_known _ _ hP hD hS _ (lv_sub hl [1, 2, 3, 4, 5, 6, 7] rfl)
set_option maxRecDepth 100000 in
set_option maxHeartbeats 4000000 in
theorem k_M_lead_195 {p : Program} {l : Launch} {e : Env} {R : Room} {s : State} {m : MethodId} {args : Array Value} {below : List Frame} {meth : Method} {c : Code} {dC : Nat → ClassId} {dI : Nat → Nat → Nat} {cB cI cL : ClassId} {A : Nat → Prop} (X : zx p s m args meth c R R_M b_M_lead (some .int) 10 2 49) (hA : ∀ q, s.heap.size ≤ q → A q) (zz : zk dC dI cB cI cL A s)  (N : Nat) (sM : zM) (v1 : Int32) (v2 : Int32) (v3 : Int32) (v4 : Int32) (v5 : Int32) (v7 : Int32) (s0 : Int32) (s1 : Int32) (a : Int32 × zM) (hG : g_M_lead_195 N sM v1 v2 v3 v4 v5 v7 s0 s1 = some a) (adM adM_tape adM_frameAt adM_field adM_draft adM_given adM_low adM_high adM_packet adM_known : Nat) (H : Heap) (locs : List Loc) (hP : va_P (dC, dI) zcl (zwM adM adM_tape adM_frameAt adM_field adM_draft adM_given adM_low adM_high adM_packet adM_known cB cI cL sM) H) (hD : va_D A (zwM adM adM_tape adM_frameAt adM_field adM_draft adM_given adM_low adM_high adM_packet adM_known cB cI cL sM)) (hS : va_S A s.heap H locs) (ls : Array Slot) (hl : lv_has ls 10 [(0, .ref adM), (1, .int v1), (2, .int v2), (3, .int v3), (4, .int v4), (5, .int v5), (7, .int v7)]) : W p l e R s m args below meth c H locs 0 0 (MQ below (q_M_lead dC dI cB cI cL A adM adM_tape adM_frameAt adM_field adM_draft adM_given adM_low adM_high adM_packet adM_known a) args s 0 0 A) (F0 m 195 ls [.int s0, .int s1]) := by
  obtain ⟨hx, hb, hr, hml, hown, hts, hlocks, hRf, hRl⟩ := id X
  unfold g_M_lead_195 at hG
  refine lv_iadd hx hb d_M_lead_195 ?_
  exact k_M_lead_196 X hA zz N sM v1 v2 v3 v4 v5 v7 (s1 + s0) _ hG adM adM_tape adM_frameAt adM_field adM_draft adM_given adM_low adM_high adM_packet adM_known _ _ hP hD hS _ (lv_sub hl [0, 1, 2, 3, 4, 5, 6] rfl)
set_option maxRecDepth 100000 in
set_option maxHeartbeats 4000000 in
theorem k_M_lead_135 {p : Program} {l : Launch} {e : Env} {R : Room} {s : State} {m : MethodId} {args : Array Value} {below : List Frame} {meth : Method} {c : Code} {dC : Nat → ClassId} {dI : Nat → Nat → Nat} {cB cI cL : ClassId} {A : Nat → Prop} (X : zx p s m args meth c R R_M b_M_lead (some .int) 10 2 49) (hA : ∀ q, s.heap.size ≤ q → A q) (zz : zk dC dI cB cI cL A s)  (N : Nat) (sM : zM) (v1 : Int32) (v2 : Int32) (v3 : Int32) (v4 : Int32) (v5 : Int32) (s0 : Int32) (a : Int32 × zM) (hG : g_M_lead_135 N sM v1 v2 v3 v4 v5 s0 = some a) (adM adM_tape adM_frameAt adM_field adM_draft adM_given adM_low adM_high adM_packet adM_known : Nat) (H : Heap) (locs : List Loc) (hP : va_P (dC, dI) zcl (zwM adM adM_tape adM_frameAt adM_field adM_draft adM_given adM_low adM_high adM_packet adM_known cB cI cL sM) H) (hD : va_D A (zwM adM adM_tape adM_frameAt adM_field adM_draft adM_given adM_low adM_high adM_packet adM_known cB cI cL sM)) (hS : va_S A s.heap H locs) (ls : Array Slot) (hl : lv_has ls 10 [(0, .ref adM), (1, .int v1), (2, .int v2), (3, .int v3), (4, .int v4), (5, .int v5)]) : W p l e R s m args below meth c H locs 0 0 (MQ below (q_M_lead dC dI cB cI cL A adM adM_tape adM_frameAt adM_field adM_draft adM_given adM_low adM_high adM_packet adM_known a) args s 0 0 A) (F0 m 135 ls [.int s0]) := by
  obtain ⟨hx, hb, hr, hml, hown, hts, hlocks, hRf, hRl⟩ := id X
  unfold g_M_lead_135 at hG
  refine lv_istore (lv' := [(6, .int s0), (0, .ref adM), (1, .int v1), (2, .int v2), (3, .int v3), (4, .int v4), (5, .int v5)]) hx hb d_M_lead_135 hl (by decide) rfl (fun ls hl => ?_)
  refine lv_aload_n hx hb d_M_lead_137 rfl (lv_at hl 1 rfl) ?_
  refine lv_iload hx hb d_M_lead_138 (lv_at hl 0 rfl) ?_
  refine lv_iconst (v := (1 : Int32)) hx hb d_M_lead_140 (by decide) ?_
  obtain ⟨a_141, hx_141, hG⟩ := zb hG
  have hr_141 := zrunV (p := p) (e := e) (below := below) (meth := meth) (As := [.int s0, .int (1 : Int32)]) (rest := []) (st0 := [.int (1 : Int32), .int s0, .ref adM]) (cells := 0) (slots := 0) X zz hP hD hS hA [0, 1, 2, 3, 4, 5, 6, 7, 8, 9] (by decide) rfl (c_M_fails l dC dI cB cI cL H.size adM adM_tape adM_frameAt adM_field adM_draft adM_given adM_low adM_high adM_packet adM_known sM s0 (1 : Int32) _ hx_141) zy_M_fails zv_M_fails (hts (.methodLink R_M 62 y_M_fails) zin_M_62) hl rfl rfl d_M_lead_141 (lv_room (Nat.le_of_ble_eq_true rfl)) rfl rfl ⟨Nat.le_trans (Nat.le_of_ble_eq_true rfl) hRf, Nat.le_trans (Nat.le_of_ble_eq_true rfl) hRl⟩ ⟨Nat.zero_le _, Nat.zero_le _⟩ 0 8 rfl rfl
  refine zcalli (wr := ([] : va_W)) hr_141 hP hD hS hA [0, 1, 2, 3, 4, 5, 6, 7, 8, 9] [] rfl rfl (by decide) (by decide) (fun r_141 u_141 H locs hw_141 hP hD hS => ?_)
  obtain ⟨sM_141, rfl⟩ : ∃ z, z = u_141 := ⟨_, rfl⟩
  subst hw_141
  have hP : va_P (dC, dI) zcl (zwM adM adM_tape adM_frameAt adM_field adM_draft adM_given adM_low adM_high adM_packet adM_known cB cI cL sM_141) H := hP
  have hD : va_D A (zwM adM adM_tape adM_frameAt adM_field adM_draft adM_given adM_low adM_high adM_packet adM_known cB cI cL sM_141) := hD
  have hG : g_M_lead_c141 N v1 v2 v3 v4 v5 sM_141 r_141 = some a := hG
  unfold g_M_lead_c141 at hG
  refine lv_if_eq (tgt := 149) hx hb d_M_lead_144 (by decide) (fun hc => ?_) (fun hc => ?_)
  · have hG := zt hG hc
    refine lv_aload_n hx hb d_M_lead_149 rfl (lv_at hl 1 rfl) ?_
    refine va_get (D := (dC, dI)) (ci := 8) (v := .int (zM_gives sM_141)) (C := R_M) (T := F_M) (N := 26) hx hb hts zi_M hown zz.1 hP 0 rfl rfl 19 (by decide) (hts (.fieldLink R_M 211 "WireCodecModel" "gives" "I") zin_M_211) (fun _ h9 => h9) rfl d_M_lead_150 ?_
    refine lv_iload_n hx hb d_M_lead_153 rfl (lv_at hl 4 rfl) ?_
    refine lv_isub hx hb d_M_lead_154 ?_
    refine lv_iload hx hb d_M_lead_155 (lv_at hl 5 rfl) ?_
    refine lv_isub hx hb d_M_lead_157 ?_
    refine lv_istore (lv' := [(7, .int (((zM_gives sM_141) - v3) - v4)), (6, .int s0), (0, .ref adM), (1, .int v1), (2, .int v2), (3, .int v3), (4, .int v4), (5, .int v5)]) hx hb d_M_lead_158 hl (by decide) rfl (fun ls hl => ?_)
    refine lv_iload_n hx hb d_M_lead_160 rfl (lv_at hl 3 rfl) ?_
    refine lv_iconst (v := (4 : Int32)) hx hb d_M_lead_161 (by decide) ?_
    refine lv_icmp_ne (tgt := 171) hx hb d_M_lead_162 (by decide) (fun hc => ?_) (fun hc => ?_)
    · have hG := zf hG hc
      refine lv_bipush (v := (9 : Int32)) hx hb d_M_lead_171 (by decide) ?_
      refine lv_iload_n hx hb d_M_lead_173 rfl (lv_at hl 5 rfl) ?_
      refine lv_iadd hx hb d_M_lead_174 ?_
      refine lv_iload hx hb d_M_lead_175 (lv_at hl 6 rfl) ?_
      refine lv_iadd hx hb d_M_lead_177 ?_
      refine lv_iload_n hx hb d_M_lead_178 rfl (lv_at hl 3 rfl) ?_
      refine lv_if_ne (tgt := 194) hx hb d_M_lead_179 (by decide) (fun hc => ?_) (fun hc => ?_)
      · have hG := zf hG hc
        refine lv_iconst (v := (0 : Int32)) hx hb d_M_lead_194 (by decide) ?_
        exact k_M_lead_195 X hA zz N sM_141 v1 v2 v3 v4 v5 (((zM_gives sM_141) - v3) - v4) (0 : Int32) (((9 : Int32) + v3) + v4) _ hG adM adM_tape adM_frameAt adM_field adM_draft adM_given adM_low adM_high adM_packet adM_known _ _ hP hD hS _ (lv_sub hl [2, 3, 4, 5, 6, 7, 0] rfl)
      · have hG := zt hG hc
        refine lv_iload hx hb d_M_lead_182 (lv_at hl 0 rfl) ?_
        refine lv_i2l hx hb d_M_lead_184 rfl ?_
        obtain ⟨a_185, hx_185, hG⟩ := zb hG
        have hr_185 := zrunS (p := p) (e := e) (below := below) (meth := meth) (As := [.long ((((zM_gives sM_141) - v3) - v4).toInt64)]) (rest := [.int (((9 : Int32) + v3) + v4)]) (st0 := [.long ((((zM_gives sM_141) - v3) - v4).toInt64), .int (((9 : Int32) + v3) + v4)]) (cells := 0) (slots := 0) X zz hP hD hS hA [] (by decide) rfl (c_M_needs l dC dI cB cI cL H.size ((((zM_gives sM_141) - v3) - v4).toInt64) _ hx_185) zy_M_needs zv_M_needs (hts (.methodLink R_M 84 y_M_needs) zin_M_84) hl rfl rfl d_M_lead_185 (lv_room (Nat.le_of_ble_eq_true rfl)) rfl rfl ⟨Nat.le_trans (Nat.le_of_ble_eq_true rfl) hRf, Nat.le_trans (Nat.le_of_ble_eq_true rfl) hRl⟩ ⟨Nat.zero_le _, Nat.zero_le _⟩
        refine zcalli (wr := (zwM adM adM_tape adM_frameAt adM_field adM_draft adM_given adM_low adM_high adM_packet adM_known cB cI cL sM_141)) hr_185 hP hD hS hA [] [0, 1, 2, 3, 4, 5, 6, 7, 8, 9] rfl rfl (by decide) (by decide) (fun r_185 u_185 H locs hw_185 hP hD hS => ?_)
        subst hw_185
        have hP : va_P (dC, dI) zcl (zwM adM adM_tape adM_frameAt adM_field adM_draft adM_given adM_low adM_high adM_packet adM_known cB cI cL sM_141) H := hP
        have hD : va_D A (zwM adM adM_tape adM_frameAt adM_field adM_draft adM_given adM_low adM_high adM_packet adM_known cB cI cL sM_141) := hD
        have hG : g_M_lead_c185 N v1 v2 v3 v4 v5 sM_141 r_185 = some a := hG
        unfold g_M_lead_c185 at hG
        refine lv_iload hx hb d_M_lead_188 (lv_at hl 0 rfl) ?_
        refine lv_iadd hx hb d_M_lead_190 ?_
        refine lv_goto (tgt := 195) hx hb d_M_lead_191 (by decide) ?_
        exact k_M_lead_195 X hA zz N sM_141 v1 v2 v3 v4 v5 (((zM_gives sM_141) - v3) - v4) (r_185 + (((zM_gives sM_141) - v3) - v4)) (((9 : Int32) + v3) + v4) _ hG adM adM_tape adM_frameAt adM_field adM_draft adM_given adM_low adM_high adM_packet adM_known _ _ hP hD hS _ (lv_sub hl [2, 3, 4, 5, 6, 7, 0] rfl)
    · have hG := zt hG hc
      refine lv_iconst (v := (1 : Int32)) hx hb d_M_lead_165 (by decide) ?_
      refine lv_iload_n hx hb d_M_lead_166 rfl (lv_at hl 5 rfl) ?_
      refine lv_iadd hx hb d_M_lead_167 ?_
      refine lv_goto (tgt := 196) hx hb d_M_lead_168 (by decide) ?_
      exact k_M_lead_196 X hA zz N sM_141 v1 v2 v3 v4 v5 (((zM_gives sM_141) - v3) - v4) ((1 : Int32) + v3) _ hG adM adM_tape adM_frameAt adM_field adM_draft adM_given adM_low adM_high adM_packet adM_known _ _ hP hD hS _ (lv_sub hl [2, 3, 4, 5, 6, 7, 0] rfl)
  · have hG := zf hG hc
    refine lv_iconst (v := (0 : Int32)) hx hb d_M_lead_147 (by decide) ?_
    exact W.iret (v := (0 : Int32)) hx hb hr (fun t9 ht9 hW9 => ⟨⟨(0 : Int32), (sM_141), rfl, Option.some.inj hG, by rw [ht9]; exact hP, hD⟩, hS.F ht9⟩) hS.2.2 d_M_lead_148
set_option maxRecDepth 100000 in
set_option maxHeartbeats 4000000 in
theorem k_M_lead_130 {p : Program} {l : Launch} {e : Env} {R : Room} {s : State} {m : MethodId} {args : Array Value} {below : List Frame} {meth : Method} {c : Code} {dC : Nat → ClassId} {dI : Nat → Nat → Nat} {cB cI cL : ClassId} {A : Nat → Prop} (X : zx p s m args meth c R R_M b_M_lead (some .int) 10 2 49) (hA : ∀ q, s.heap.size ≤ q → A q) (zz : zk dC dI cB cI cL A s)  (N : Nat) (sM : zM) (v1 : Int32) (v2 : Int32) (v3 : Int32) (v4 : Int32) (v5 : Int32) (a : Int32 × zM) (hG : g_M_lead_130 N sM v1 v2 v3 v4 v5 = some a) (adM adM_tape adM_frameAt adM_field adM_draft adM_given adM_low adM_high adM_packet adM_known : Nat) (H : Heap) (locs : List Loc) (hP : va_P (dC, dI) zcl (zwM adM adM_tape adM_frameAt adM_field adM_draft adM_given adM_low adM_high adM_packet adM_known cB cI cL sM) H) (hD : va_D A (zwM adM adM_tape adM_frameAt adM_field adM_draft adM_given adM_low adM_high adM_packet adM_known cB cI cL sM)) (hS : va_S A s.heap H locs) (ls : Array Slot) (hl : lv_has ls 10 [(0, .ref adM), (1, .int v1), (2, .int v2), (3, .int v3), (4, .int v4), (5, .int v5)]) : W p l e R s m args below meth c H locs 0 0 (MQ below (q_M_lead dC dI cB cI cL A adM adM_tape adM_frameAt adM_field adM_draft adM_given adM_low adM_high adM_packet adM_known a) args s 0 0 A) (F0 m 130 ls []) := by
  obtain ⟨hx, hb, hr, hml, hown, hts, hlocks, hRf, hRl⟩ := id X
  unfold g_M_lead_130 at hG
  refine lv_iconst (v := (1 : Int32)) hx hb d_M_lead_130 (by decide) ?_
  refine lv_goto (tgt := 135) hx hb d_M_lead_131 (by decide) ?_
  exact k_M_lead_135 X hA zz N sM v1 v2 v3 v4 v5 (1 : Int32) _ hG adM adM_tape adM_frameAt adM_field adM_draft adM_given adM_low adM_high adM_packet adM_known _ _ hP hD hS _ (lv_sub hl [0, 1, 2, 3, 4, 5] rfl)
set_option maxRecDepth 100000 in
set_option maxHeartbeats 4000000 in
theorem k_M_lead_134 {p : Program} {l : Launch} {e : Env} {R : Room} {s : State} {m : MethodId} {args : Array Value} {below : List Frame} {meth : Method} {c : Code} {dC : Nat → ClassId} {dI : Nat → Nat → Nat} {cB cI cL : ClassId} {A : Nat → Prop} (X : zx p s m args meth c R R_M b_M_lead (some .int) 10 2 49) (hA : ∀ q, s.heap.size ≤ q → A q) (zz : zk dC dI cB cI cL A s)  (N : Nat) (sM : zM) (v1 : Int32) (v2 : Int32) (v3 : Int32) (v4 : Int32) (v5 : Int32) (a : Int32 × zM) (hG : g_M_lead_134 N sM v1 v2 v3 v4 v5 = some a) (adM adM_tape adM_frameAt adM_field adM_draft adM_given adM_low adM_high adM_packet adM_known : Nat) (H : Heap) (locs : List Loc) (hP : va_P (dC, dI) zcl (zwM adM adM_tape adM_frameAt adM_field adM_draft adM_given adM_low adM_high adM_packet adM_known cB cI cL sM) H) (hD : va_D A (zwM adM adM_tape adM_frameAt adM_field adM_draft adM_given adM_low adM_high adM_packet adM_known cB cI cL sM)) (hS : va_S A s.heap H locs) (ls : Array Slot) (hl : lv_has ls 10 [(0, .ref adM), (1, .int v1), (2, .int v2), (3, .int v3), (4, .int v4), (5, .int v5)]) : W p l e R s m args below meth c H locs 0 0 (MQ below (q_M_lead dC dI cB cI cL A adM adM_tape adM_frameAt adM_field adM_draft adM_given adM_low adM_high adM_packet adM_known a) args s 0 0 A) (F0 m 134 ls []) := by
  obtain ⟨hx, hb, hr, hml, hown, hts, hlocks, hRf, hRl⟩ := id X
  unfold g_M_lead_134 at hG
  refine lv_iconst (v := (0 : Int32)) hx hb d_M_lead_134 (by decide) ?_
  exact k_M_lead_135 X hA zz N sM v1 v2 v3 v4 v5 (0 : Int32) _ hG adM adM_tape adM_frameAt adM_field adM_draft adM_given adM_low adM_high adM_packet adM_known _ _ hP hD hS _ (lv_sub hl [0, 1, 2, 3, 4, 5] rfl)
set_option maxRecDepth 100000 in
set_option maxHeartbeats 4000000 in
theorem k_M_lead_110 {p : Program} {l : Launch} {e : Env} {R : Room} {s : State} {m : MethodId} {args : Array Value} {below : List Frame} {meth : Method} {c : Code} {dC : Nat → ClassId} {dI : Nat → Nat → Nat} {cB cI cL : ClassId} {A : Nat → Prop} (X : zx p s m args meth c R R_M b_M_lead (some .int) 10 2 49) (hA : ∀ q, s.heap.size ≤ q → A q) (zz : zk dC dI cB cI cL A s)  (N : Nat) (sM : zM) (v1 : Int32) (v2 : Int32) (v3 : Int32) (v4 : Int32) (v5 : Int32) (a : Int32 × zM) (hG : g_M_lead_110 N sM v1 v2 v3 v4 v5 = some a) (adM adM_tape adM_frameAt adM_field adM_draft adM_given adM_low adM_high adM_packet adM_known : Nat) (H : Heap) (locs : List Loc) (hP : va_P (dC, dI) zcl (zwM adM adM_tape adM_frameAt adM_field adM_draft adM_given adM_low adM_high adM_packet adM_known cB cI cL sM) H) (hD : va_D A (zwM adM adM_tape adM_frameAt adM_field adM_draft adM_given adM_low adM_high adM_packet adM_known cB cI cL sM)) (hS : va_S A s.heap H locs) (ls : Array Slot) (hl : lv_has ls 10 [(0, .ref adM), (1, .int v1), (2, .int v2), (3, .int v3), (4, .int v4), (5, .int v5)]) : W p l e R s m args below meth c H locs 0 0 (MQ below (q_M_lead dC dI cB cI cL A adM adM_tape adM_frameAt adM_field adM_draft adM_given adM_low adM_high adM_packet adM_known a) args s 0 0 A) (F0 m 110 ls []) := by
  obtain ⟨hx, hb, hr, hml, hown, hts, hlocks, hRf, hRl⟩ := id X
  unfold g_M_lead_110 at hG
  refine lv_iload_n hx hb d_M_lead_110 rfl (lv_at hl 1 rfl) ?_
  refine lv_iconst (v := (4 : Int32)) hx hb d_M_lead_111 (by decide) ?_
  refine lv_icmp_eq (tgt := 134) hx hb d_M_lead_112 (by decide) (fun hc => ?_) (fun hc => ?_)
  · have hG := zt hG hc
    exact k_M_lead_134 X hA zz N sM v1 v2 v3 v4 v5 _ hG adM adM_tape adM_frameAt adM_field adM_draft adM_given adM_low adM_high adM_packet adM_known _ _ hP hD hS _ (lv_sub hl [0, 1, 2, 3, 4, 5] rfl)
  · have hG := zf hG hc
    refine lv_iload hx hb d_M_lead_115 (lv_at hl 5 rfl) ?_
    refine lv_i2l hx hb d_M_lead_117 rfl ?_
    refine lv_ldc2 (v := (20 : Int64)) hx hb hown (hts (.constantLong R_M 254 (20 : Int64)) zin_M_254) d_M_lead_118 ?_
    refine lv_ldc2 (v := (16383 : Int64)) hx hb hown (hts (.constantLong R_M 270 (16383 : Int64)) zin_M_270) d_M_lead_121 ?_
    obtain ⟨a_124, hx_124, hG⟩ := zb hG
    have hr_124 := zrunS (p := p) (e := e) (below := below) (meth := meth) (As := [.long v5.toInt64, .long (20 : Int64), .long (16383 : Int64)]) (rest := []) (st0 := [.long (16383 : Int64), .long (20 : Int64), .long v5.toInt64]) (cells := 0) (slots := 0) X zz hP hD hS hA [] (by decide) rfl (c_M_within l dC dI cB cI cL H.size v5.toInt64 (20 : Int64) (16383 : Int64) _ hx_124) zy_M_within zv_M_within (hts (.methodLink R_M 53 y_M_within) zin_M_53) hl rfl rfl d_M_lead_124 (lv_room (Nat.le_of_ble_eq_true rfl)) rfl rfl ⟨Nat.le_trans (Nat.le_of_ble_eq_true rfl) hRf, Nat.le_trans (Nat.le_of_ble_eq_true rfl) hRl⟩ ⟨Nat.zero_le _, Nat.zero_le _⟩
    refine zcalli (wr := (zwM adM adM_tape adM_frameAt adM_field adM_draft adM_given adM_low adM_high adM_packet adM_known cB cI cL sM)) hr_124 hP hD hS hA [] [0, 1, 2, 3, 4, 5, 6, 7, 8, 9] rfl rfl (by decide) (by decide) (fun r_124 u_124 H locs hw_124 hP hD hS => ?_)
    subst hw_124
    have hP : va_P (dC, dI) zcl (zwM adM adM_tape adM_frameAt adM_field adM_draft adM_given adM_low adM_high adM_packet adM_known cB cI cL sM) H := hP
    have hD : va_D A (zwM adM adM_tape adM_frameAt adM_field adM_draft adM_given adM_low adM_high adM_packet adM_known cB cI cL sM) := hD
    have hG : g_M_lead_c124 N sM v1 v2 v3 v4 v5 r_124 = some a := hG
    unfold g_M_lead_c124 at hG
    refine lv_if_ne (tgt := 134) hx hb d_M_lead_127 (by decide) (fun hc => ?_) (fun hc => ?_)
    · have hG := zf hG hc
      exact k_M_lead_134 X hA zz N sM v1 v2 v3 v4 v5 _ hG adM adM_tape adM_frameAt adM_field adM_draft adM_given adM_low adM_high adM_packet adM_known _ _ hP hD hS _ (lv_sub hl [0, 1, 2, 3, 4, 5] rfl)
    · have hG := zt hG hc
      exact k_M_lead_130 X hA zz N sM v1 v2 v3 v4 v5 _ hG adM adM_tape adM_frameAt adM_field adM_draft adM_given adM_low adM_high adM_packet adM_known _ _ hP hD hS _ (lv_sub hl [0, 1, 2, 3, 4, 5] rfl)
set_option maxRecDepth 100000 in
set_option maxHeartbeats 4000000 in
theorem k_M_lead_76 {p : Program} {l : Launch} {e : Env} {R : Room} {s : State} {m : MethodId} {args : Array Value} {below : List Frame} {meth : Method} {c : Code} {dC : Nat → ClassId} {dI : Nat → Nat → Nat} {cB cI cL : ClassId} {A : Nat → Prop} (X : zx p s m args meth c R R_M b_M_lead (some .int) 10 2 49) (hA : ∀ q, s.heap.size ≤ q → A q) (zz : zk dC dI cB cI cL A s)  (N : Nat) (sM : zM) (v1 : Int32) (v2 : Int32) (v3 : Int32) (v4 : Int32) (v5 : Int32) (s0 : Int32) (a : Int32 × zM) (hG : g_M_lead_76 N sM v1 v2 v3 v4 v5 s0 = some a) (adM adM_tape adM_frameAt adM_field adM_draft adM_given adM_low adM_high adM_packet adM_known : Nat) (H : Heap) (locs : List Loc) (hP : va_P (dC, dI) zcl (zwM adM adM_tape adM_frameAt adM_field adM_draft adM_given adM_low adM_high adM_packet adM_known cB cI cL sM) H) (hD : va_D A (zwM adM adM_tape adM_frameAt adM_field adM_draft adM_given adM_low adM_high adM_packet adM_known cB cI cL sM)) (hS : va_S A s.heap H locs) (ls : Array Slot) (hl : lv_has ls 10 [(0, .ref adM), (1, .int v1), (2, .int v2), (3, .int v3), (4, .int v4), (5, .int v5)]) : W p l e R s m args below meth c H locs 0 0 (MQ below (q_M_lead dC dI cB cI cL A adM adM_tape adM_frameAt adM_field adM_draft adM_given adM_low adM_high adM_packet adM_known a) args s 0 0 A) (F0 m 76 ls [.int s0]) := by
  obtain ⟨hx, hb, hr, hml, hown, hts, hlocks, hRf, hRl⟩ := id X
  unfold g_M_lead_76 at hG
  refine lv_istore (lv' := [(6, .int s0), (0, .ref adM), (1, .int v1), (2, .int v2), (3, .int v3), (4, .int v4), (5, .int v5)]) hx hb d_M_lead_76 hl (by decide) rfl (fun ls hl => ?_)
  refine lv_iload hx hb d_M_lead_78 (lv_at hl 0 rfl) ?_
  refine lv_if_ne (tgt := 130) hx hb d_M_lead_80 (by decide) (fun hc => ?_) (fun hc => ?_)
  · have hG := zf hG hc
    exact k_M_lead_130 X hA zz N sM v1 v2 v3 v4 v5 _ hG adM adM_tape adM_frameAt adM_field adM_draft adM_given adM_low adM_high adM_packet adM_known _ _ hP hD hS _ (lv_sub hl [1, 2, 3, 4, 5, 6] rfl)
  · have hG := zt hG hc
    refine lv_aload_n hx hb d_M_lead_83 rfl (lv_at hl 1 rfl) ?_
    refine va_get (D := (dC, dI)) (ci := 8) (v := .int (zM_gives sM)) (C := R_M) (T := F_M) (N := 26) hx hb hts zi_M hown zz.1 hP 0 rfl rfl 19 (by decide) (hts (.fieldLink R_M 211 "WireCodecModel" "gives" "I") zin_M_211) (fun _ h9 => h9) rfl d_M_lead_84 ?_
    refine lv_iload_n hx hb d_M_lead_87 rfl (lv_at hl 4 rfl) ?_
    refine lv_iload hx hb d_M_lead_88 (lv_at hl 5 rfl) ?_
    refine lv_iadd hx hb d_M_lead_90 ?_
    refine lv_icmp_lt (tgt := 130) hx hb d_M_lead_91 (by decide) (fun hc => ?_) (fun hc => ?_)
    · have hG := zt hG hc
      exact k_M_lead_130 X hA zz N sM v1 v2 v3 v4 v5 _ hG adM adM_tape adM_frameAt adM_field adM_draft adM_given adM_low adM_high adM_packet adM_known _ _ hP hD hS _ (lv_sub hl [1, 2, 3, 4, 5, 6] rfl)
    · have hG := zf hG hc
      refine lv_iload_n hx hb d_M_lead_94 rfl (lv_at hl 2 rfl) ?_
      refine lv_iconst (v := (2 : Int32)) hx hb d_M_lead_95 (by decide) ?_
      refine lv_icmp_ne (tgt := 110) hx hb d_M_lead_96 (by decide) (fun hc => ?_) (fun hc => ?_)
      · have hG := zf hG hc
        exact k_M_lead_110 X hA zz N sM v1 v2 v3 v4 v5 _ hG adM adM_tape adM_frameAt adM_field adM_draft adM_given adM_low adM_high adM_packet adM_known _ _ hP hD hS _ (lv_sub hl [1, 2, 3, 4, 5, 6] rfl)
      · have hG := zt hG hc
        refine lv_aload_n hx hb d_M_lead_99 rfl (lv_at hl 1 rfl) ?_
        refine va_get (D := (dC, dI)) (ci := 8) (v := .int (zM_gives sM)) (C := R_M) (T := F_M) (N := 26) hx hb hts zi_M hown zz.1 hP 0 rfl rfl 19 (by decide) (hts (.fieldLink R_M 211 "WireCodecModel" "gives" "I") zin_M_211) (fun _ h9 => h9) rfl d_M_lead_100 ?_
        refine lv_iload_n hx hb d_M_lead_103 rfl (lv_at hl 4 rfl) ?_
        refine lv_iload hx hb d_M_lead_104 (lv_at hl 5 rfl) ?_
        refine lv_iadd hx hb d_M_lead_106 ?_
        refine lv_icmp_gt (tgt := 130) hx hb d_M_lead_107 (by decide) (fun hc => ?_) (fun hc => ?_)
        · have hG := zt hG hc
          exact k_M_lead_130 X hA zz N sM v1 v2 v3 v4 v5 _ hG adM adM_tape adM_frameAt adM_field adM_draft adM_given adM_low adM_high adM_packet adM_known _ _ hP hD hS _ (lv_sub hl [1, 2, 3, 4, 5, 6] rfl)
        · have hG := zf hG hc
          exact k_M_lead_110 X hA zz N sM v1 v2 v3 v4 v5 _ hG adM adM_tape adM_frameAt adM_field adM_draft adM_given adM_low adM_high adM_packet adM_known _ _ hP hD hS _ (lv_sub hl [1, 2, 3, 4, 5, 6] rfl)
set_option maxRecDepth 100000 in
set_option maxHeartbeats 4000000 in
theorem k_M_lead_71 {p : Program} {l : Launch} {e : Env} {R : Room} {s : State} {m : MethodId} {args : Array Value} {below : List Frame} {meth : Method} {c : Code} {dC : Nat → ClassId} {dI : Nat → Nat → Nat} {cB cI cL : ClassId} {A : Nat → Prop} (X : zx p s m args meth c R R_M b_M_lead (some .int) 10 2 49) (hA : ∀ q, s.heap.size ≤ q → A q) (zz : zk dC dI cB cI cL A s)  (N : Nat) (sM : zM) (v1 : Int32) (v2 : Int32) (v3 : Int32) (v4 : Int32) (v5 : Int32) (a : Int32 × zM) (hG : g_M_lead_71 N sM v1 v2 v3 v4 v5 = some a) (adM adM_tape adM_frameAt adM_field adM_draft adM_given adM_low adM_high adM_packet adM_known : Nat) (H : Heap) (locs : List Loc) (hP : va_P (dC, dI) zcl (zwM adM adM_tape adM_frameAt adM_field adM_draft adM_given adM_low adM_high adM_packet adM_known cB cI cL sM) H) (hD : va_D A (zwM adM adM_tape adM_frameAt adM_field adM_draft adM_given adM_low adM_high adM_packet adM_known cB cI cL sM)) (hS : va_S A s.heap H locs) (ls : Array Slot) (hl : lv_has ls 10 [(0, .ref adM), (1, .int v1), (2, .int v2), (3, .int v3), (4, .int v4), (5, .int v5)]) : W p l e R s m args below meth c H locs 0 0 (MQ below (q_M_lead dC dI cB cI cL A adM adM_tape adM_frameAt adM_field adM_draft adM_given adM_low adM_high adM_packet adM_known a) args s 0 0 A) (F0 m 71 ls []) := by
  obtain ⟨hx, hb, hr, hml, hown, hts, hlocks, hRf, hRl⟩ := id X
  unfold g_M_lead_71 at hG
  refine lv_iconst (v := (1 : Int32)) hx hb d_M_lead_71 (by decide) ?_
  refine lv_goto (tgt := 76) hx hb d_M_lead_72 (by decide) ?_
  exact k_M_lead_76 X hA zz N sM v1 v2 v3 v4 v5 (1 : Int32) _ hG adM adM_tape adM_frameAt adM_field adM_draft adM_given adM_low adM_high adM_packet adM_known _ _ hP hD hS _ (lv_sub hl [0, 1, 2, 3, 4, 5] rfl)
set_option maxRecDepth 100000 in
set_option maxHeartbeats 4000000 in
theorem k_M_lead_65 {p : Program} {l : Launch} {e : Env} {R : Room} {s : State} {m : MethodId} {args : Array Value} {below : List Frame} {meth : Method} {c : Code} {dC : Nat → ClassId} {dI : Nat → Nat → Nat} {cB cI cL : ClassId} {A : Nat → Prop} (X : zx p s m args meth c R R_M b_M_lead (some .int) 10 2 49) (hA : ∀ q, s.heap.size ≤ q → A q) (zz : zk dC dI cB cI cL A s)  (N : Nat) (sM : zM) (v1 : Int32) (v2 : Int32) (v3 : Int32) (v4 : Int32) (v5 : Int32) (s0 : Int64) (s1 : Int64) (s2 : Int64) (a : Int32 × zM) (hG : g_M_lead_65 N sM v1 v2 v3 v4 v5 s0 s1 s2 = some a) (adM adM_tape adM_frameAt adM_field adM_draft adM_given adM_low adM_high adM_packet adM_known : Nat) (H : Heap) (locs : List Loc) (hP : va_P (dC, dI) zcl (zwM adM adM_tape adM_frameAt adM_field adM_draft adM_given adM_low adM_high adM_packet adM_known cB cI cL sM) H) (hD : va_D A (zwM adM adM_tape adM_frameAt adM_field adM_draft adM_given adM_low adM_high adM_packet adM_known cB cI cL sM)) (hS : va_S A s.heap H locs) (ls : Array Slot) (hl : lv_has ls 10 [(0, .ref adM), (1, .int v1), (2, .int v2), (3, .int v3), (4, .int v4), (5, .int v5)]) : W p l e R s m args below meth c H locs 0 0 (MQ below (q_M_lead dC dI cB cI cL A adM adM_tape adM_frameAt adM_field adM_draft adM_given adM_low adM_high adM_packet adM_known a) args s 0 0 A) (F0 m 65 ls [.long s0, .long s1, .long s2]) := by
  obtain ⟨hx, hb, hr, hml, hown, hts, hlocks, hRf, hRl⟩ := id X
  unfold g_M_lead_65 at hG
  obtain ⟨a_65, hx_65, hG⟩ := zb hG
  have hr_65 := zrunS (p := p) (e := e) (below := below) (meth := meth) (As := [.long s2, .long s1, .long s0]) (rest := []) (st0 := [.long s0, .long s1, .long s2]) (cells := 0) (slots := 0) X zz hP hD hS hA [] (by decide) rfl (c_M_within l dC dI cB cI cL H.size s2 s1 s0 _ hx_65) zy_M_within zv_M_within (hts (.methodLink R_M 53 y_M_within) zin_M_53) hl rfl rfl d_M_lead_65 (lv_room (Nat.le_of_ble_eq_true rfl)) rfl rfl ⟨Nat.le_trans (Nat.le_of_ble_eq_true rfl) hRf, Nat.le_trans (Nat.le_of_ble_eq_true rfl) hRl⟩ ⟨Nat.zero_le _, Nat.zero_le _⟩
  refine zcalli (wr := (zwM adM adM_tape adM_frameAt adM_field adM_draft adM_given adM_low adM_high adM_packet adM_known cB cI cL sM)) hr_65 hP hD hS hA [] [0, 1, 2, 3, 4, 5, 6, 7, 8, 9] rfl rfl (by decide) (by decide) (fun r_65 u_65 H locs hw_65 hP hD hS => ?_)
  subst hw_65
  have hP : va_P (dC, dI) zcl (zwM adM adM_tape adM_frameAt adM_field adM_draft adM_given adM_low adM_high adM_packet adM_known cB cI cL sM) H := hP
  have hD : va_D A (zwM adM adM_tape adM_frameAt adM_field adM_draft adM_given adM_low adM_high adM_packet adM_known cB cI cL sM) := hD
  have hG : g_M_lead_c65 N sM v1 v2 v3 v4 v5 r_65 = some a := hG
  unfold g_M_lead_c65 at hG
  refine lv_if_ne (tgt := 75) hx hb d_M_lead_68 (by decide) (fun hc => ?_) (fun hc => ?_)
  · have hG := zf hG hc
    refine lv_iconst (v := (0 : Int32)) hx hb d_M_lead_75 (by decide) ?_
    exact k_M_lead_76 X hA zz N sM v1 v2 v3 v4 v5 (0 : Int32) _ hG adM adM_tape adM_frameAt adM_field adM_draft adM_given adM_low adM_high adM_packet adM_known _ _ hP hD hS _ (lv_sub hl [0, 1, 2, 3, 4, 5] rfl)
  · have hG := zt hG hc
    exact k_M_lead_71 X hA zz N sM v1 v2 v3 v4 v5 _ hG adM adM_tape adM_frameAt adM_field adM_draft adM_given adM_low adM_high adM_packet adM_known _ _ hP hD hS _ (lv_sub hl [0, 1, 2, 3, 4, 5] rfl)
set_option maxRecDepth 100000 in
set_option maxHeartbeats 4000000 in
theorem k_M_lead_31 {p : Program} {l : Launch} {e : Env} {R : Room} {s : State} {m : MethodId} {args : Array Value} {below : List Frame} {meth : Method} {c : Code} {dC : Nat → ClassId} {dI : Nat → Nat → Nat} {cB cI cL : ClassId} {A : Nat → Prop} (X : zx p s m args meth c R R_M b_M_lead (some .int) 10 2 49) (hA : ∀ q, s.heap.size ≤ q → A q) (zz : zk dC dI cB cI cL A s)  (N : Nat) (sM : zM) (v1 : Int32) (v2 : Int32) (v3 : Int32) (v4 : Int32) (v5 : Int32) (s0 : Int64) (s1 : Int64) (s2 : Int64) (a : Int32 × zM) (hG : g_M_lead_31 N sM v1 v2 v3 v4 v5 s0 s1 s2 = some a) (adM adM_tape adM_frameAt adM_field adM_draft adM_given adM_low adM_high adM_packet adM_known : Nat) (H : Heap) (locs : List Loc) (hP : va_P (dC, dI) zcl (zwM adM adM_tape adM_frameAt adM_field adM_draft adM_given adM_low adM_high adM_packet adM_known cB cI cL sM) H) (hD : va_D A (zwM adM adM_tape adM_frameAt adM_field adM_draft adM_given adM_low adM_high adM_packet adM_known cB cI cL sM)) (hS : va_S A s.heap H locs) (ls : Array Slot) (hl : lv_has ls 10 [(0, .ref adM), (1, .int v1), (2, .int v2), (3, .int v3), (4, .int v4), (5, .int v5)]) : W p l e R s m args below meth c H locs 0 0 (MQ below (q_M_lead dC dI cB cI cL A adM adM_tape adM_frameAt adM_field adM_draft adM_given adM_low adM_high adM_packet adM_known a) args s 0 0 A) (F0 m 31 ls [.long s0, .long s1, .long s2]) := by
  obtain ⟨hx, hb, hr, hml, hown, hts, hlocks, hRf, hRl⟩ := id X
  unfold g_M_lead_31 at hG
  obtain ⟨a_31, hx_31, hG⟩ := zb hG
  have hr_31 := zrunS (p := p) (e := e) (below := below) (meth := meth) (As := [.long s2, .long s1, .long s0]) (rest := []) (st0 := [.long s0, .long s1, .long s2]) (cells := 0) (slots := 0) X zz hP hD hS hA [] (by decide) rfl (c_M_within l dC dI cB cI cL H.size s2 s1 s0 _ hx_31) zy_M_within zv_M_within (hts (.methodLink R_M 53 y_M_within) zin_M_53) hl rfl rfl d_M_lead_31 (lv_room (Nat.le_of_ble_eq_true rfl)) rfl rfl ⟨Nat.le_trans (Nat.le_of_ble_eq_true rfl) hRf, Nat.le_trans (Nat.le_of_ble_eq_true rfl) hRl⟩ ⟨Nat.zero_le _, Nat.zero_le _⟩
  refine zcalli (wr := (zwM adM adM_tape adM_frameAt adM_field adM_draft adM_given adM_low adM_high adM_packet adM_known cB cI cL sM)) hr_31 hP hD hS hA [] [0, 1, 2, 3, 4, 5, 6, 7, 8, 9] rfl rfl (by decide) (by decide) (fun r_31 u_31 H locs hw_31 hP hD hS => ?_)
  subst hw_31
  have hP : va_P (dC, dI) zcl (zwM adM adM_tape adM_frameAt adM_field adM_draft adM_given adM_low adM_high adM_packet adM_known cB cI cL sM) H := hP
  have hD : va_D A (zwM adM adM_tape adM_frameAt adM_field adM_draft adM_given adM_low adM_high adM_packet adM_known cB cI cL sM) := hD
  have hG : g_M_lead_c31 N sM v1 v2 v3 v4 v5 r_31 = some a := hG
  unfold g_M_lead_c31 at hG
  refine lv_if_eq (tgt := 71) hx hb d_M_lead_34 (by decide) (fun hc => ?_) (fun hc => ?_)
  · have hG := zt hG hc
    exact k_M_lead_71 X hA zz N sM v1 v2 v3 v4 v5 _ hG adM adM_tape adM_frameAt adM_field adM_draft adM_given adM_low adM_high adM_packet adM_known _ _ hP hD hS _ (lv_sub hl [0, 1, 2, 3, 4, 5] rfl)
  · have hG := zf hG hc
    refine lv_iload_n hx hb d_M_lead_37 rfl (lv_at hl 3 rfl) ?_
    refine lv_i2l hx hb d_M_lead_38 rfl ?_
    refine lv_lconst (v := (0 : Int64)) hx hb d_M_lead_39 (by decide) ?_
    refine lv_ldc2 (v := (20 : Int64)) hx hb hown (hts (.constantLong R_M 254 (20 : Int64)) zin_M_254) d_M_lead_40 ?_
    obtain ⟨a_43, hx_43, hG⟩ := zb hG
    have hr_43 := zrunS (p := p) (e := e) (below := below) (meth := meth) (As := [.long v3.toInt64, .long (0 : Int64), .long (20 : Int64)]) (rest := []) (st0 := [.long (20 : Int64), .long (0 : Int64), .long v3.toInt64]) (cells := 0) (slots := 0) X zz hP hD hS hA [] (by decide) rfl (c_M_within l dC dI cB cI cL H.size v3.toInt64 (0 : Int64) (20 : Int64) _ hx_43) zy_M_within zv_M_within (hts (.methodLink R_M 53 y_M_within) zin_M_53) hl rfl rfl d_M_lead_43 (lv_room (Nat.le_of_ble_eq_true rfl)) rfl rfl ⟨Nat.le_trans (Nat.le_of_ble_eq_true rfl) hRf, Nat.le_trans (Nat.le_of_ble_eq_true rfl) hRl⟩ ⟨Nat.zero_le _, Nat.zero_le _⟩
    refine zcalli (wr := (zwM adM adM_tape adM_frameAt adM_field adM_draft adM_given adM_low adM_high adM_packet adM_known cB cI cL sM)) hr_43 hP hD hS hA [] [0, 1, 2, 3, 4, 5, 6, 7, 8, 9] rfl rfl (by decide) (by decide) (fun r_43 u_43 H locs hw_43 hP hD hS => ?_)
    subst hw_43
    have hP : va_P (dC, dI) zcl (zwM adM adM_tape adM_frameAt adM_field adM_draft adM_given adM_low adM_high adM_packet adM_known cB cI cL sM) H := hP
    have hD : va_D A (zwM adM adM_tape adM_frameAt adM_field adM_draft adM_given adM_low adM_high adM_packet adM_known cB cI cL sM) := hD
    have hG : g_M_lead_c43 N sM v1 v2 v3 v4 v5 r_43 = some a := hG
    unfold g_M_lead_c43 at hG
    refine lv_if_eq (tgt := 71) hx hb d_M_lead_46 (by decide) (fun hc => ?_) (fun hc => ?_)
    · have hG := zt hG hc
      exact k_M_lead_71 X hA zz N sM v1 v2 v3 v4 v5 _ hG adM adM_tape adM_frameAt adM_field adM_draft adM_given adM_low adM_high adM_packet adM_known _ _ hP hD hS _ (lv_sub hl [0, 1, 2, 3, 4, 5] rfl)
    · have hG := zf hG hc
      refine lv_iload hx hb d_M_lead_49 (lv_at hl 4 rfl) ?_
      refine lv_i2l hx hb d_M_lead_51 rfl ?_
      refine lv_lconst (v := (0 : Int64)) hx hb d_M_lead_52 (by decide) ?_
      refine lv_iload_n hx hb d_M_lead_53 rfl (lv_at hl 1 rfl) ?_
      refine lv_iconst (v := (4 : Int32)) hx hb d_M_lead_54 (by decide) ?_
      refine lv_icmp_ne (tgt := 62) hx hb d_M_lead_55 (by decide) (fun hc => ?_) (fun hc => ?_)
      · have hG := zf hG hc
        refine lv_ldc2 (v := (20 : Int64)) hx hb hown (hts (.constantLong R_M 254 (20 : Int64)) zin_M_254) d_M_lead_62 ?_
        exact k_M_lead_65 X hA zz N sM v1 v2 v3 v4 v5 (20 : Int64) (0 : Int64) v4.toInt64 _ hG adM adM_tape adM_frameAt adM_field adM_draft adM_given adM_low adM_high adM_packet adM_known _ _ hP hD hS _ (lv_sub hl [0, 1, 2, 3, 4, 5] rfl)
      · have hG := zt hG hc
        refine lv_lconst (v := (0 : Int64)) hx hb d_M_lead_58 (by decide) ?_
        refine lv_goto (tgt := 65) hx hb d_M_lead_59 (by decide) ?_
        exact k_M_lead_65 X hA zz N sM v1 v2 v3 v4 v5 (0 : Int64) (0 : Int64) v4.toInt64 _ hG adM adM_tape adM_frameAt adM_field adM_draft adM_given adM_low adM_high adM_packet adM_known _ _ hP hD hS _ (lv_sub hl [0, 1, 2, 3, 4, 5] rfl)
set_option maxRecDepth 100000 in
set_option maxHeartbeats 4000000 in
theorem k_M_lead_14 {p : Program} {l : Launch} {e : Env} {R : Room} {s : State} {m : MethodId} {args : Array Value} {below : List Frame} {meth : Method} {c : Code} {dC : Nat → ClassId} {dI : Nat → Nat → Nat} {cB cI cL : ClassId} {A : Nat → Prop} (X : zx p s m args meth c R R_M b_M_lead (some .int) 10 2 49) (hA : ∀ q, s.heap.size ≤ q → A q) (zz : zk dC dI cB cI cL A s)  (N : Nat) (sM : zM) (v1 : Int32) (v2 : Int32) (v3 : Int32) (v4 : Int32) (v5 : Int32) (a : Int32 × zM) (hG : g_M_lead_14 N sM v1 v2 v3 v4 v5 = some a) (adM adM_tape adM_frameAt adM_field adM_draft adM_given adM_low adM_high adM_packet adM_known : Nat) (H : Heap) (locs : List Loc) (hP : va_P (dC, dI) zcl (zwM adM adM_tape adM_frameAt adM_field adM_draft adM_given adM_low adM_high adM_packet adM_known cB cI cL sM) H) (hD : va_D A (zwM adM adM_tape adM_frameAt adM_field adM_draft adM_given adM_low adM_high adM_packet adM_known cB cI cL sM)) (hS : va_S A s.heap H locs) (ls : Array Slot) (hl : lv_has ls 10 [(0, .ref adM), (1, .int v1), (2, .int v2), (3, .int v3), (4, .int v4), (5, .int v5)]) : W p l e R s m args below meth c H locs 0 0 (MQ below (q_M_lead dC dI cB cI cL A adM adM_tape adM_frameAt adM_field adM_draft adM_given adM_low adM_high adM_packet adM_known a) args s 0 0 A) (F0 m 14 ls []) := by
  obtain ⟨hx, hb, hr, hml, hown, hts, hlocks, hRf, hRl⟩ := id X
  unfold g_M_lead_14 at hG
  refine lv_iload_n hx hb d_M_lead_14 rfl (lv_at hl 2 rfl) ?_
  refine lv_i2l hx hb d_M_lead_15 rfl ?_
  refine lv_lconst (v := (0 : Int64)) hx hb d_M_lead_16 (by decide) ?_
  refine lv_iload_n hx hb d_M_lead_17 rfl (lv_at hl 1 rfl) ?_
  refine lv_iconst (v := (4 : Int32)) hx hb d_M_lead_18 (by decide) ?_
  refine lv_icmp_ne (tgt := 28) hx hb d_M_lead_19 (by decide) (fun hc => ?_) (fun hc => ?_)
  · have hG := zf hG hc
    refine lv_ldc2 (v := (15 : Int64)) hx hb hown (hts (.constantLong R_M 268 (15 : Int64)) zin_M_268) d_M_lead_28 ?_
    exact k_M_lead_31 X hA zz N sM v1 v2 v3 v4 v5 (15 : Int64) (0 : Int64) v2.toInt64 _ hG adM adM_tape adM_frameAt adM_field adM_draft adM_given adM_low adM_high adM_packet adM_known _ _ hP hD hS _ (lv_sub hl [0, 1, 2, 3, 4, 5] rfl)
  · have hG := zt hG hc
    refine lv_ldc2 (v := (63 : Int64)) hx hb hown (hts (.constantLong R_M 266 (63 : Int64)) zin_M_266) d_M_lead_22 ?_
    refine lv_goto (tgt := 31) hx hb d_M_lead_25 (by decide) ?_
    exact k_M_lead_31 X hA zz N sM v1 v2 v3 v4 v5 (63 : Int64) (0 : Int64) v2.toInt64 _ hG adM adM_tape adM_frameAt adM_field adM_draft adM_given adM_low adM_high adM_packet adM_known _ _ hP hD hS _ (lv_sub hl [0, 1, 2, 3, 4, 5] rfl)
set_option maxRecDepth 100000 in
set_option maxHeartbeats 4000000 in
theorem k_M_lead_0 {p : Program} {l : Launch} {e : Env} {R : Room} {s : State} {m : MethodId} {args : Array Value} {below : List Frame} {meth : Method} {c : Code} {dC : Nat → ClassId} {dI : Nat → Nat → Nat} {cB cI cL : ClassId} {A : Nat → Prop} (X : zx p s m args meth c R R_M b_M_lead (some .int) 10 2 49) (hA : ∀ q, s.heap.size ≤ q → A q) (zz : zk dC dI cB cI cL A s)  (N : Nat) (sM : zM) (v1 : Int32) (v2 : Int32) (v3 : Int32) (v4 : Int32) (v5 : Int32) (a : Int32 × zM) (hG : g_M_lead N sM v1 v2 v3 v4 v5 = some a) (adM adM_tape adM_frameAt adM_field adM_draft adM_given adM_low adM_high adM_packet adM_known : Nat) (H : Heap) (locs : List Loc) (hP : va_P (dC, dI) zcl (zwM adM adM_tape adM_frameAt adM_field adM_draft adM_given adM_low adM_high adM_packet adM_known cB cI cL sM) H) (hD : va_D A (zwM adM adM_tape adM_frameAt adM_field adM_draft adM_given adM_low adM_high adM_packet adM_known cB cI cL sM)) (hS : va_S A s.heap H locs) (ls : Array Slot) (hl : lv_has ls 10 [(0, .ref adM), (1, .int v1), (2, .int v2), (3, .int v3), (4, .int v4), (5, .int v5)]) : W p l e R s m args below meth c H locs 0 0 (MQ below (q_M_lead dC dI cB cI cL A adM adM_tape adM_frameAt adM_field adM_draft adM_given adM_low adM_high adM_packet adM_known a) args s 0 0 A) (F0 m 0 ls []) := by
  obtain ⟨hx, hb, hr, hml, hown, hts, hlocks, hRf, hRl⟩ := id X
  unfold g_M_lead at hG
  refine lv_iload_n hx hb d_M_lead_0 rfl (lv_at hl 1 rfl) ?_
  refine lv_if_eq (tgt := 14) hx hb d_M_lead_1 (by decide) (fun hc => ?_) (fun hc => ?_)
  · have hG := zt hG hc
    exact k_M_lead_14 X hA zz N sM v1 v2 v3 v4 v5 _ hG adM adM_tape adM_frameAt adM_field adM_draft adM_given adM_low adM_high adM_packet adM_known _ _ hP hD hS _ (lv_sub hl [0, 1, 2, 3, 4, 5] rfl)
  · have hG := zf hG hc
    refine lv_iload_n hx hb d_M_lead_4 rfl (lv_at hl 1 rfl) ?_
    refine lv_iconst (v := (2 : Int32)) hx hb d_M_lead_5 (by decide) ?_
    refine lv_icmp_eq (tgt := 14) hx hb d_M_lead_6 (by decide) (fun hc => ?_) (fun hc => ?_)
    · have hG := zt hG hc
      exact k_M_lead_14 X hA zz N sM v1 v2 v3 v4 v5 _ hG adM adM_tape adM_frameAt adM_field adM_draft adM_given adM_low adM_high adM_packet adM_known _ _ hP hD hS _ (lv_sub hl [0, 1, 2, 3, 4, 5] rfl)
    · have hG := zf hG hc
      refine lv_iload_n hx hb d_M_lead_9 rfl (lv_at hl 1 rfl) ?_
      refine lv_iconst (v := (4 : Int32)) hx hb d_M_lead_10 (by decide) ?_
      refine lv_icmp_ne (tgt := 71) hx hb d_M_lead_11 (by decide) (fun hc => ?_) (fun hc => ?_)
      · have hG := zf hG hc
        exact k_M_lead_71 X hA zz N sM v1 v2 v3 v4 v5 _ hG adM adM_tape adM_frameAt adM_field adM_draft adM_given adM_low adM_high adM_packet adM_known _ _ hP hD hS _ (lv_sub hl [0, 1, 2, 3, 4, 5] rfl)
      · have hG := zt hG hc
        exact k_M_lead_14 X hA zz N sM v1 v2 v3 v4 v5 _ hG adM adM_tape adM_frameAt adM_field adM_draft adM_given adM_low adM_high adM_packet adM_known _ _ hP hD hS _ (lv_sub hl [0, 1, 2, 3, 4, 5] rfl)
set_option maxRecDepth 100000 in
set_option maxHeartbeats 4000000 in
theorem c_M_lead (l : Launch) (dC : Nat → ClassId) (dI : Nat → Nat → Nat) (cB cI cL : ClassId) (sz : Nat) (adM adM_tape adM_frameAt adM_field adM_draft adM_given adM_low adM_high adM_packet adM_known : Nat) (N : Nat) (sM : zM) (v1 : Int32) (v2 : Int32) (v3 : Int32) (v4 : Int32) (v5 : Int32) (a : Int32 × zM) (hG : g_M_lead N sM v1 v2 v3 v4 v5 = some a) : Met l y_M_lead (zw y_M_lead b_M_lead 10 (some .int)) ({ frames := 2, cells := 0, slots := 0, locals := 49 }) (va_Pc [.ref adM, .int v1, .int v2, .int v3, .int v4, .int v5] (zpre dC dI cB cI cL sz (zwM adM adM_tape adM_frameAt adM_field adM_draft adM_given adM_low adM_high adM_packet adM_known cB cI cL sM))) (q_M_lead dC dI cB cI cL (va_A (zwM adM adM_tape adM_frameAt adM_field adM_draft adM_given adM_low adM_high adM_packet adM_known cB cI cL sM) sz) adM adM_tape adM_frameAt adM_field adM_draft adM_given adM_low adM_high adM_packet adM_known a) 0 0 (va_A (zwM adM adM_tape adM_frameAt adM_field adM_draft adM_given adM_low adM_high adM_packet adM_known cB cI cL sM) sz) := by
  refine Met.ofW (cc := b_M_lead) (maxL := 10) (ret := (some .int)) (by decide) rfl ?_
  intro p e s m args below meth c s₁ B hml hv
  obtain ⟨rfl, hsz, hP, zz, hD0⟩ := hv
  subst hsz
  have X := zx_of (F := 2) (L := 49) B hml (Nat.le_refl _) (Nat.le_refl _)
  have hD := hD0.self (sz := s.heap.size)
  have hA : ∀ q : Nat, s.heap.size ≤ q → va_A (zwM adM adM_tape adM_frameAt adM_field adM_draft adM_given adM_low adM_high adM_packet adM_known cB cI cL sM) s.heap.size q := fun q h => Or.inr h
  have hl := lv_entry ([.ref adM, .int v1, .int v2, .int v3, .int v4, .int v5]) (n := 10) (Nat.le_of_ble_eq_true rfl)
  rw [lg_entry_eq]
  generalize (lg_sl ([.ref adM, .int v1, .int v2, .int v3, .int v4, .int v5]) ++ List.replicate (10 - (lg_sl ([.ref adM, .int v1, .int v2, .int v3, .int v4, .int v5])).length) Slot.unset).toArray = ls at hl ⊢
  exact k_M_lead_0 X hA zz N sM v1 v2 v3 v4 v5 a hG adM adM_tape adM_frameAt adM_field adM_draft adM_given adM_low adM_high adM_packet adM_known _ _ hP hD va_S.rf ls hl
noncomputable def g_M_cut_44_b (N : Nat) (kr : zM → Int64 → Int32 → Option (Int32 × zM)) (sM : zM) (v5 : Int64) (v7 : Int32) : Option (Int32 × zM) := if (5 : Int32) ≤ v7 then (some ((0 : Int32), sM)) else (if (0 : Int32) < (lg_cmp v5 ((1 : Int64) <<< ((((8 : Int32) * v7) - (1 : Int32)).toInt64 &&& 63))) then (kr sM v5 (v7 + 1)) else (some (v7, sM)))
noncomputable def g_M_cut_44 (N : Nat) : Nat → zM → Int64 → Int32 → Option (Int32 × zM)
  | 0 => fun _ _ _ => none
  | k + 1 => fun sM v5 v7 => g_M_cut_44_b N (g_M_cut_44 N k) sM v5 v7
noncomputable def g_M_cut_c28 (N : Nat) (v1 : Int64) (v3 : Int64) (sM_28 : zM) (r_28 : Int32) : Option (Int32 × zM) := if r_28 = (0 : Int32) then (g_M_cut_44 N N sM_28 (v1 - v3) (1 : Int32)) else (some ((0 : Int32), sM_28))
noncomputable def g_M_cut_27 (N : Nat) (sM : zM) (v1 : Int64) (v3 : Int64) (s0 : Int32) : Option (Int32 × zM) := (g_M_fails sM s0 (1 : Int32)).bind (fun a => g_M_cut_c28 N v1 v3 a.2 a.1)
noncomputable def g_M_cut_22 (N : Nat) (sM : zM) (v1 : Int64) (v3 : Int64) : Option (Int32 × zM) := g_M_cut_27 N sM v1 v3 (1 : Int32)
noncomputable def g_M_cut_c2 (N : Nat) (sM : zM) (v1 : Int64) (v3 : Int64) (r_2 : Int32) : Option (Int32 × zM) := if r_2 = (0 : Int32) then (g_M_cut_22 N sM v1 v3) else (if (lg_cmp v3 (-1 : Int64)) < (0 : Int32) then (g_M_cut_22 N sM v1 v3) else (if (0 : Int32) < (lg_cmp v1 v3) then (g_M_cut_27 N sM v1 v3 (0 : Int32)) else (g_M_cut_22 N sM v1 v3)))
noncomputable def g_M_cut (N : Nat) (sM : zM) (v1 : Int64) (v3 : Int64) : Option (Int32 × zM) := (g_M_isNumber v1).bind (fun a => g_M_cut_c2 N sM v1 v3 a)
def q_M_cut (dC : Nat → ClassId) (dI : Nat → Nat → Nat) (cB cI cL : ClassId) (A : Nat → Prop) (adM : Nat) (adM_tape : Nat) (adM_frameAt : Nat) (adM_field : Nat) (adM_draft : Nat) (adM_given : Nat) (adM_low : Nat) (adM_high : Nat) (adM_packet : Nat) (adM_known : Nat) (a : Int32 × zM) : Array Value → State → Outcome → State → Prop := va_Qi (fun (r : Int32) (u : zM) => (r, u) = a) (fun u U => va_P (dC, dI) zcl (zwM adM adM_tape adM_frameAt adM_field adM_draft adM_given adM_low adM_high adM_packet adM_known cB cI cL u) U.heap ∧ va_D A (zwM adM adM_tape adM_frameAt adM_field adM_draft adM_given adM_low adM_high adM_packet adM_known cB cI cL u)) A
set_option maxRecDepth 100000 in
set_option maxHeartbeats 4000000 in
theorem k_M_cut_44_b {p : Program} {l : Launch} {e : Env} {R : Room} {s : State} {m : MethodId} {args : Array Value} {below : List Frame} {meth : Method} {c : Code} {dC : Nat → ClassId} {dI : Nat → Nat → Nat} {cB cI cL : ClassId} {A : Nat → Prop} (kr : zM → Int64 → Int32 → Option (Int32 × zM)) (hrec : ∀ (sM : zM) (v5 : Int64) (v7 : Int32) (a : Int32 × zM), kr sM v5 v7 = some a → ∀ (adM adM_tape adM_frameAt adM_field adM_draft adM_given adM_low adM_high adM_packet adM_known : Nat) (H : Heap) (locs : List Loc), va_P (dC, dI) zcl (zwM adM adM_tape adM_frameAt adM_field adM_draft adM_given adM_low adM_high adM_packet adM_known cB cI cL sM) H → va_D A (zwM adM adM_tape adM_frameAt adM_field adM_draft adM_given adM_low adM_high adM_packet adM_known cB cI cL sM) → va_S A s.heap H locs → ∀ ls : Array Slot, lv_has ls 8 [(5, .long v5), (7, .int v7)] → W p l e R s m args below meth c H locs 0 0 (MQ below (q_M_cut dC dI cB cI cL A adM adM_tape adM_frameAt adM_field adM_draft adM_given adM_low adM_high adM_packet adM_known a) args s 0 0 A) (F0 m 44 ls [])) (X : zx p s m args meth c R R_M b_M_cut (some .int) 8 2 46) (hA : ∀ q, s.heap.size ≤ q → A q) (zz : zk dC dI cB cI cL A s)  (N : Nat) (sM : zM) (v5 : Int64) (v7 : Int32) (a : Int32 × zM) (hG : g_M_cut_44_b N kr sM v5 v7 = some a) (adM adM_tape adM_frameAt adM_field adM_draft adM_given adM_low adM_high adM_packet adM_known : Nat) (H : Heap) (locs : List Loc) (hP : va_P (dC, dI) zcl (zwM adM adM_tape adM_frameAt adM_field adM_draft adM_given adM_low adM_high adM_packet adM_known cB cI cL sM) H) (hD : va_D A (zwM adM adM_tape adM_frameAt adM_field adM_draft adM_given adM_low adM_high adM_packet adM_known cB cI cL sM)) (hS : va_S A s.heap H locs) (ls : Array Slot) (hl : lv_has ls 8 [(5, .long v5), (7, .int v7)]) : W p l e R s m args below meth c H locs 0 0 (MQ below (q_M_cut dC dI cB cI cL A adM adM_tape adM_frameAt adM_field adM_draft adM_given adM_low adM_high adM_packet adM_known a) args s 0 0 A) (F0 m 44 ls []) := by
  obtain ⟨hx, hb, hr, hml, hown, hts, hlocks, hRf, hRl⟩ := id X
  unfold g_M_cut_44_b at hG
  refine lv_iload hx hb d_M_cut_44 (lv_at hl 1 rfl) ?_
  refine lv_iconst (v := (5 : Int32)) hx hb d_M_cut_46 (by decide) ?_
  refine lv_icmp_ge (tgt := 74) hx hb d_M_cut_47 (by decide) (fun hc => ?_) (fun hc => ?_)
  · have hG := zt hG hc
    refine lv_iconst (v := (0 : Int32)) hx hb d_M_cut_74 (by decide) ?_
    exact W.iret (v := (0 : Int32)) hx hb hr (fun t9 ht9 hW9 => ⟨⟨(0 : Int32), (sM), rfl, Option.some.inj hG, by rw [ht9]; exact hP, hD⟩, hS.F ht9⟩) hS.2.2 d_M_cut_75
  · have hG := zf hG hc
    refine lv_lload hx hb d_M_cut_50 (lv_at hl 0 rfl) ?_
    refine lv_lconst (v := (1 : Int64)) hx hb d_M_cut_52 (by decide) ?_
    refine lv_bipush (v := (8 : Int32)) hx hb d_M_cut_53 (by decide) ?_
    refine lv_iload hx hb d_M_cut_55 (lv_at hl 1 rfl) ?_
    refine lv_imul hx hb d_M_cut_57 ?_
    refine lv_iconst (v := (1 : Int32)) hx hb d_M_cut_58 (by decide) ?_
    refine lv_isub hx hb d_M_cut_59 ?_
    refine lv_lshl hx hb d_M_cut_60 rfl ?_
    refine W.lcmp hx hb d_M_cut_61 ?_
    refine lv_if_gt (tgt := 68) hx hb d_M_cut_62 (by decide) (fun hc => ?_) (fun hc => ?_)
    · have hG := zt hG hc
      refine lv_iinc (v := v7 + 1) (lv' := [(7, .int (v7 + 1)), (5, .long v5)]) hx hb d_M_cut_68 hl (k := 1) rfl rfl (by decide) rfl (fun ls hl => ?_)
      refine lv_goto (tgt := 44) hx hb d_M_cut_71 (by decide) ?_
      exact hrec sM v5 (v7 + 1) _ hG adM adM_tape adM_frameAt adM_field adM_draft adM_given adM_low adM_high adM_packet adM_known _ _ hP hD hS _ (lv_sub hl [1, 0] rfl)
    · have hG := zf hG hc
      refine lv_iload hx hb d_M_cut_65 (lv_at hl 1 rfl) ?_
      exact W.iret (v := v7) hx hb hr (fun t9 ht9 hW9 => ⟨⟨v7, (sM), rfl, Option.some.inj hG, by rw [ht9]; exact hP, hD⟩, hS.F ht9⟩) hS.2.2 d_M_cut_67
theorem k_M_cut_44 {p : Program} {l : Launch} {e : Env} {R : Room} {s : State} {m : MethodId} {args : Array Value} {below : List Frame} {meth : Method} {c : Code} {dC : Nat → ClassId} {dI : Nat → Nat → Nat} {cB cI cL : ClassId} {A : Nat → Prop} (X : zx p s m args meth c R R_M b_M_cut (some .int) 8 2 46) (hA : ∀ q, s.heap.size ≤ q → A q) (zz : zk dC dI cB cI cL A s)  (N : Nat) : ∀ (k : Nat) (sM : zM) (v5 : Int64) (v7 : Int32) (a : Int32 × zM) (hG : g_M_cut_44 N k sM v5 v7 = some a) (adM adM_tape adM_frameAt adM_field adM_draft adM_given adM_low adM_high adM_packet adM_known : Nat) (H : Heap) (locs : List Loc) (hP : va_P (dC, dI) zcl (zwM adM adM_tape adM_frameAt adM_field adM_draft adM_given adM_low adM_high adM_packet adM_known cB cI cL sM) H) (hD : va_D A (zwM adM adM_tape adM_frameAt adM_field adM_draft adM_given adM_low adM_high adM_packet adM_known cB cI cL sM)) (hS : va_S A s.heap H locs) (ls : Array Slot) (hl : lv_has ls 8 [(5, .long v5), (7, .int v7)]), W p l e R s m args below meth c H locs 0 0 (MQ below (q_M_cut dC dI cB cI cL A adM adM_tape adM_frameAt adM_field adM_draft adM_given adM_low adM_high adM_packet adM_known a) args s 0 0 A) (F0 m 44 ls []) := by
  intro k
  induction k with
  | zero => intro sM v5 v7 a hG; exact absurd hG (by unfold g_M_cut_44; simp)
  | succ k ih => intro sM v5 v7 a hG adM adM_tape adM_frameAt adM_field adM_draft adM_given adM_low adM_high adM_packet adM_known H locs hP hD hS ls hl; exact k_M_cut_44_b _ ih X hA zz N sM v5 v7 a hG adM adM_tape adM_frameAt adM_field adM_draft adM_given adM_low adM_high adM_packet adM_known H locs hP hD hS ls hl
set_option maxRecDepth 100000 in
set_option maxHeartbeats 4000000 in
theorem k_M_cut_27 {p : Program} {l : Launch} {e : Env} {R : Room} {s : State} {m : MethodId} {args : Array Value} {below : List Frame} {meth : Method} {c : Code} {dC : Nat → ClassId} {dI : Nat → Nat → Nat} {cB cI cL : ClassId} {A : Nat → Prop} (X : zx p s m args meth c R R_M b_M_cut (some .int) 8 2 46) (hA : ∀ q, s.heap.size ≤ q → A q) (zz : zk dC dI cB cI cL A s)  (N : Nat) (sM : zM) (v1 : Int64) (v3 : Int64) (s0 : Int32) (a : Int32 × zM) (hG : g_M_cut_27 N sM v1 v3 s0 = some a) (adM adM_tape adM_frameAt adM_field adM_draft adM_given adM_low adM_high adM_packet adM_known : Nat) (H : Heap) (locs : List Loc) (hP : va_P (dC, dI) zcl (zwM adM adM_tape adM_frameAt adM_field adM_draft adM_given adM_low adM_high adM_packet adM_known cB cI cL sM) H) (hD : va_D A (zwM adM adM_tape adM_frameAt adM_field adM_draft adM_given adM_low adM_high adM_packet adM_known cB cI cL sM)) (hS : va_S A s.heap H locs) (ls : Array Slot) (hl : lv_has ls 8 [(1, .long v1), (3, .long v3)]) : W p l e R s m args below meth c H locs 0 0 (MQ below (q_M_cut dC dI cB cI cL A adM adM_tape adM_frameAt adM_field adM_draft adM_given adM_low adM_high adM_packet adM_known a) args s 0 0 A) (F0 m 27 ls [.int s0, .ref adM]) := by
  obtain ⟨hx, hb, hr, hml, hown, hts, hlocks, hRf, hRl⟩ := id X
  unfold g_M_cut_27 at hG
  refine lv_iconst (v := (1 : Int32)) hx hb d_M_cut_27 (by decide) ?_
  obtain ⟨a_28, hx_28, hG⟩ := zb hG
  have hr_28 := zrunV (p := p) (e := e) (below := below) (meth := meth) (As := [.int s0, .int (1 : Int32)]) (rest := []) (st0 := [.int (1 : Int32), .int s0, .ref adM]) (cells := 0) (slots := 0) X zz hP hD hS hA [0, 1, 2, 3, 4, 5, 6, 7, 8, 9] (by decide) rfl (c_M_fails l dC dI cB cI cL H.size adM adM_tape adM_frameAt adM_field adM_draft adM_given adM_low adM_high adM_packet adM_known sM s0 (1 : Int32) _ hx_28) zy_M_fails zv_M_fails (hts (.methodLink R_M 62 y_M_fails) zin_M_62) hl rfl rfl d_M_cut_28 (lv_room (Nat.le_of_ble_eq_true rfl)) rfl rfl ⟨Nat.le_trans (Nat.le_of_ble_eq_true rfl) hRf, Nat.le_trans (Nat.le_of_ble_eq_true rfl) hRl⟩ ⟨Nat.zero_le _, Nat.zero_le _⟩ 0 8 rfl rfl
  refine zcalli (wr := ([] : va_W)) hr_28 hP hD hS hA [0, 1, 2, 3, 4, 5, 6, 7, 8, 9] [] rfl rfl (by decide) (by decide) (fun r_28 u_28 H locs hw_28 hP hD hS => ?_)
  obtain ⟨sM_28, rfl⟩ : ∃ z, z = u_28 := ⟨_, rfl⟩
  subst hw_28
  have hP : va_P (dC, dI) zcl (zwM adM adM_tape adM_frameAt adM_field adM_draft adM_given adM_low adM_high adM_packet adM_known cB cI cL sM_28) H := hP
  have hD : va_D A (zwM adM adM_tape adM_frameAt adM_field adM_draft adM_given adM_low adM_high adM_packet adM_known cB cI cL sM_28) := hD
  have hG : g_M_cut_c28 N v1 v3 sM_28 r_28 = some a := hG
  unfold g_M_cut_c28 at hG
  refine lv_if_eq (tgt := 36) hx hb d_M_cut_31 (by decide) (fun hc => ?_) (fun hc => ?_)
  · have hG := zt hG hc
    refine lv_lload_n hx hb d_M_cut_36 rfl (lv_at hl 0 rfl) ?_
    refine lv_lload_n hx hb d_M_cut_37 rfl (lv_at hl 1 rfl) ?_
    refine lv_lsub hx hb d_M_cut_38 ?_
    refine lv_lstore (lv' := [(5, .long (v1 - v3)), (1, .long v1), (3, .long v3)]) hx hb d_M_cut_39 hl (by decide) rfl (fun ls hl => ?_)
    refine lv_iconst (v := (1 : Int32)) hx hb d_M_cut_41 (by decide) ?_
    refine lv_istore (lv' := [(7, .int (1 : Int32)), (5, .long (v1 - v3)), (1, .long v1), (3, .long v3)]) hx hb d_M_cut_42 hl (by decide) rfl (fun ls hl => ?_)
    exact k_M_cut_44 X hA zz N N sM_28 (v1 - v3) (1 : Int32) _ hG adM adM_tape adM_frameAt adM_field adM_draft adM_given adM_low adM_high adM_packet adM_known _ _ hP hD hS _ (lv_sub hl [1, 0] rfl)
  · have hG := zf hG hc
    refine lv_iconst (v := (0 : Int32)) hx hb d_M_cut_34 (by decide) ?_
    exact W.iret (v := (0 : Int32)) hx hb hr (fun t9 ht9 hW9 => ⟨⟨(0 : Int32), (sM_28), rfl, Option.some.inj hG, by rw [ht9]; exact hP, hD⟩, hS.F ht9⟩) hS.2.2 d_M_cut_35
set_option maxRecDepth 100000 in
set_option maxHeartbeats 4000000 in
theorem k_M_cut_22 {p : Program} {l : Launch} {e : Env} {R : Room} {s : State} {m : MethodId} {args : Array Value} {below : List Frame} {meth : Method} {c : Code} {dC : Nat → ClassId} {dI : Nat → Nat → Nat} {cB cI cL : ClassId} {A : Nat → Prop} (X : zx p s m args meth c R R_M b_M_cut (some .int) 8 2 46) (hA : ∀ q, s.heap.size ≤ q → A q) (zz : zk dC dI cB cI cL A s)  (N : Nat) (sM : zM) (v1 : Int64) (v3 : Int64) (a : Int32 × zM) (hG : g_M_cut_22 N sM v1 v3 = some a) (adM adM_tape adM_frameAt adM_field adM_draft adM_given adM_low adM_high adM_packet adM_known : Nat) (H : Heap) (locs : List Loc) (hP : va_P (dC, dI) zcl (zwM adM adM_tape adM_frameAt adM_field adM_draft adM_given adM_low adM_high adM_packet adM_known cB cI cL sM) H) (hD : va_D A (zwM adM adM_tape adM_frameAt adM_field adM_draft adM_given adM_low adM_high adM_packet adM_known cB cI cL sM)) (hS : va_S A s.heap H locs) (ls : Array Slot) (hl : lv_has ls 8 [(1, .long v1), (3, .long v3)]) : W p l e R s m args below meth c H locs 0 0 (MQ below (q_M_cut dC dI cB cI cL A adM adM_tape adM_frameAt adM_field adM_draft adM_given adM_low adM_high adM_packet adM_known a) args s 0 0 A) (F0 m 22 ls [.ref adM]) := by
  obtain ⟨hx, hb, hr, hml, hown, hts, hlocks, hRf, hRl⟩ := id X
  unfold g_M_cut_22 at hG
  refine lv_iconst (v := (1 : Int32)) hx hb d_M_cut_22 (by decide) ?_
  refine lv_goto (tgt := 27) hx hb d_M_cut_23 (by decide) ?_
  exact k_M_cut_27 X hA zz N sM v1 v3 (1 : Int32) _ hG adM adM_tape adM_frameAt adM_field adM_draft adM_given adM_low adM_high adM_packet adM_known _ _ hP hD hS _ (lv_sub hl [0, 1] rfl)
set_option maxRecDepth 100000 in
set_option maxHeartbeats 4000000 in
theorem k_M_cut_0 {p : Program} {l : Launch} {e : Env} {R : Room} {s : State} {m : MethodId} {args : Array Value} {below : List Frame} {meth : Method} {c : Code} {dC : Nat → ClassId} {dI : Nat → Nat → Nat} {cB cI cL : ClassId} {A : Nat → Prop} (X : zx p s m args meth c R R_M b_M_cut (some .int) 8 2 46) (hA : ∀ q, s.heap.size ≤ q → A q) (zz : zk dC dI cB cI cL A s)  (N : Nat) (sM : zM) (v1 : Int64) (v3 : Int64) (a : Int32 × zM) (hG : g_M_cut N sM v1 v3 = some a) (adM adM_tape adM_frameAt adM_field adM_draft adM_given adM_low adM_high adM_packet adM_known : Nat) (H : Heap) (locs : List Loc) (hP : va_P (dC, dI) zcl (zwM adM adM_tape adM_frameAt adM_field adM_draft adM_given adM_low adM_high adM_packet adM_known cB cI cL sM) H) (hD : va_D A (zwM adM adM_tape adM_frameAt adM_field adM_draft adM_given adM_low adM_high adM_packet adM_known cB cI cL sM)) (hS : va_S A s.heap H locs) (ls : Array Slot) (hl : lv_has ls 8 [(0, .ref adM), (1, .long v1), (3, .long v3)]) : W p l e R s m args below meth c H locs 0 0 (MQ below (q_M_cut dC dI cB cI cL A adM adM_tape adM_frameAt adM_field adM_draft adM_given adM_low adM_high adM_packet adM_known a) args s 0 0 A) (F0 m 0 ls []) := by
  obtain ⟨hx, hb, hr, hml, hown, hts, hlocks, hRf, hRl⟩ := id X
  unfold g_M_cut at hG
  refine lv_aload_n hx hb d_M_cut_0 rfl (lv_at hl 0 rfl) ?_
  refine lv_lload_n hx hb d_M_cut_1 rfl (lv_at hl 1 rfl) ?_
  obtain ⟨a_2, hx_2, hG⟩ := zb hG
  have hr_2 := zrunS (p := p) (e := e) (below := below) (meth := meth) (As := [.long v1]) (rest := [.ref adM]) (st0 := [.long v1, .ref adM]) (cells := 0) (slots := 0) X zz hP hD hS hA [] (by decide) rfl (c_M_isNumber l dC dI cB cI cL H.size v1 _ hx_2) zy_M_isNumber zv_M_isNumber (hts (.methodLink R_M 80 y_M_isNumber) zin_M_80) hl rfl rfl d_M_cut_2 (lv_room (Nat.le_of_ble_eq_true rfl)) rfl rfl ⟨Nat.le_trans (Nat.le_of_ble_eq_true rfl) hRf, Nat.le_trans (Nat.le_of_ble_eq_true rfl) hRl⟩ ⟨Nat.zero_le _, Nat.zero_le _⟩
  refine zcalli (wr := (zwM adM adM_tape adM_frameAt adM_field adM_draft adM_given adM_low adM_high adM_packet adM_known cB cI cL sM)) hr_2 hP hD hS hA [] [0, 1, 2, 3, 4, 5, 6, 7, 8, 9] rfl rfl (by decide) (by decide) (fun r_2 u_2 H locs hw_2 hP hD hS => ?_)
  subst hw_2
  have hP : va_P (dC, dI) zcl (zwM adM adM_tape adM_frameAt adM_field adM_draft adM_given adM_low adM_high adM_packet adM_known cB cI cL sM) H := hP
  have hD : va_D A (zwM adM adM_tape adM_frameAt adM_field adM_draft adM_given adM_low adM_high adM_packet adM_known cB cI cL sM) := hD
  have hG : g_M_cut_c2 N sM v1 v3 r_2 = some a := hG
  unfold g_M_cut_c2 at hG
  refine lv_if_eq (tgt := 22) hx hb d_M_cut_5 (by decide) (fun hc => ?_) (fun hc => ?_)
  · have hG := zt hG hc
    exact k_M_cut_22 X hA zz N sM v1 v3 _ hG adM adM_tape adM_frameAt adM_field adM_draft adM_given adM_low adM_high adM_packet adM_known _ _ hP hD hS _ (lv_sub hl [1, 2] rfl)
  · have hG := zf hG hc
    refine lv_lload_n hx hb d_M_cut_8 rfl (lv_at hl 2 rfl) ?_
    refine lv_ldc2 (v := (-1 : Int64)) hx hb hown (hts (.constantLong R_M 132 (-1 : Int64)) zin_M_132) d_M_cut_9 ?_
    refine W.lcmp hx hb d_M_cut_12 ?_
    refine lv_if_lt (tgt := 22) hx hb d_M_cut_13 (by decide) (fun hc => ?_) (fun hc => ?_)
    · have hG := zt hG hc
      exact k_M_cut_22 X hA zz N sM v1 v3 _ hG adM adM_tape adM_frameAt adM_field adM_draft adM_given adM_low adM_high adM_packet adM_known _ _ hP hD hS _ (lv_sub hl [1, 2] rfl)
    · have hG := zf hG hc
      refine lv_lload_n hx hb d_M_cut_16 rfl (lv_at hl 1 rfl) ?_
      refine lv_lload_n hx hb d_M_cut_17 rfl (lv_at hl 2 rfl) ?_
      refine W.lcmp hx hb d_M_cut_18 ?_
      refine lv_if_gt (tgt := 26) hx hb d_M_cut_19 (by decide) (fun hc => ?_) (fun hc => ?_)
      · have hG := zt hG hc
        refine lv_iconst (v := (0 : Int32)) hx hb d_M_cut_26 (by decide) ?_
        exact k_M_cut_27 X hA zz N sM v1 v3 (0 : Int32) _ hG adM adM_tape adM_frameAt adM_field adM_draft adM_given adM_low adM_high adM_packet adM_known _ _ hP hD hS _ (lv_sub hl [1, 2] rfl)
      · have hG := zf hG hc
        exact k_M_cut_22 X hA zz N sM v1 v3 _ hG adM adM_tape adM_frameAt adM_field adM_draft adM_given adM_low adM_high adM_packet adM_known _ _ hP hD hS _ (lv_sub hl [1, 2] rfl)
set_option maxRecDepth 100000 in
set_option maxHeartbeats 4000000 in
theorem c_M_cut (l : Launch) (dC : Nat → ClassId) (dI : Nat → Nat → Nat) (cB cI cL : ClassId) (sz : Nat) (adM adM_tape adM_frameAt adM_field adM_draft adM_given adM_low adM_high adM_packet adM_known : Nat) (N : Nat) (sM : zM) (v1 : Int64) (v3 : Int64) (a : Int32 × zM) (hG : g_M_cut N sM v1 v3 = some a) : Met l y_M_cut (zw y_M_cut b_M_cut 8 (some .int)) ({ frames := 2, cells := 0, slots := 0, locals := 46 }) (va_Pc [.ref adM, .long v1, .long v3] (zpre dC dI cB cI cL sz (zwM adM adM_tape adM_frameAt adM_field adM_draft adM_given adM_low adM_high adM_packet adM_known cB cI cL sM))) (q_M_cut dC dI cB cI cL (va_A (zwM adM adM_tape adM_frameAt adM_field adM_draft adM_given adM_low adM_high adM_packet adM_known cB cI cL sM) sz) adM adM_tape adM_frameAt adM_field adM_draft adM_given adM_low adM_high adM_packet adM_known a) 0 0 (va_A (zwM adM adM_tape adM_frameAt adM_field adM_draft adM_given adM_low adM_high adM_packet adM_known cB cI cL sM) sz) := by
  refine Met.ofW (cc := b_M_cut) (maxL := 8) (ret := (some .int)) (by decide) rfl ?_
  intro p e s m args below meth c s₁ B hml hv
  obtain ⟨rfl, hsz, hP, zz, hD0⟩ := hv
  subst hsz
  have X := zx_of (F := 2) (L := 46) B hml (Nat.le_refl _) (Nat.le_refl _)
  have hD := hD0.self (sz := s.heap.size)
  have hA : ∀ q : Nat, s.heap.size ≤ q → va_A (zwM adM adM_tape adM_frameAt adM_field adM_draft adM_given adM_low adM_high adM_packet adM_known cB cI cL sM) s.heap.size q := fun q h => Or.inr h
  have hl := lv_entry ([.ref adM, .long v1, .long v3]) (n := 8) (Nat.le_of_ble_eq_true rfl)
  rw [lg_entry_eq]
  generalize (lg_sl ([.ref adM, .long v1, .long v3]) ++ List.replicate (8 - (lg_sl ([.ref adM, .long v1, .long v3])).length) Slot.unset).toArray = ls at hl ⊢
  exact k_M_cut_0 X hA zz N sM v1 v3 a hG adM adM_tape adM_frameAt adM_field adM_draft adM_given adM_low adM_high adM_packet adM_known _ _ hP hD va_S.rf ls hl
noncomputable def g_M_grow_175 (N : Nat) (kr : zM → Int64 → Int64 → Int64 → Int64 → Int64 → Int32 → Option (Int64 × zM)) (sM : zM) (v3 : Int64) (v7 : Int64) (v9 : Int64) (v11 : Int64) (v13 : Int64) (v15 : Int32) : Option (Int64 × zM) := kr sM v3 v7 v9 v11 v13 (v15 + 1)
noncomputable def g_M_grow_167 (N : Nat) (kr : zM → Int64 → Int64 → Int64 → Int64 → Int64 → Int32 → Option (Int64 × zM)) (sM : zM) (v3 : Int64) (v7 : Int64) (v9 : Int64) (v15 : Int32) (v16 : Int64) (v18 : Int64) : Option (Int64 × zM) := g_M_grow_175 N kr sM v3 v7 v9 v16 v18 v15
noncomputable def g_M_grow_150 (N : Nat) (kr : zM → Int64 → Int64 → Int64 → Int64 → Int64 → Int32 → Option (Int64 × zM)) (sM : zM) (v3 : Int64) (v7 : Int64) (v9 : Int64) (v11 : Int64) (v13 : Int64) (v15 : Int32) (v16 : Int64) (s0 : Int64) : Option (Int64 × zM) := if (lg_cmp v11 (0 : Int64)) < (0 : Int32) then (g_M_grow_167 N kr sM v3 v7 v9 v15 v16 s0) else (if (0 : Int32) < (lg_cmp s0 v13) then (g_M_grow_175 N kr sM v3 v7 v9 v11 v13 v15) else (g_M_grow_167 N kr sM v3 v7 v9 v15 v16 s0))
noncomputable def g_M_grow_c120 (N : Nat) (kr : zM → Int64 → Int64 → Int64 → Int64 → Int64 → Int32 → Option (Int64 × zM)) (sM : zM) (v3 : Int64) (v7 : Int64) (v9 : Int64) (v11 : Int64) (v13 : Int64) (v15 : Int32) (r_120 : Int32) : Option (Int64 × zM) := if r_120 = (0 : Int32) then (g_M_grow_175 N kr sM v3 v7 v9 v11 v13 v15) else (if (0 : Int32) ≤ (lg_cmp ((((v9 / v7) + v15.toInt64) * v7) + v3) v9) then (g_M_grow_150 N kr sM v3 v7 v9 v11 v13 v15 ((((v9 / v7) + v15.toInt64) * v7) + v3) (((((v9 / v7) + v15.toInt64) * v7) + v3) - v9)) else (g_M_grow_150 N kr sM v3 v7 v9 v11 v13 v15 ((((v9 / v7) + v15.toInt64) * v7) + v3) (v9 - ((((v9 / v7) + v15.toInt64) * v7) + v3))))
noncomputable def g_M_grow_96_b (N : Nat) (kr : zM → Int64 → Int64 → Int64 → Int64 → Int64 → Int32 → Option (Int64 × zM)) (sM : zM) (v3 : Int64) (v7 : Int64) (v9 : Int64) (v11 : Int64) (v13 : Int64) (v15 : Int32) : Option (Int64 × zM) := if (2 : Int32) ≤ v15 then (some (v11, sM)) else (zg (¬ v7 = 0) ((g_M_isNumber ((((v9 / v7) + v15.toInt64) * v7) + v3)).bind (fun a => g_M_grow_c120 N kr sM v3 v7 v9 v11 v13 v15 a)))
noncomputable def g_M_grow_96 (N : Nat) : Nat → zM → Int64 → Int64 → Int64 → Int64 → Int64 → Int32 → Option (Int64 × zM)
  | 0 => fun _ _ _ _ _ _ _ => none
  | k + 1 => fun sM v3 v7 v9 v11 v13 v15 => g_M_grow_96_b N (g_M_grow_96 N k) sM v3 v7 v9 v11 v13 v15
noncomputable def g_M_grow_c63 (N : Nat) (v1 : Int64) (v3 : Int64) (v5 : Int32) (sM_63 : zM) (r_63 : Int32) : Option (Int64 × zM) := if r_63 = (0 : Int32) then (g_M_grow_96 N N sM_63 v3 ((1 : Int64) <<< (((8 : Int32) * v5).toInt64 &&& 63)) (v1 + (1 : Int64)) (-1 : Int64) (0 : Int64) (-1 : Int32)) else (some ((0 : Int64), sM_63))
noncomputable def g_M_grow_62 (N : Nat) (sM : zM) (v1 : Int64) (v3 : Int64) (v5 : Int32) (s0 : Int32) : Option (Int64 × zM) := (g_M_fails sM s0 (1 : Int32)).bind (fun a => g_M_grow_c63 N v1 v3 v5 a.2 a.1)
noncomputable def g_M_grow_57 (N : Nat) (sM : zM) (v1 : Int64) (v3 : Int64) (v5 : Int32) : Option (Int64 × zM) := g_M_grow_62 N sM v1 v3 v5 (1 : Int32)
noncomputable def g_M_grow_31 (N : Nat) (sM : zM) (v1 : Int64) (v3 : Int64) (v5 : Int32) (s0 : Int32) : Option (Int64 × zM) := if s0 = (0 : Int32) then (if (lg_cmp v3 (0 : Int64)) < (0 : Int32) then (g_M_grow_57 N sM v1 v3 v5) else (if (lg_cmp v3 ((1 : Int64) <<< (((8 : Int32) * v5).toInt64 &&& 63))) < (0 : Int32) then (g_M_grow_62 N sM v1 v3 v5 (0 : Int32)) else (g_M_grow_57 N sM v1 v3 v5))) else (g_M_grow_57 N sM v1 v3 v5)
noncomputable def g_M_grow_26 (N : Nat) (sM : zM) (v1 : Int64) (v3 : Int64) (v5 : Int32) : Option (Int64 × zM) := g_M_grow_31 N sM v1 v3 v5 (1 : Int32)
noncomputable def g_M_grow_c20 (N : Nat) (sM : zM) (v1 : Int64) (v3 : Int64) (v5 : Int32) (r_20 : Int32) : Option (Int64 × zM) := if r_20 = (0 : Int32) then (g_M_grow_26 N sM v1 v3 v5) else (g_M_grow_31 N sM v1 v3 v5 (0 : Int32))
noncomputable def g_M_grow_c7 (N : Nat) (sM : zM) (v1 : Int64) (v3 : Int64) (v5 : Int32) (r_7 : Int32) : Option (Int64 × zM) := if r_7 = (0 : Int32) then (g_M_grow_26 N sM v1 v3 v5) else ((g_M_within v5.toInt64 (1 : Int64) (4 : Int64)).bind (fun a => g_M_grow_c20 N sM v1 v3 v5 a))
noncomputable def g_M_grow (N : Nat) (sM : zM) (v1 : Int64) (v3 : Int64) (v5 : Int32) : Option (Int64 × zM) := (g_M_within v1 (-1 : Int64) (4611686018427387903 : Int64)).bind (fun a => g_M_grow_c7 N sM v1 v3 v5 a)
def q_M_grow (dC : Nat → ClassId) (dI : Nat → Nat → Nat) (cB cI cL : ClassId) (A : Nat → Prop) (adM : Nat) (adM_tape : Nat) (adM_frameAt : Nat) (adM_field : Nat) (adM_draft : Nat) (adM_given : Nat) (adM_low : Nat) (adM_high : Nat) (adM_packet : Nat) (adM_known : Nat) (a : Int64 × zM) : Array Value → State → Outcome → State → Prop := va_Ql (fun (r : Int64) (u : zM) => (r, u) = a) (fun u U => va_P (dC, dI) zcl (zwM adM adM_tape adM_frameAt adM_field adM_draft adM_given adM_low adM_high adM_packet adM_known cB cI cL u) U.heap ∧ va_D A (zwM adM adM_tape adM_frameAt adM_field adM_draft adM_given adM_low adM_high adM_packet adM_known cB cI cL u)) A
set_option maxRecDepth 100000 in
set_option maxHeartbeats 4000000 in
theorem k_M_grow_175 {p : Program} {l : Launch} {e : Env} {R : Room} {s : State} {m : MethodId} {args : Array Value} {below : List Frame} {meth : Method} {c : Code} {dC : Nat → ClassId} {dI : Nat → Nat → Nat} {cB cI cL : ClassId} {A : Nat → Prop} (kr : zM → Int64 → Int64 → Int64 → Int64 → Int64 → Int32 → Option (Int64 × zM)) (hrec : ∀ (sM : zM) (v3 : Int64) (v7 : Int64) (v9 : Int64) (v11 : Int64) (v13 : Int64) (v15 : Int32) (a : Int64 × zM), kr sM v3 v7 v9 v11 v13 v15 = some a → ∀ (adM adM_tape adM_frameAt adM_field adM_draft adM_given adM_low adM_high adM_packet adM_known : Nat) (H : Heap) (locs : List Loc), va_P (dC, dI) zcl (zwM adM adM_tape adM_frameAt adM_field adM_draft adM_given adM_low adM_high adM_packet adM_known cB cI cL sM) H → va_D A (zwM adM adM_tape adM_frameAt adM_field adM_draft adM_given adM_low adM_high adM_packet adM_known cB cI cL sM) → va_S A s.heap H locs → ∀ ls : Array Slot, lv_has ls 20 [(3, .long v3), (7, .long v7), (9, .long v9), (11, .long v11), (13, .long v13), (15, .int v15)] → W p l e R s m args below meth c H locs 0 0 (MQ below (q_M_grow dC dI cB cI cL A adM adM_tape adM_frameAt adM_field adM_draft adM_given adM_low adM_high adM_packet adM_known a) args s 0 0 A) (F0 m 96 ls [])) (X : zx p s m args meth c R R_M b_M_grow (some .long) 20 2 46) (hA : ∀ q, s.heap.size ≤ q → A q) (zz : zk dC dI cB cI cL A s)  (N : Nat) (sM : zM) (v3 : Int64) (v7 : Int64) (v9 : Int64) (v11 : Int64) (v13 : Int64) (v15 : Int32) (a : Int64 × zM) (hG : g_M_grow_175 N kr sM v3 v7 v9 v11 v13 v15 = some a) (adM adM_tape adM_frameAt adM_field adM_draft adM_given adM_low adM_high adM_packet adM_known : Nat) (H : Heap) (locs : List Loc) (hP : va_P (dC, dI) zcl (zwM adM adM_tape adM_frameAt adM_field adM_draft adM_given adM_low adM_high adM_packet adM_known cB cI cL sM) H) (hD : va_D A (zwM adM adM_tape adM_frameAt adM_field adM_draft adM_given adM_low adM_high adM_packet adM_known cB cI cL sM)) (hS : va_S A s.heap H locs) (ls : Array Slot) (hl : lv_has ls 20 [(3, .long v3), (7, .long v7), (9, .long v9), (11, .long v11), (13, .long v13), (15, .int v15)]) : W p l e R s m args below meth c H locs 0 0 (MQ below (q_M_grow dC dI cB cI cL A adM adM_tape adM_frameAt adM_field adM_draft adM_given adM_low adM_high adM_packet adM_known a) args s 0 0 A) (F0 m 175 ls []) := by
  obtain ⟨hx, hb, hr, hml, hown, hts, hlocks, hRf, hRl⟩ := id X
  unfold g_M_grow_175 at hG
  refine lv_iinc (v := v15 + 1) (lv' := [(15, .int (v15 + 1)), (3, .long v3), (7, .long v7), (9, .long v9), (11, .long v11), (13, .long v13)]) hx hb d_M_grow_175 hl (k := 5) rfl rfl (by decide) rfl (fun ls hl => ?_)
  refine lv_goto (tgt := 96) hx hb d_M_grow_178 (by decide) ?_
  exact hrec sM v3 v7 v9 v11 v13 (v15 + 1) _ hG adM adM_tape adM_frameAt adM_field adM_draft adM_given adM_low adM_high adM_packet adM_known _ _ hP hD hS _ (lv_sub hl [1, 2, 3, 4, 5, 0] rfl)
set_option maxRecDepth 100000 in
set_option maxHeartbeats 4000000 in
theorem k_M_grow_167 {p : Program} {l : Launch} {e : Env} {R : Room} {s : State} {m : MethodId} {args : Array Value} {below : List Frame} {meth : Method} {c : Code} {dC : Nat → ClassId} {dI : Nat → Nat → Nat} {cB cI cL : ClassId} {A : Nat → Prop} (kr : zM → Int64 → Int64 → Int64 → Int64 → Int64 → Int32 → Option (Int64 × zM)) (hrec : ∀ (sM : zM) (v3 : Int64) (v7 : Int64) (v9 : Int64) (v11 : Int64) (v13 : Int64) (v15 : Int32) (a : Int64 × zM), kr sM v3 v7 v9 v11 v13 v15 = some a → ∀ (adM adM_tape adM_frameAt adM_field adM_draft adM_given adM_low adM_high adM_packet adM_known : Nat) (H : Heap) (locs : List Loc), va_P (dC, dI) zcl (zwM adM adM_tape adM_frameAt adM_field adM_draft adM_given adM_low adM_high adM_packet adM_known cB cI cL sM) H → va_D A (zwM adM adM_tape adM_frameAt adM_field adM_draft adM_given adM_low adM_high adM_packet adM_known cB cI cL sM) → va_S A s.heap H locs → ∀ ls : Array Slot, lv_has ls 20 [(3, .long v3), (7, .long v7), (9, .long v9), (11, .long v11), (13, .long v13), (15, .int v15)] → W p l e R s m args below meth c H locs 0 0 (MQ below (q_M_grow dC dI cB cI cL A adM adM_tape adM_frameAt adM_field adM_draft adM_given adM_low adM_high adM_packet adM_known a) args s 0 0 A) (F0 m 96 ls [])) (X : zx p s m args meth c R R_M b_M_grow (some .long) 20 2 46) (hA : ∀ q, s.heap.size ≤ q → A q) (zz : zk dC dI cB cI cL A s)  (N : Nat) (sM : zM) (v3 : Int64) (v7 : Int64) (v9 : Int64) (v15 : Int32) (v16 : Int64) (v18 : Int64) (a : Int64 × zM) (hG : g_M_grow_167 N kr sM v3 v7 v9 v15 v16 v18 = some a) (adM adM_tape adM_frameAt adM_field adM_draft adM_given adM_low adM_high adM_packet adM_known : Nat) (H : Heap) (locs : List Loc) (hP : va_P (dC, dI) zcl (zwM adM adM_tape adM_frameAt adM_field adM_draft adM_given adM_low adM_high adM_packet adM_known cB cI cL sM) H) (hD : va_D A (zwM adM adM_tape adM_frameAt adM_field adM_draft adM_given adM_low adM_high adM_packet adM_known cB cI cL sM)) (hS : va_S A s.heap H locs) (ls : Array Slot) (hl : lv_has ls 20 [(3, .long v3), (7, .long v7), (9, .long v9), (15, .int v15), (16, .long v16), (18, .long v18)]) : W p l e R s m args below meth c H locs 0 0 (MQ below (q_M_grow dC dI cB cI cL A adM adM_tape adM_frameAt adM_field adM_draft adM_given adM_low adM_high adM_packet adM_known a) args s 0 0 A) (F0 m 167 ls []) := by
  obtain ⟨hx, hb, hr, hml, hown, hts, hlocks, hRf, hRl⟩ := id X
  unfold g_M_grow_167 at hG
  refine lv_lload hx hb d_M_grow_167 (lv_at hl 4 rfl) ?_
  refine lv_lstore (lv' := [(11, .long v16), (3, .long v3), (7, .long v7), (9, .long v9), (15, .int v15), (16, .long v16), (18, .long v18)]) hx hb d_M_grow_169 hl (by decide) rfl (fun ls hl => ?_)
  refine lv_lload hx hb d_M_grow_171 (lv_at hl 6 rfl) ?_
  refine lv_lstore (lv' := [(13, .long v18), (11, .long v16), (3, .long v3), (7, .long v7), (9, .long v9), (15, .int v15), (16, .long v16), (18, .long v18)]) hx hb d_M_grow_173 hl (by decide) rfl (fun ls hl => ?_)
  exact k_M_grow_175 kr hrec X hA zz N sM v3 v7 v9 v16 v18 v15 _ hG adM adM_tape adM_frameAt adM_field adM_draft adM_given adM_low adM_high adM_packet adM_known _ _ hP hD hS _ (lv_sub hl [2, 3, 4, 1, 0, 5] rfl)
set_option maxRecDepth 100000 in
set_option maxHeartbeats 4000000 in
theorem k_M_grow_150 {p : Program} {l : Launch} {e : Env} {R : Room} {s : State} {m : MethodId} {args : Array Value} {below : List Frame} {meth : Method} {c : Code} {dC : Nat → ClassId} {dI : Nat → Nat → Nat} {cB cI cL : ClassId} {A : Nat → Prop} (kr : zM → Int64 → Int64 → Int64 → Int64 → Int64 → Int32 → Option (Int64 × zM)) (hrec : ∀ (sM : zM) (v3 : Int64) (v7 : Int64) (v9 : Int64) (v11 : Int64) (v13 : Int64) (v15 : Int32) (a : Int64 × zM), kr sM v3 v7 v9 v11 v13 v15 = some a → ∀ (adM adM_tape adM_frameAt adM_field adM_draft adM_given adM_low adM_high adM_packet adM_known : Nat) (H : Heap) (locs : List Loc), va_P (dC, dI) zcl (zwM adM adM_tape adM_frameAt adM_field adM_draft adM_given adM_low adM_high adM_packet adM_known cB cI cL sM) H → va_D A (zwM adM adM_tape adM_frameAt adM_field adM_draft adM_given adM_low adM_high adM_packet adM_known cB cI cL sM) → va_S A s.heap H locs → ∀ ls : Array Slot, lv_has ls 20 [(3, .long v3), (7, .long v7), (9, .long v9), (11, .long v11), (13, .long v13), (15, .int v15)] → W p l e R s m args below meth c H locs 0 0 (MQ below (q_M_grow dC dI cB cI cL A adM adM_tape adM_frameAt adM_field adM_draft adM_given adM_low adM_high adM_packet adM_known a) args s 0 0 A) (F0 m 96 ls [])) (X : zx p s m args meth c R R_M b_M_grow (some .long) 20 2 46) (hA : ∀ q, s.heap.size ≤ q → A q) (zz : zk dC dI cB cI cL A s)  (N : Nat) (sM : zM) (v3 : Int64) (v7 : Int64) (v9 : Int64) (v11 : Int64) (v13 : Int64) (v15 : Int32) (v16 : Int64) (s0 : Int64) (a : Int64 × zM) (hG : g_M_grow_150 N kr sM v3 v7 v9 v11 v13 v15 v16 s0 = some a) (adM adM_tape adM_frameAt adM_field adM_draft adM_given adM_low adM_high adM_packet adM_known : Nat) (H : Heap) (locs : List Loc) (hP : va_P (dC, dI) zcl (zwM adM adM_tape adM_frameAt adM_field adM_draft adM_given adM_low adM_high adM_packet adM_known cB cI cL sM) H) (hD : va_D A (zwM adM adM_tape adM_frameAt adM_field adM_draft adM_given adM_low adM_high adM_packet adM_known cB cI cL sM)) (hS : va_S A s.heap H locs) (ls : Array Slot) (hl : lv_has ls 20 [(3, .long v3), (7, .long v7), (9, .long v9), (11, .long v11), (13, .long v13), (15, .int v15), (16, .long v16)]) : W p l e R s m args below meth c H locs 0 0 (MQ below (q_M_grow dC dI cB cI cL A adM adM_tape adM_frameAt adM_field adM_draft adM_given adM_low adM_high adM_packet adM_known a) args s 0 0 A) (F0 m 150 ls [.long s0]) := by
  obtain ⟨hx, hb, hr, hml, hown, hts, hlocks, hRf, hRl⟩ := id X
  unfold g_M_grow_150 at hG
  refine lv_lstore (lv' := [(18, .long s0), (3, .long v3), (7, .long v7), (9, .long v9), (11, .long v11), (13, .long v13), (15, .int v15), (16, .long v16)]) hx hb d_M_grow_150 hl (by decide) rfl (fun ls hl => ?_)
  refine lv_lload hx hb d_M_grow_152 (lv_at hl 4 rfl) ?_
  refine lv_lconst (v := (0 : Int64)) hx hb d_M_grow_154 (by decide) ?_
  refine W.lcmp hx hb d_M_grow_155 ?_
  refine lv_if_lt (tgt := 167) hx hb d_M_grow_156 (by decide) (fun hc => ?_) (fun hc => ?_)
  · have hG := zt hG hc
    exact k_M_grow_167 kr hrec X hA zz N sM v3 v7 v9 v15 v16 s0 _ hG adM adM_tape adM_frameAt adM_field adM_draft adM_given adM_low adM_high adM_packet adM_known _ _ hP hD hS _ (lv_sub hl [1, 2, 3, 6, 7, 0] rfl)
  · have hG := zf hG hc
    refine lv_lload hx hb d_M_grow_159 (lv_at hl 0 rfl) ?_
    refine lv_lload hx hb d_M_grow_161 (lv_at hl 5 rfl) ?_
    refine W.lcmp hx hb d_M_grow_163 ?_
    refine lv_if_gt (tgt := 175) hx hb d_M_grow_164 (by decide) (fun hc => ?_) (fun hc => ?_)
    · have hG := zt hG hc
      exact k_M_grow_175 kr hrec X hA zz N sM v3 v7 v9 v11 v13 v15 _ hG adM adM_tape adM_frameAt adM_field adM_draft adM_given adM_low adM_high adM_packet adM_known _ _ hP hD hS _ (lv_sub hl [1, 2, 3, 4, 5, 6] rfl)
    · have hG := zf hG hc
      exact k_M_grow_167 kr hrec X hA zz N sM v3 v7 v9 v15 v16 s0 _ hG adM adM_tape adM_frameAt adM_field adM_draft adM_given adM_low adM_high adM_packet adM_known _ _ hP hD hS _ (lv_sub hl [1, 2, 3, 6, 7, 0] rfl)
set_option maxRecDepth 100000 in
set_option maxHeartbeats 4000000 in
theorem k_M_grow_96_b {p : Program} {l : Launch} {e : Env} {R : Room} {s : State} {m : MethodId} {args : Array Value} {below : List Frame} {meth : Method} {c : Code} {dC : Nat → ClassId} {dI : Nat → Nat → Nat} {cB cI cL : ClassId} {A : Nat → Prop} (kr : zM → Int64 → Int64 → Int64 → Int64 → Int64 → Int32 → Option (Int64 × zM)) (hrec : ∀ (sM : zM) (v3 : Int64) (v7 : Int64) (v9 : Int64) (v11 : Int64) (v13 : Int64) (v15 : Int32) (a : Int64 × zM), kr sM v3 v7 v9 v11 v13 v15 = some a → ∀ (adM adM_tape adM_frameAt adM_field adM_draft adM_given adM_low adM_high adM_packet adM_known : Nat) (H : Heap) (locs : List Loc), va_P (dC, dI) zcl (zwM adM adM_tape adM_frameAt adM_field adM_draft adM_given adM_low adM_high adM_packet adM_known cB cI cL sM) H → va_D A (zwM adM adM_tape adM_frameAt adM_field adM_draft adM_given adM_low adM_high adM_packet adM_known cB cI cL sM) → va_S A s.heap H locs → ∀ ls : Array Slot, lv_has ls 20 [(3, .long v3), (7, .long v7), (9, .long v9), (11, .long v11), (13, .long v13), (15, .int v15)] → W p l e R s m args below meth c H locs 0 0 (MQ below (q_M_grow dC dI cB cI cL A adM adM_tape adM_frameAt adM_field adM_draft adM_given adM_low adM_high adM_packet adM_known a) args s 0 0 A) (F0 m 96 ls [])) (X : zx p s m args meth c R R_M b_M_grow (some .long) 20 2 46) (hA : ∀ q, s.heap.size ≤ q → A q) (zz : zk dC dI cB cI cL A s)  (N : Nat) (sM : zM) (v3 : Int64) (v7 : Int64) (v9 : Int64) (v11 : Int64) (v13 : Int64) (v15 : Int32) (a : Int64 × zM) (hG : g_M_grow_96_b N kr sM v3 v7 v9 v11 v13 v15 = some a) (adM adM_tape adM_frameAt adM_field adM_draft adM_given adM_low adM_high adM_packet adM_known : Nat) (H : Heap) (locs : List Loc) (hP : va_P (dC, dI) zcl (zwM adM adM_tape adM_frameAt adM_field adM_draft adM_given adM_low adM_high adM_packet adM_known cB cI cL sM) H) (hD : va_D A (zwM adM adM_tape adM_frameAt adM_field adM_draft adM_given adM_low adM_high adM_packet adM_known cB cI cL sM)) (hS : va_S A s.heap H locs) (ls : Array Slot) (hl : lv_has ls 20 [(3, .long v3), (7, .long v7), (9, .long v9), (11, .long v11), (13, .long v13), (15, .int v15)]) : W p l e R s m args below meth c H locs 0 0 (MQ below (q_M_grow dC dI cB cI cL A adM adM_tape adM_frameAt adM_field adM_draft adM_given adM_low adM_high adM_packet adM_known a) args s 0 0 A) (F0 m 96 ls []) := by
  obtain ⟨hx, hb, hr, hml, hown, hts, hlocks, hRf, hRl⟩ := id X
  unfold g_M_grow_96_b at hG
  refine lv_iload hx hb d_M_grow_96 (lv_at hl 5 rfl) ?_
  refine lv_iconst (v := (2 : Int32)) hx hb d_M_grow_98 (by decide) ?_
  refine lv_icmp_ge (tgt := 181) hx hb d_M_grow_99 (by decide) (fun hc => ?_) (fun hc => ?_)
  · have hG := zt hG hc
    refine lv_lload hx hb d_M_grow_181 (lv_at hl 3 rfl) ?_
    exact W.lret (v := v11) hx hb hr (fun t9 ht9 hW9 => ⟨⟨v11, (sM), rfl, Option.some.inj hG, by rw [ht9]; exact hP, hD⟩, hS.F ht9⟩) hS.2.2 d_M_grow_183
  · have hG := zf hG hc
    refine lv_lload hx hb d_M_grow_102 (lv_at hl 2 rfl) ?_
    refine lv_lload hx hb d_M_grow_104 (lv_at hl 1 rfl) ?_
    obtain ⟨hne, hG⟩ := zgd hG
    refine lv_ldiv hx hb d_M_grow_106 hne ?_
    refine lv_iload hx hb d_M_grow_107 (lv_at hl 5 rfl) ?_
    refine lv_i2l hx hb d_M_grow_109 rfl ?_
    refine lv_ladd hx hb d_M_grow_110 ?_
    refine lv_lload hx hb d_M_grow_111 (lv_at hl 1 rfl) ?_
    refine lv_lmul hx hb d_M_grow_113 ?_
    refine lv_lload_n hx hb d_M_grow_114 rfl (lv_at hl 0 rfl) ?_
    refine lv_ladd hx hb d_M_grow_115 ?_
    refine lv_lstore (lv' := [(16, .long ((((v9 / v7) + v15.toInt64) * v7) + v3)), (3, .long v3), (7, .long v7), (9, .long v9), (11, .long v11), (13, .long v13), (15, .int v15)]) hx hb d_M_grow_116 hl (by decide) rfl (fun ls hl => ?_)
    refine lv_lload hx hb d_M_grow_118 (lv_at hl 0 rfl) ?_
    obtain ⟨a_120, hx_120, hG⟩ := zb hG
    have hr_120 := zrunS (p := p) (e := e) (below := below) (meth := meth) (As := [.long ((((v9 / v7) + v15.toInt64) * v7) + v3)]) (rest := []) (st0 := [.long ((((v9 / v7) + v15.toInt64) * v7) + v3)]) (cells := 0) (slots := 0) X zz hP hD hS hA [] (by decide) rfl (c_M_isNumber l dC dI cB cI cL H.size ((((v9 / v7) + v15.toInt64) * v7) + v3) _ hx_120) zy_M_isNumber zv_M_isNumber (hts (.methodLink R_M 80 y_M_isNumber) zin_M_80) hl rfl rfl d_M_grow_120 (lv_room (Nat.le_of_ble_eq_true rfl)) rfl rfl ⟨Nat.le_trans (Nat.le_of_ble_eq_true rfl) hRf, Nat.le_trans (Nat.le_of_ble_eq_true rfl) hRl⟩ ⟨Nat.zero_le _, Nat.zero_le _⟩
    refine zcalli (wr := (zwM adM adM_tape adM_frameAt adM_field adM_draft adM_given adM_low adM_high adM_packet adM_known cB cI cL sM)) hr_120 hP hD hS hA [] [0, 1, 2, 3, 4, 5, 6, 7, 8, 9] rfl rfl (by decide) (by decide) (fun r_120 u_120 H locs hw_120 hP hD hS => ?_)
    subst hw_120
    have hP : va_P (dC, dI) zcl (zwM adM adM_tape adM_frameAt adM_field adM_draft adM_given adM_low adM_high adM_packet adM_known cB cI cL sM) H := hP
    have hD : va_D A (zwM adM adM_tape adM_frameAt adM_field adM_draft adM_given adM_low adM_high adM_packet adM_known cB cI cL sM) := hD
    have hG : g_M_grow_c120 N kr sM v3 v7 v9 v11 v13 v15 r_120 = some a := hG
    unfold g_M_grow_c120 at hG
    refine lv_if_ne (tgt := 129) hx hb d_M_grow_123 (by decide) (fun hc => ?_) (fun hc => ?_)
    · have hG := zf hG hc
      refine lv_lload hx hb d_M_grow_129 (lv_at hl 0 rfl) ?_
      refine lv_lload hx hb d_M_grow_131 (lv_at hl 3 rfl) ?_
      refine W.lcmp hx hb d_M_grow_133 ?_
      refine lv_if_ge (tgt := 145) hx hb d_M_grow_134 (by decide) (fun hc => ?_) (fun hc => ?_)
      · have hG := zt hG hc
        refine lv_lload hx hb d_M_grow_145 (lv_at hl 0 rfl) ?_
        refine lv_lload hx hb d_M_grow_147 (lv_at hl 3 rfl) ?_
        refine lv_lsub hx hb d_M_grow_149 ?_
        exact k_M_grow_150 kr hrec X hA zz N sM v3 v7 v9 v11 v13 v15 ((((v9 / v7) + v15.toInt64) * v7) + v3) (((((v9 / v7) + v15.toInt64) * v7) + v3) - v9) _ hG adM adM_tape adM_frameAt adM_field adM_draft adM_given adM_low adM_high adM_packet adM_known _ _ hP hD hS _ (lv_sub hl [1, 2, 3, 4, 5, 6, 0] rfl)
      · have hG := zf hG hc
        refine lv_lload hx hb d_M_grow_137 (lv_at hl 3 rfl) ?_
        refine lv_lload hx hb d_M_grow_139 (lv_at hl 0 rfl) ?_
        refine lv_lsub hx hb d_M_grow_141 ?_
        refine lv_goto (tgt := 150) hx hb d_M_grow_142 (by decide) ?_
        exact k_M_grow_150 kr hrec X hA zz N sM v3 v7 v9 v11 v13 v15 ((((v9 / v7) + v15.toInt64) * v7) + v3) (v9 - ((((v9 / v7) + v15.toInt64) * v7) + v3)) _ hG adM adM_tape adM_frameAt adM_field adM_draft adM_given adM_low adM_high adM_packet adM_known _ _ hP hD hS _ (lv_sub hl [1, 2, 3, 4, 5, 6, 0] rfl)
    · have hG := zt hG hc
      refine lv_goto (tgt := 175) hx hb d_M_grow_126 (by decide) ?_
      exact k_M_grow_175 kr hrec X hA zz N sM v3 v7 v9 v11 v13 v15 _ hG adM adM_tape adM_frameAt adM_field adM_draft adM_given adM_low adM_high adM_packet adM_known _ _ hP hD hS _ (lv_sub hl [1, 2, 3, 4, 5, 6] rfl)
theorem k_M_grow_96 {p : Program} {l : Launch} {e : Env} {R : Room} {s : State} {m : MethodId} {args : Array Value} {below : List Frame} {meth : Method} {c : Code} {dC : Nat → ClassId} {dI : Nat → Nat → Nat} {cB cI cL : ClassId} {A : Nat → Prop} (X : zx p s m args meth c R R_M b_M_grow (some .long) 20 2 46) (hA : ∀ q, s.heap.size ≤ q → A q) (zz : zk dC dI cB cI cL A s)  (N : Nat) : ∀ (k : Nat) (sM : zM) (v3 : Int64) (v7 : Int64) (v9 : Int64) (v11 : Int64) (v13 : Int64) (v15 : Int32) (a : Int64 × zM) (hG : g_M_grow_96 N k sM v3 v7 v9 v11 v13 v15 = some a) (adM adM_tape adM_frameAt adM_field adM_draft adM_given adM_low adM_high adM_packet adM_known : Nat) (H : Heap) (locs : List Loc) (hP : va_P (dC, dI) zcl (zwM adM adM_tape adM_frameAt adM_field adM_draft adM_given adM_low adM_high adM_packet adM_known cB cI cL sM) H) (hD : va_D A (zwM adM adM_tape adM_frameAt adM_field adM_draft adM_given adM_low adM_high adM_packet adM_known cB cI cL sM)) (hS : va_S A s.heap H locs) (ls : Array Slot) (hl : lv_has ls 20 [(3, .long v3), (7, .long v7), (9, .long v9), (11, .long v11), (13, .long v13), (15, .int v15)]), W p l e R s m args below meth c H locs 0 0 (MQ below (q_M_grow dC dI cB cI cL A adM adM_tape adM_frameAt adM_field adM_draft adM_given adM_low adM_high adM_packet adM_known a) args s 0 0 A) (F0 m 96 ls []) := by
  intro k
  induction k with
  | zero => intro sM v3 v7 v9 v11 v13 v15 a hG; exact absurd hG (by unfold g_M_grow_96; simp)
  | succ k ih => intro sM v3 v7 v9 v11 v13 v15 a hG adM adM_tape adM_frameAt adM_field adM_draft adM_given adM_low adM_high adM_packet adM_known H locs hP hD hS ls hl; exact k_M_grow_96_b _ ih X hA zz N sM v3 v7 v9 v11 v13 v15 a hG adM adM_tape adM_frameAt adM_field adM_draft adM_given adM_low adM_high adM_packet adM_known H locs hP hD hS ls hl
set_option maxRecDepth 100000 in
set_option maxHeartbeats 4000000 in
theorem k_M_grow_62 {p : Program} {l : Launch} {e : Env} {R : Room} {s : State} {m : MethodId} {args : Array Value} {below : List Frame} {meth : Method} {c : Code} {dC : Nat → ClassId} {dI : Nat → Nat → Nat} {cB cI cL : ClassId} {A : Nat → Prop} (X : zx p s m args meth c R R_M b_M_grow (some .long) 20 2 46) (hA : ∀ q, s.heap.size ≤ q → A q) (zz : zk dC dI cB cI cL A s)  (N : Nat) (sM : zM) (v1 : Int64) (v3 : Int64) (v5 : Int32) (s0 : Int32) (a : Int64 × zM) (hG : g_M_grow_62 N sM v1 v3 v5 s0 = some a) (adM adM_tape adM_frameAt adM_field adM_draft adM_given adM_low adM_high adM_packet adM_known : Nat) (H : Heap) (locs : List Loc) (hP : va_P (dC, dI) zcl (zwM adM adM_tape adM_frameAt adM_field adM_draft adM_given adM_low adM_high adM_packet adM_known cB cI cL sM) H) (hD : va_D A (zwM adM adM_tape adM_frameAt adM_field adM_draft adM_given adM_low adM_high adM_packet adM_known cB cI cL sM)) (hS : va_S A s.heap H locs) (ls : Array Slot) (hl : lv_has ls 20 [(1, .long v1), (3, .long v3), (5, .int v5)]) : W p l e R s m args below meth c H locs 0 0 (MQ below (q_M_grow dC dI cB cI cL A adM adM_tape adM_frameAt adM_field adM_draft adM_given adM_low adM_high adM_packet adM_known a) args s 0 0 A) (F0 m 62 ls [.int s0, .ref adM]) := by
  obtain ⟨hx, hb, hr, hml, hown, hts, hlocks, hRf, hRl⟩ := id X
  unfold g_M_grow_62 at hG
  refine lv_iconst (v := (1 : Int32)) hx hb d_M_grow_62 (by decide) ?_
  obtain ⟨a_63, hx_63, hG⟩ := zb hG
  have hr_63 := zrunV (p := p) (e := e) (below := below) (meth := meth) (As := [.int s0, .int (1 : Int32)]) (rest := []) (st0 := [.int (1 : Int32), .int s0, .ref adM]) (cells := 0) (slots := 0) X zz hP hD hS hA [0, 1, 2, 3, 4, 5, 6, 7, 8, 9] (by decide) rfl (c_M_fails l dC dI cB cI cL H.size adM adM_tape adM_frameAt adM_field adM_draft adM_given adM_low adM_high adM_packet adM_known sM s0 (1 : Int32) _ hx_63) zy_M_fails zv_M_fails (hts (.methodLink R_M 62 y_M_fails) zin_M_62) hl rfl rfl d_M_grow_63 (lv_room (Nat.le_of_ble_eq_true rfl)) rfl rfl ⟨Nat.le_trans (Nat.le_of_ble_eq_true rfl) hRf, Nat.le_trans (Nat.le_of_ble_eq_true rfl) hRl⟩ ⟨Nat.zero_le _, Nat.zero_le _⟩ 0 8 rfl rfl
  refine zcalli (wr := ([] : va_W)) hr_63 hP hD hS hA [0, 1, 2, 3, 4, 5, 6, 7, 8, 9] [] rfl rfl (by decide) (by decide) (fun r_63 u_63 H locs hw_63 hP hD hS => ?_)
  obtain ⟨sM_63, rfl⟩ : ∃ z, z = u_63 := ⟨_, rfl⟩
  subst hw_63
  have hP : va_P (dC, dI) zcl (zwM adM adM_tape adM_frameAt adM_field adM_draft adM_given adM_low adM_high adM_packet adM_known cB cI cL sM_63) H := hP
  have hD : va_D A (zwM adM adM_tape adM_frameAt adM_field adM_draft adM_given adM_low adM_high adM_packet adM_known cB cI cL sM_63) := hD
  have hG : g_M_grow_c63 N v1 v3 v5 sM_63 r_63 = some a := hG
  unfold g_M_grow_c63 at hG
  refine lv_if_eq (tgt := 71) hx hb d_M_grow_66 (by decide) (fun hc => ?_) (fun hc => ?_)
  · have hG := zt hG hc
    refine lv_lconst (v := (1 : Int64)) hx hb d_M_grow_71 (by decide) ?_
    refine lv_bipush (v := (8 : Int32)) hx hb d_M_grow_72 (by decide) ?_
    refine lv_iload hx hb d_M_grow_74 (lv_at hl 2 rfl) ?_
    refine lv_imul hx hb d_M_grow_76 ?_
    refine lv_lshl hx hb d_M_grow_77 rfl ?_
    refine lv_lstore (lv' := [(7, .long ((1 : Int64) <<< (((8 : Int32) * v5).toInt64 &&& 63))), (1, .long v1), (3, .long v3), (5, .int v5)]) hx hb d_M_grow_78 hl (by decide) rfl (fun ls hl => ?_)
    refine lv_lload_n hx hb d_M_grow_80 rfl (lv_at hl 1 rfl) ?_
    refine lv_lconst (v := (1 : Int64)) hx hb d_M_grow_81 (by decide) ?_
    refine lv_ladd hx hb d_M_grow_82 ?_
    refine lv_lstore (lv' := [(9, .long (v1 + (1 : Int64))), (7, .long ((1 : Int64) <<< (((8 : Int32) * v5).toInt64 &&& 63))), (1, .long v1), (3, .long v3), (5, .int v5)]) hx hb d_M_grow_83 hl (by decide) rfl (fun ls hl => ?_)
    refine lv_ldc2 (v := (-1 : Int64)) hx hb hown (hts (.constantLong R_M 132 (-1 : Int64)) zin_M_132) d_M_grow_85 ?_
    refine lv_lstore (lv' := [(11, .long (-1 : Int64)), (9, .long (v1 + (1 : Int64))), (7, .long ((1 : Int64) <<< (((8 : Int32) * v5).toInt64 &&& 63))), (1, .long v1), (3, .long v3), (5, .int v5)]) hx hb d_M_grow_88 hl (by decide) rfl (fun ls hl => ?_)
    refine lv_lconst (v := (0 : Int64)) hx hb d_M_grow_90 (by decide) ?_
    refine lv_lstore (lv' := [(13, .long (0 : Int64)), (11, .long (-1 : Int64)), (9, .long (v1 + (1 : Int64))), (7, .long ((1 : Int64) <<< (((8 : Int32) * v5).toInt64 &&& 63))), (1, .long v1), (3, .long v3), (5, .int v5)]) hx hb d_M_grow_91 hl (by decide) rfl (fun ls hl => ?_)
    refine lv_iconst (v := (-1 : Int32)) hx hb d_M_grow_93 (by decide) ?_
    refine lv_istore (lv' := [(15, .int (-1 : Int32)), (13, .long (0 : Int64)), (11, .long (-1 : Int64)), (9, .long (v1 + (1 : Int64))), (7, .long ((1 : Int64) <<< (((8 : Int32) * v5).toInt64 &&& 63))), (1, .long v1), (3, .long v3), (5, .int v5)]) hx hb d_M_grow_94 hl (by decide) rfl (fun ls hl => ?_)
    exact k_M_grow_96 X hA zz N N sM_63 v3 ((1 : Int64) <<< (((8 : Int32) * v5).toInt64 &&& 63)) (v1 + (1 : Int64)) (-1 : Int64) (0 : Int64) (-1 : Int32) _ hG adM adM_tape adM_frameAt adM_field adM_draft adM_given adM_low adM_high adM_packet adM_known _ _ hP hD hS _ (lv_sub hl [6, 4, 3, 2, 1, 0] rfl)
  · have hG := zf hG hc
    refine lv_lconst (v := (0 : Int64)) hx hb d_M_grow_69 (by decide) ?_
    exact W.lret (v := (0 : Int64)) hx hb hr (fun t9 ht9 hW9 => ⟨⟨(0 : Int64), (sM_63), rfl, Option.some.inj hG, by rw [ht9]; exact hP, hD⟩, hS.F ht9⟩) hS.2.2 d_M_grow_70
set_option maxRecDepth 100000 in
set_option maxHeartbeats 4000000 in
theorem k_M_grow_57 {p : Program} {l : Launch} {e : Env} {R : Room} {s : State} {m : MethodId} {args : Array Value} {below : List Frame} {meth : Method} {c : Code} {dC : Nat → ClassId} {dI : Nat → Nat → Nat} {cB cI cL : ClassId} {A : Nat → Prop} (X : zx p s m args meth c R R_M b_M_grow (some .long) 20 2 46) (hA : ∀ q, s.heap.size ≤ q → A q) (zz : zk dC dI cB cI cL A s)  (N : Nat) (sM : zM) (v1 : Int64) (v3 : Int64) (v5 : Int32) (a : Int64 × zM) (hG : g_M_grow_57 N sM v1 v3 v5 = some a) (adM adM_tape adM_frameAt adM_field adM_draft adM_given adM_low adM_high adM_packet adM_known : Nat) (H : Heap) (locs : List Loc) (hP : va_P (dC, dI) zcl (zwM adM adM_tape adM_frameAt adM_field adM_draft adM_given adM_low adM_high adM_packet adM_known cB cI cL sM) H) (hD : va_D A (zwM adM adM_tape adM_frameAt adM_field adM_draft adM_given adM_low adM_high adM_packet adM_known cB cI cL sM)) (hS : va_S A s.heap H locs) (ls : Array Slot) (hl : lv_has ls 20 [(1, .long v1), (3, .long v3), (5, .int v5)]) : W p l e R s m args below meth c H locs 0 0 (MQ below (q_M_grow dC dI cB cI cL A adM adM_tape adM_frameAt adM_field adM_draft adM_given adM_low adM_high adM_packet adM_known a) args s 0 0 A) (F0 m 57 ls [.ref adM]) := by
  obtain ⟨hx, hb, hr, hml, hown, hts, hlocks, hRf, hRl⟩ := id X
  unfold g_M_grow_57 at hG
  refine lv_iconst (v := (1 : Int32)) hx hb d_M_grow_57 (by decide) ?_
  refine lv_goto (tgt := 62) hx hb d_M_grow_58 (by decide) ?_
  exact k_M_grow_62 X hA zz N sM v1 v3 v5 (1 : Int32) _ hG adM adM_tape adM_frameAt adM_field adM_draft adM_given adM_low adM_high adM_packet adM_known _ _ hP hD hS _ (lv_sub hl [0, 1, 2] rfl)
set_option maxRecDepth 100000 in
set_option maxHeartbeats 4000000 in
theorem k_M_grow_31 {p : Program} {l : Launch} {e : Env} {R : Room} {s : State} {m : MethodId} {args : Array Value} {below : List Frame} {meth : Method} {c : Code} {dC : Nat → ClassId} {dI : Nat → Nat → Nat} {cB cI cL : ClassId} {A : Nat → Prop} (X : zx p s m args meth c R R_M b_M_grow (some .long) 20 2 46) (hA : ∀ q, s.heap.size ≤ q → A q) (zz : zk dC dI cB cI cL A s)  (N : Nat) (sM : zM) (v1 : Int64) (v3 : Int64) (v5 : Int32) (s0 : Int32) (a : Int64 × zM) (hG : g_M_grow_31 N sM v1 v3 v5 s0 = some a) (adM adM_tape adM_frameAt adM_field adM_draft adM_given adM_low adM_high adM_packet adM_known : Nat) (H : Heap) (locs : List Loc) (hP : va_P (dC, dI) zcl (zwM adM adM_tape adM_frameAt adM_field adM_draft adM_given adM_low adM_high adM_packet adM_known cB cI cL sM) H) (hD : va_D A (zwM adM adM_tape adM_frameAt adM_field adM_draft adM_given adM_low adM_high adM_packet adM_known cB cI cL sM)) (hS : va_S A s.heap H locs) (ls : Array Slot) (hl : lv_has ls 20 [(0, .ref adM), (1, .long v1), (3, .long v3), (5, .int v5)]) : W p l e R s m args below meth c H locs 0 0 (MQ below (q_M_grow dC dI cB cI cL A adM adM_tape adM_frameAt adM_field adM_draft adM_given adM_low adM_high adM_packet adM_known a) args s 0 0 A) (F0 m 31 ls [.int s0]) := by
  obtain ⟨hx, hb, hr, hml, hown, hts, hlocks, hRf, hRl⟩ := id X
  unfold g_M_grow_31 at hG
  refine lv_istore (lv' := [(6, .int s0), (0, .ref adM), (1, .long v1), (3, .long v3), (5, .int v5)]) hx hb d_M_grow_31 hl (by decide) rfl (fun ls hl => ?_)
  refine lv_aload_n hx hb d_M_grow_33 rfl (lv_at hl 1 rfl) ?_
  refine lv_iload hx hb d_M_grow_34 (lv_at hl 0 rfl) ?_
  refine lv_if_ne (tgt := 57) hx hb d_M_grow_36 (by decide) (fun hc => ?_) (fun hc => ?_)
  · have hG := zf hG hc
    exact k_M_grow_57 X hA zz N sM v1 v3 v5 _ hG adM adM_tape adM_frameAt adM_field adM_draft adM_given adM_low adM_high adM_packet adM_known _ _ hP hD hS _ (lv_sub hl [2, 3, 4] rfl)
  · have hG := zt hG hc
    refine lv_lload_n hx hb d_M_grow_39 rfl (lv_at hl 3 rfl) ?_
    refine lv_lconst (v := (0 : Int64)) hx hb d_M_grow_40 (by decide) ?_
    refine W.lcmp hx hb d_M_grow_41 ?_
    refine lv_if_lt (tgt := 57) hx hb d_M_grow_42 (by decide) (fun hc => ?_) (fun hc => ?_)
    · have hG := zt hG hc
      exact k_M_grow_57 X hA zz N sM v1 v3 v5 _ hG adM adM_tape adM_frameAt adM_field adM_draft adM_given adM_low adM_high adM_packet adM_known _ _ hP hD hS _ (lv_sub hl [2, 3, 4] rfl)
    · have hG := zf hG hc
      refine lv_lload_n hx hb d_M_grow_45 rfl (lv_at hl 3 rfl) ?_
      refine lv_lconst (v := (1 : Int64)) hx hb d_M_grow_46 (by decide) ?_
      refine lv_bipush (v := (8 : Int32)) hx hb d_M_grow_47 (by decide) ?_
      refine lv_iload hx hb d_M_grow_49 (lv_at hl 4 rfl) ?_
      refine lv_imul hx hb d_M_grow_51 ?_
      refine lv_lshl hx hb d_M_grow_52 rfl ?_
      refine W.lcmp hx hb d_M_grow_53 ?_
      refine lv_if_lt (tgt := 61) hx hb d_M_grow_54 (by decide) (fun hc => ?_) (fun hc => ?_)
      · have hG := zt hG hc
        refine lv_iconst (v := (0 : Int32)) hx hb d_M_grow_61 (by decide) ?_
        exact k_M_grow_62 X hA zz N sM v1 v3 v5 (0 : Int32) _ hG adM adM_tape adM_frameAt adM_field adM_draft adM_given adM_low adM_high adM_packet adM_known _ _ hP hD hS _ (lv_sub hl [2, 3, 4] rfl)
      · have hG := zf hG hc
        exact k_M_grow_57 X hA zz N sM v1 v3 v5 _ hG adM adM_tape adM_frameAt adM_field adM_draft adM_given adM_low adM_high adM_packet adM_known _ _ hP hD hS _ (lv_sub hl [2, 3, 4] rfl)
set_option maxRecDepth 100000 in
set_option maxHeartbeats 4000000 in
theorem k_M_grow_26 {p : Program} {l : Launch} {e : Env} {R : Room} {s : State} {m : MethodId} {args : Array Value} {below : List Frame} {meth : Method} {c : Code} {dC : Nat → ClassId} {dI : Nat → Nat → Nat} {cB cI cL : ClassId} {A : Nat → Prop} (X : zx p s m args meth c R R_M b_M_grow (some .long) 20 2 46) (hA : ∀ q, s.heap.size ≤ q → A q) (zz : zk dC dI cB cI cL A s)  (N : Nat) (sM : zM) (v1 : Int64) (v3 : Int64) (v5 : Int32) (a : Int64 × zM) (hG : g_M_grow_26 N sM v1 v3 v5 = some a) (adM adM_tape adM_frameAt adM_field adM_draft adM_given adM_low adM_high adM_packet adM_known : Nat) (H : Heap) (locs : List Loc) (hP : va_P (dC, dI) zcl (zwM adM adM_tape adM_frameAt adM_field adM_draft adM_given adM_low adM_high adM_packet adM_known cB cI cL sM) H) (hD : va_D A (zwM adM adM_tape adM_frameAt adM_field adM_draft adM_given adM_low adM_high adM_packet adM_known cB cI cL sM)) (hS : va_S A s.heap H locs) (ls : Array Slot) (hl : lv_has ls 20 [(0, .ref adM), (1, .long v1), (3, .long v3), (5, .int v5)]) : W p l e R s m args below meth c H locs 0 0 (MQ below (q_M_grow dC dI cB cI cL A adM adM_tape adM_frameAt adM_field adM_draft adM_given adM_low adM_high adM_packet adM_known a) args s 0 0 A) (F0 m 26 ls []) := by
  obtain ⟨hx, hb, hr, hml, hown, hts, hlocks, hRf, hRl⟩ := id X
  unfold g_M_grow_26 at hG
  refine lv_iconst (v := (1 : Int32)) hx hb d_M_grow_26 (by decide) ?_
  refine lv_goto (tgt := 31) hx hb d_M_grow_27 (by decide) ?_
  exact k_M_grow_31 X hA zz N sM v1 v3 v5 (1 : Int32) _ hG adM adM_tape adM_frameAt adM_field adM_draft adM_given adM_low adM_high adM_packet adM_known _ _ hP hD hS _ (lv_sub hl [0, 1, 2, 3] rfl)
set_option maxRecDepth 100000 in
set_option maxHeartbeats 4000000 in
theorem k_M_grow_0 {p : Program} {l : Launch} {e : Env} {R : Room} {s : State} {m : MethodId} {args : Array Value} {below : List Frame} {meth : Method} {c : Code} {dC : Nat → ClassId} {dI : Nat → Nat → Nat} {cB cI cL : ClassId} {A : Nat → Prop} (X : zx p s m args meth c R R_M b_M_grow (some .long) 20 2 46) (hA : ∀ q, s.heap.size ≤ q → A q) (zz : zk dC dI cB cI cL A s)  (N : Nat) (sM : zM) (v1 : Int64) (v3 : Int64) (v5 : Int32) (a : Int64 × zM) (hG : g_M_grow N sM v1 v3 v5 = some a) (adM adM_tape adM_frameAt adM_field adM_draft adM_given adM_low adM_high adM_packet adM_known : Nat) (H : Heap) (locs : List Loc) (hP : va_P (dC, dI) zcl (zwM adM adM_tape adM_frameAt adM_field adM_draft adM_given adM_low adM_high adM_packet adM_known cB cI cL sM) H) (hD : va_D A (zwM adM adM_tape adM_frameAt adM_field adM_draft adM_given adM_low adM_high adM_packet adM_known cB cI cL sM)) (hS : va_S A s.heap H locs) (ls : Array Slot) (hl : lv_has ls 20 [(0, .ref adM), (1, .long v1), (3, .long v3), (5, .int v5)]) : W p l e R s m args below meth c H locs 0 0 (MQ below (q_M_grow dC dI cB cI cL A adM adM_tape adM_frameAt adM_field adM_draft adM_given adM_low adM_high adM_packet adM_known a) args s 0 0 A) (F0 m 0 ls []) := by
  obtain ⟨hx, hb, hr, hml, hown, hts, hlocks, hRf, hRl⟩ := id X
  unfold g_M_grow at hG
  refine lv_lload_n hx hb d_M_grow_0 rfl (lv_at hl 1 rfl) ?_
  refine lv_ldc2 (v := (-1 : Int64)) hx hb hown (hts (.constantLong R_M 132 (-1 : Int64)) zin_M_132) d_M_grow_1 ?_
  refine lv_ldc2 (v := (4611686018427387903 : Int64)) hx hb hown (hts (.constantLong R_M 51 (4611686018427387903 : Int64)) zin_M_51) d_M_grow_4 ?_
  obtain ⟨a_7, hx_7, hG⟩ := zb hG
  have hr_7 := zrunS (p := p) (e := e) (below := below) (meth := meth) (As := [.long v1, .long (-1 : Int64), .long (4611686018427387903 : Int64)]) (rest := []) (st0 := [.long (4611686018427387903 : Int64), .long (-1 : Int64), .long v1]) (cells := 0) (slots := 0) X zz hP hD hS hA [] (by decide) rfl (c_M_within l dC dI cB cI cL H.size v1 (-1 : Int64) (4611686018427387903 : Int64) _ hx_7) zy_M_within zv_M_within (hts (.methodLink R_M 53 y_M_within) zin_M_53) hl rfl rfl d_M_grow_7 (lv_room (Nat.le_of_ble_eq_true rfl)) rfl rfl ⟨Nat.le_trans (Nat.le_of_ble_eq_true rfl) hRf, Nat.le_trans (Nat.le_of_ble_eq_true rfl) hRl⟩ ⟨Nat.zero_le _, Nat.zero_le _⟩
  refine zcalli (wr := (zwM adM adM_tape adM_frameAt adM_field adM_draft adM_given adM_low adM_high adM_packet adM_known cB cI cL sM)) hr_7 hP hD hS hA [] [0, 1, 2, 3, 4, 5, 6, 7, 8, 9] rfl rfl (by decide) (by decide) (fun r_7 u_7 H locs hw_7 hP hD hS => ?_)
  subst hw_7
  have hP : va_P (dC, dI) zcl (zwM adM adM_tape adM_frameAt adM_field adM_draft adM_given adM_low adM_high adM_packet adM_known cB cI cL sM) H := hP
  have hD : va_D A (zwM adM adM_tape adM_frameAt adM_field adM_draft adM_given adM_low adM_high adM_packet adM_known cB cI cL sM) := hD
  have hG : g_M_grow_c7 N sM v1 v3 v5 r_7 = some a := hG
  unfold g_M_grow_c7 at hG
  refine lv_if_eq (tgt := 26) hx hb d_M_grow_10 (by decide) (fun hc => ?_) (fun hc => ?_)
  · have hG := zt hG hc
    exact k_M_grow_26 X hA zz N sM v1 v3 v5 _ hG adM adM_tape adM_frameAt adM_field adM_draft adM_given adM_low adM_high adM_packet adM_known _ _ hP hD hS _ (lv_sub hl [0, 1, 2, 3] rfl)
  · have hG := zf hG hc
    refine lv_iload hx hb d_M_grow_13 (lv_at hl 3 rfl) ?_
    refine lv_i2l hx hb d_M_grow_15 rfl ?_
    refine lv_lconst (v := (1 : Int64)) hx hb d_M_grow_16 (by decide) ?_
    refine lv_ldc2 (v := (4 : Int64)) hx hb hown (hts (.constantLong R_M 272 (4 : Int64)) zin_M_272) d_M_grow_17 ?_
    obtain ⟨a_20, hx_20, hG⟩ := zb hG
    have hr_20 := zrunS (p := p) (e := e) (below := below) (meth := meth) (As := [.long v5.toInt64, .long (1 : Int64), .long (4 : Int64)]) (rest := []) (st0 := [.long (4 : Int64), .long (1 : Int64), .long v5.toInt64]) (cells := 0) (slots := 0) X zz hP hD hS hA [] (by decide) rfl (c_M_within l dC dI cB cI cL H.size v5.toInt64 (1 : Int64) (4 : Int64) _ hx_20) zy_M_within zv_M_within (hts (.methodLink R_M 53 y_M_within) zin_M_53) hl rfl rfl d_M_grow_20 (lv_room (Nat.le_of_ble_eq_true rfl)) rfl rfl ⟨Nat.le_trans (Nat.le_of_ble_eq_true rfl) hRf, Nat.le_trans (Nat.le_of_ble_eq_true rfl) hRl⟩ ⟨Nat.zero_le _, Nat.zero_le _⟩
    refine zcalli (wr := (zwM adM adM_tape adM_frameAt adM_field adM_draft adM_given adM_low adM_high adM_packet adM_known cB cI cL sM)) hr_20 hP hD hS hA [] [0, 1, 2, 3, 4, 5, 6, 7, 8, 9] rfl rfl (by decide) (by decide) (fun r_20 u_20 H locs hw_20 hP hD hS => ?_)
    subst hw_20
    have hP : va_P (dC, dI) zcl (zwM adM adM_tape adM_frameAt adM_field adM_draft adM_given adM_low adM_high adM_packet adM_known cB cI cL sM) H := hP
    have hD : va_D A (zwM adM adM_tape adM_frameAt adM_field adM_draft adM_given adM_low adM_high adM_packet adM_known cB cI cL sM) := hD
    have hG : g_M_grow_c20 N sM v1 v3 v5 r_20 = some a := hG
    unfold g_M_grow_c20 at hG
    refine lv_if_ne (tgt := 30) hx hb d_M_grow_23 (by decide) (fun hc => ?_) (fun hc => ?_)
    · have hG := zf hG hc
      refine lv_iconst (v := (0 : Int32)) hx hb d_M_grow_30 (by decide) ?_
      exact k_M_grow_31 X hA zz N sM v1 v3 v5 (0 : Int32) _ hG adM adM_tape adM_frameAt adM_field adM_draft adM_given adM_low adM_high adM_packet adM_known _ _ hP hD hS _ (lv_sub hl [0, 1, 2, 3] rfl)
    · have hG := zt hG hc
      exact k_M_grow_26 X hA zz N sM v1 v3 v5 _ hG adM adM_tape adM_frameAt adM_field adM_draft adM_given adM_low adM_high adM_packet adM_known _ _ hP hD hS _ (lv_sub hl [0, 1, 2, 3] rfl)
set_option maxRecDepth 100000 in
set_option maxHeartbeats 4000000 in
theorem c_M_grow (l : Launch) (dC : Nat → ClassId) (dI : Nat → Nat → Nat) (cB cI cL : ClassId) (sz : Nat) (adM adM_tape adM_frameAt adM_field adM_draft adM_given adM_low adM_high adM_packet adM_known : Nat) (N : Nat) (sM : zM) (v1 : Int64) (v3 : Int64) (v5 : Int32) (a : Int64 × zM) (hG : g_M_grow N sM v1 v3 v5 = some a) : Met l y_M_grow (zw y_M_grow b_M_grow 20 (some .long)) ({ frames := 2, cells := 0, slots := 0, locals := 46 }) (va_Pc [.ref adM, .long v1, .long v3, .int v5] (zpre dC dI cB cI cL sz (zwM adM adM_tape adM_frameAt adM_field adM_draft adM_given adM_low adM_high adM_packet adM_known cB cI cL sM))) (q_M_grow dC dI cB cI cL (va_A (zwM adM adM_tape adM_frameAt adM_field adM_draft adM_given adM_low adM_high adM_packet adM_known cB cI cL sM) sz) adM adM_tape adM_frameAt adM_field adM_draft adM_given adM_low adM_high adM_packet adM_known a) 0 0 (va_A (zwM adM adM_tape adM_frameAt adM_field adM_draft adM_given adM_low adM_high adM_packet adM_known cB cI cL sM) sz) := by
  refine Met.ofW (cc := b_M_grow) (maxL := 20) (ret := (some .long)) (by decide) rfl ?_
  intro p e s m args below meth c s₁ B hml hv
  obtain ⟨rfl, hsz, hP, zz, hD0⟩ := hv
  subst hsz
  have X := zx_of (F := 2) (L := 46) B hml (Nat.le_refl _) (Nat.le_refl _)
  have hD := hD0.self (sz := s.heap.size)
  have hA : ∀ q : Nat, s.heap.size ≤ q → va_A (zwM adM adM_tape adM_frameAt adM_field adM_draft adM_given adM_low adM_high adM_packet adM_known cB cI cL sM) s.heap.size q := fun q h => Or.inr h
  have hl := lv_entry ([.ref adM, .long v1, .long v3, .int v5]) (n := 20) (Nat.le_of_ble_eq_true rfl)
  rw [lg_entry_eq]
  generalize (lg_sl ([.ref adM, .long v1, .long v3, .int v5]) ++ List.replicate (20 - (lg_sl ([.ref adM, .long v1, .long v3, .int v5])).length) Slot.unset).toArray = ls at hl ⊢
  exact k_M_grow_0 X hA zz N sM v1 v3 v5 a hG adM adM_tape adM_frameAt adM_field adM_draft adM_given adM_low adM_high adM_packet adM_known _ _ hP hD va_S.rf ls hl
noncomputable def g_M_hasBytes_32 (s0 : Int32) : Option (Int32) := zg (narrow .boolean (.int s0) = .int s0) (some (s0))
noncomputable def g_M_hasBytes_27  : Option (Int32) := g_M_hasBytes_32 (1 : Int32)
noncomputable def g_M_hasBytes (v0 : Int32) : Option (Int32) := if v0 = (0 : Int32) then g_M_hasBytes_27 else (if v0 = (2 : Int32) then g_M_hasBytes_27 else (if v0 = (13 : Int32) then g_M_hasBytes_27 else (if v0 = (15 : Int32) then g_M_hasBytes_27 else (if v0 = (16 : Int32) then g_M_hasBytes_27 else (g_M_hasBytes_32 (0 : Int32))))))
def q_M_hasBytes (dC : Nat → ClassId) (dI : Nat → Nat → Nat) (cB cI cL : ClassId) (A : Nat → Prop) (a : Int32) : Array Value → State → Outcome → State → Prop := va_Qi (fun (r : Int32) (u : Unit) => (r) = a) (fun u U => va_P (dC, dI) zcl ([] : va_W) U.heap ∧ va_D A ([] : va_W)) A
set_option maxRecDepth 100000 in
set_option maxHeartbeats 4000000 in
theorem k_M_hasBytes_32 {p : Program} {l : Launch} {e : Env} {R : Room} {s : State} {m : MethodId} {args : Array Value} {below : List Frame} {meth : Method} {c : Code} {dC : Nat → ClassId} {dI : Nat → Nat → Nat} {cB cI cL : ClassId} {A : Nat → Prop} (X : zx p s m args meth c R R_M b_M_hasBytes (some .boolean) 1 0 0) (hA : ∀ q, s.heap.size ≤ q → A q) (zz : zk dC dI cB cI cL A s)  (s0 : Int32) (a : Int32) (hG : g_M_hasBytes_32 s0 = some a) (H : Heap) (locs : List Loc) (hP : va_P (dC, dI) zcl ([] : va_W) H) (hD : va_D A ([] : va_W)) (hS : va_S A s.heap H locs) (ls : Array Slot) (hl : lv_has ls 1 []) : W p l e R s m args below meth c H locs 0 0 (MQ below (q_M_hasBytes dC dI cB cI cL A a) args s 0 0 A) (F0 m 32 ls [.int s0]) := by
  obtain ⟨hx, hb, hr, hml, hown, hts, hlocks, hRf, hRl⟩ := id X
  unfold g_M_hasBytes_32 at hG
  obtain ⟨hnb, hG⟩ := zgd hG
  exact W.zret (v := s0) hx hb hr hnb (fun t9 ht9 hW9 => ⟨⟨s0, (), rfl, Option.some.inj hG, by rw [ht9]; exact hP, hD⟩, hS.F ht9⟩) hS.2.2 d_M_hasBytes_32
set_option maxRecDepth 100000 in
set_option maxHeartbeats 4000000 in
theorem k_M_hasBytes_27 {p : Program} {l : Launch} {e : Env} {R : Room} {s : State} {m : MethodId} {args : Array Value} {below : List Frame} {meth : Method} {c : Code} {dC : Nat → ClassId} {dI : Nat → Nat → Nat} {cB cI cL : ClassId} {A : Nat → Prop} (X : zx p s m args meth c R R_M b_M_hasBytes (some .boolean) 1 0 0) (hA : ∀ q, s.heap.size ≤ q → A q) (zz : zk dC dI cB cI cL A s)  (a : Int32) (hG : g_M_hasBytes_27  = some a) (H : Heap) (locs : List Loc) (hP : va_P (dC, dI) zcl ([] : va_W) H) (hD : va_D A ([] : va_W)) (hS : va_S A s.heap H locs) (ls : Array Slot) (hl : lv_has ls 1 []) : W p l e R s m args below meth c H locs 0 0 (MQ below (q_M_hasBytes dC dI cB cI cL A a) args s 0 0 A) (F0 m 27 ls []) := by
  obtain ⟨hx, hb, hr, hml, hown, hts, hlocks, hRf, hRl⟩ := id X
  unfold g_M_hasBytes_27 at hG
  refine lv_iconst (v := (1 : Int32)) hx hb d_M_hasBytes_27 (by decide) ?_
  refine lv_goto (tgt := 32) hx hb d_M_hasBytes_28 (by decide) ?_
  exact k_M_hasBytes_32 X hA zz (1 : Int32) _ hG _ _ hP hD hS _ (lv_sub hl [] rfl)
set_option maxRecDepth 100000 in
set_option maxHeartbeats 4000000 in
theorem k_M_hasBytes_0 {p : Program} {l : Launch} {e : Env} {R : Room} {s : State} {m : MethodId} {args : Array Value} {below : List Frame} {meth : Method} {c : Code} {dC : Nat → ClassId} {dI : Nat → Nat → Nat} {cB cI cL : ClassId} {A : Nat → Prop} (X : zx p s m args meth c R R_M b_M_hasBytes (some .boolean) 1 0 0) (hA : ∀ q, s.heap.size ≤ q → A q) (zz : zk dC dI cB cI cL A s)  (v0 : Int32) (a : Int32) (hG : g_M_hasBytes v0 = some a) (H : Heap) (locs : List Loc) (hP : va_P (dC, dI) zcl ([] : va_W) H) (hD : va_D A ([] : va_W)) (hS : va_S A s.heap H locs) (ls : Array Slot) (hl : lv_has ls 1 [(0, .int v0)]) : W p l e R s m args below meth c H locs 0 0 (MQ below (q_M_hasBytes dC dI cB cI cL A a) args s 0 0 A) (F0 m 0 ls []) := by
  obtain ⟨hx, hb, hr, hml, hown, hts, hlocks, hRf, hRl⟩ := id X
  unfold g_M_hasBytes at hG
  refine lv_iload_n hx hb d_M_hasBytes_0 rfl (lv_at hl 0 rfl) ?_
  refine lv_if_eq (tgt := 27) hx hb d_M_hasBytes_1 (by decide) (fun hc => ?_) (fun hc => ?_)
  · have hG := zt hG hc
    exact k_M_hasBytes_27 X hA zz _ hG _ _ hP hD hS _ (lv_sub hl [] rfl)
  · have hG := zf hG hc
    refine lv_iload_n hx hb d_M_hasBytes_4 rfl (lv_at hl 0 rfl) ?_
    refine lv_iconst (v := (2 : Int32)) hx hb d_M_hasBytes_5 (by decide) ?_
    refine lv_icmp_eq (tgt := 27) hx hb d_M_hasBytes_6 (by decide) (fun hc => ?_) (fun hc => ?_)
    · have hG := zt hG hc
      exact k_M_hasBytes_27 X hA zz _ hG _ _ hP hD hS _ (lv_sub hl [] rfl)
    · have hG := zf hG hc
      refine lv_iload_n hx hb d_M_hasBytes_9 rfl (lv_at hl 0 rfl) ?_
      refine lv_bipush (v := (13 : Int32)) hx hb d_M_hasBytes_10 (by decide) ?_
      refine lv_icmp_eq (tgt := 27) hx hb d_M_hasBytes_12 (by decide) (fun hc => ?_) (fun hc => ?_)
      · have hG := zt hG hc
        exact k_M_hasBytes_27 X hA zz _ hG _ _ hP hD hS _ (lv_sub hl [] rfl)
      · have hG := zf hG hc
        refine lv_iload_n hx hb d_M_hasBytes_15 rfl (lv_at hl 0 rfl) ?_
        refine lv_bipush (v := (15 : Int32)) hx hb d_M_hasBytes_16 (by decide) ?_
        refine lv_icmp_eq (tgt := 27) hx hb d_M_hasBytes_18 (by decide) (fun hc => ?_) (fun hc => ?_)
        · have hG := zt hG hc
          exact k_M_hasBytes_27 X hA zz _ hG _ _ hP hD hS _ (lv_sub hl [] rfl)
        · have hG := zf hG hc
          refine lv_iload_n hx hb d_M_hasBytes_21 rfl (lv_at hl 0 rfl) ?_
          refine lv_bipush (v := (16 : Int32)) hx hb d_M_hasBytes_22 (by decide) ?_
          refine lv_icmp_ne (tgt := 31) hx hb d_M_hasBytes_24 (by decide) (fun hc => ?_) (fun hc => ?_)
          · have hG := zf hG hc
            refine lv_iconst (v := (0 : Int32)) hx hb d_M_hasBytes_31 (by decide) ?_
            exact k_M_hasBytes_32 X hA zz (0 : Int32) _ hG _ _ hP hD hS _ (lv_sub hl [] rfl)
          · have hG := zt hG hc
            exact k_M_hasBytes_27 X hA zz _ hG _ _ hP hD hS _ (lv_sub hl [] rfl)
set_option maxRecDepth 100000 in
set_option maxHeartbeats 4000000 in
theorem c_M_hasBytes (l : Launch) (dC : Nat → ClassId) (dI : Nat → Nat → Nat) (cB cI cL : ClassId) (sz : Nat) (v0 : Int32) (a : Int32) (hG : g_M_hasBytes v0 = some a) : Met l y_M_hasBytes (zw y_M_hasBytes b_M_hasBytes 1 (some .boolean)) ({ frames := 0, cells := 0, slots := 0, locals := 0 }) (va_Pc [.int v0] (zpre dC dI cB cI cL sz ([] : va_W))) (q_M_hasBytes dC dI cB cI cL (va_A ([] : va_W) sz) a) 0 0 (va_A ([] : va_W) sz) := by
  refine Met.ofW (cc := b_M_hasBytes) (maxL := 1) (ret := (some .boolean)) (by decide) rfl ?_
  intro p e s m args below meth c s₁ B hml hv
  obtain ⟨rfl, hsz, hP, zz, hD0⟩ := hv
  subst hsz
  have X := zx_of (F := 0) (L := 0) B hml (Nat.le_refl _) (Nat.le_refl _)
  have hD := hD0.self (sz := s.heap.size)
  have hA : ∀ q : Nat, s.heap.size ≤ q → va_A ([] : va_W) s.heap.size q := fun q h => Or.inr h
  have hl := lv_entry ([.int v0]) (n := 1) (Nat.le_of_ble_eq_true rfl)
  rw [lg_entry_eq]
  generalize (lg_sl ([.int v0]) ++ List.replicate (1 - (lg_sl ([.int v0])).length) Slot.unset).toArray = ls at hl ⊢
  exact k_M_hasBytes_0 X hA zz v0 a hG _ _ hP hD va_S.rf ls hl
noncomputable def g_M_forgetParameters_w72 (sM_72 : zM) : Option (zM) := some (sM_72)
noncomputable def g_M_forgetParameters_w62 (sM_62 : zM) : Option (zM) := zg (vp_in (14 : Int32) 17) (g_M_forgetParameters_w72 (zM_known' sM_62 (vp_updL (zM_known sM_62) ((14 : Int32).toNatClampNeg) (2 : Int64))))
noncomputable def g_M_forgetParameters_w52 (sM_52 : zM) : Option (zM) := zg (vp_in (11 : Int32) 17) (g_M_forgetParameters_w62 (zM_known' sM_52 (vp_updL (zM_known sM_52) ((11 : Int32).toNatClampNeg) (25 : Int64))))
noncomputable def g_M_forgetParameters_w42 (sM_42 : zM) : Option (zM) := zg (vp_in (10 : Int32) 17) (g_M_forgetParameters_w52 (zM_known' sM_42 (vp_updL (zM_known sM_42) ((10 : Int32).toNatClampNeg) (3 : Int64))))
noncomputable def g_M_forgetParameters_w27 (kr : zM → Int32 → Option (zM)) (v1 : Int32) (sM_27 : zM) : Option (zM) := kr sM_27 (v1 + 1)
noncomputable def g_M_forgetParameters_27 (N : Nat) (kr : zM → Int32 → Option (zM)) (sM : zM) (v1 : Int32) (s0 : Int64) (s1 : Int32) : Option (zM) := zg (vp_in s1 17) (g_M_forgetParameters_w27 kr v1 (zM_known' sM (vp_updL (zM_known sM) s1.toNatClampNeg s0)))
noncomputable def g_M_forgetParameters_c14 (N : Nat) (kr : zM → Int32 → Option (zM)) (sM : zM) (v1 : Int32) (r_14 : Int32) : Option (zM) := if r_14 = (0 : Int32) then (g_M_forgetParameters_27 N kr sM v1 (0 : Int64) v1) else (g_M_forgetParameters_27 N kr sM v1 (-1 : Int64) v1)
noncomputable def g_M_forgetParameters_2_b (N : Nat) (kr : zM → Int32 → Option (zM)) (sM : zM) (v1 : Int32) : Option (zM) := if (17 : Int32) ≤ v1 then (zg (vp_in (3 : Int32) 17) (g_M_forgetParameters_w42 (zM_known' sM (vp_updL (zM_known sM) ((3 : Int32).toNatClampNeg) (65527 : Int64))))) else ((g_M_hasBytes v1).bind (fun a => g_M_forgetParameters_c14 N kr sM v1 a))
noncomputable def g_M_forgetParameters_2 (N : Nat) : Nat → zM → Int32 → Option (zM)
  | 0 => fun _ _ => none
  | k + 1 => fun sM v1 => g_M_forgetParameters_2_b N (g_M_forgetParameters_2 N k) sM v1
noncomputable def g_M_forgetParameters (N : Nat) (sM : zM) : Option (zM) := g_M_forgetParameters_2 N N sM (0 : Int32)
def q_M_forgetParameters (dC : Nat → ClassId) (dI : Nat → Nat → Nat) (cB cI cL : ClassId) (A : Nat → Prop) (adM : Nat) (adM_tape : Nat) (adM_frameAt : Nat) (adM_field : Nat) (adM_draft : Nat) (adM_given : Nat) (adM_low : Nat) (adM_high : Nat) (adM_packet : Nat) (adM_known : Nat) (a : zM) : Array Value → State → Outcome → State → Prop := va_Qv (fun (u : zM) => (u) = a) (fun u U => va_P (dC, dI) zcl (zwM adM adM_tape adM_frameAt adM_field adM_draft adM_given adM_low adM_high adM_packet adM_known cB cI cL u) U.heap ∧ va_D A (zwM adM adM_tape adM_frameAt adM_field adM_draft adM_given adM_low adM_high adM_packet adM_known cB cI cL u)) A
set_option maxRecDepth 100000 in
set_option maxHeartbeats 4000000 in
theorem k_M_forgetParameters_27 {p : Program} {l : Launch} {e : Env} {R : Room} {s : State} {m : MethodId} {args : Array Value} {below : List Frame} {meth : Method} {c : Code} {dC : Nat → ClassId} {dI : Nat → Nat → Nat} {cB cI cL : ClassId} {A : Nat → Prop} (kr : zM → Int32 → Option (zM)) (hrec : ∀ (sM : zM) (v1 : Int32) (a : zM), kr sM v1 = some a → ∀ (adM adM_tape adM_frameAt adM_field adM_draft adM_given adM_low adM_high adM_packet adM_known : Nat) (H : Heap) (locs : List Loc), va_P (dC, dI) zcl (zwM adM adM_tape adM_frameAt adM_field adM_draft adM_given adM_low adM_high adM_packet adM_known cB cI cL sM) H → va_D A (zwM adM adM_tape adM_frameAt adM_field adM_draft adM_given adM_low adM_high adM_packet adM_known cB cI cL sM) → va_S A s.heap H locs → ∀ ls : Array Slot, lv_has ls 2 [(0, .ref adM), (1, .int v1)] → W p l e R s m args below meth c H locs 0 0 (MQ below (q_M_forgetParameters dC dI cB cI cL A adM adM_tape adM_frameAt adM_field adM_draft adM_given adM_low adM_high adM_packet adM_known a) args s 0 0 A) (F0 m 2 ls [])) (X : zx p s m args meth c R R_M b_M_forgetParameters none 2 1 20) (hA : ∀ q, s.heap.size ≤ q → A q) (zz : zk dC dI cB cI cL A s)  (N : Nat) (sM : zM) (v1 : Int32) (s0 : Int64) (s1 : Int32) (a : zM) (hG : g_M_forgetParameters_27 N kr sM v1 s0 s1 = some a) (adM adM_tape adM_frameAt adM_field adM_draft adM_given adM_low adM_high adM_packet adM_known : Nat) (H : Heap) (locs : List Loc) (hP : va_P (dC, dI) zcl (zwM adM adM_tape adM_frameAt adM_field adM_draft adM_given adM_low adM_high adM_packet adM_known cB cI cL sM) H) (hD : va_D A (zwM adM adM_tape adM_frameAt adM_field adM_draft adM_given adM_low adM_high adM_packet adM_known cB cI cL sM)) (hS : va_S A s.heap H locs) (ls : Array Slot) (hl : lv_has ls 2 [(0, .ref adM), (1, .int v1)]) : W p l e R s m args below meth c H locs 0 0 (MQ below (q_M_forgetParameters dC dI cB cI cL A adM adM_tape adM_frameAt adM_field adM_draft adM_given adM_low adM_high adM_packet adM_known a) args s 0 0 A) (F0 m 27 ls [.long s0, .int s1, .ref adM_known]) := by
  obtain ⟨hx, hb, hr, hml, hown, hts, hlocks, hRf, hRl⟩ := id X
  unfold g_M_forgetParameters_27 at hG
  obtain ⟨hin, hG⟩ := zgd hG
  refine va_last hx hb zz.1 hP hD hS 9 2 rfl rfl hin d_M_forgetParameters_27 (fun H locs hP hD hS => ?_)
  have hP := zp_M_known hP
  have hD := zd_M_known hD
  have hG : g_M_forgetParameters_w27 kr v1 (zM_known' sM (vp_updL (zM_known sM) s1.toNatClampNeg s0)) = some a := hG
  generalize zM_known' sM (vp_updL (zM_known sM) s1.toNatClampNeg s0) = sM_27 at hP hD hG
  unfold g_M_forgetParameters_w27 at hG
  refine lv_iinc (v := v1 + 1) (lv' := [(1, .int (v1 + 1)), (0, .ref adM)]) hx hb d_M_forgetParameters_28 hl (k := 1) rfl rfl (by decide) rfl (fun ls hl => ?_)
  refine lv_goto (tgt := 2) hx hb d_M_forgetParameters_31 (by decide) ?_
  exact hrec sM_27 (v1 + 1) _ hG adM adM_tape adM_frameAt adM_field adM_draft adM_given adM_low adM_high adM_packet adM_known _ _ hP hD hS _ (lv_sub hl [1, 0] rfl)
set_option maxRecDepth 100000 in
set_option maxHeartbeats 4000000 in
theorem k_M_forgetParameters_2_b {p : Program} {l : Launch} {e : Env} {R : Room} {s : State} {m : MethodId} {args : Array Value} {below : List Frame} {meth : Method} {c : Code} {dC : Nat → ClassId} {dI : Nat → Nat → Nat} {cB cI cL : ClassId} {A : Nat → Prop} (kr : zM → Int32 → Option (zM)) (hrec : ∀ (sM : zM) (v1 : Int32) (a : zM), kr sM v1 = some a → ∀ (adM adM_tape adM_frameAt adM_field adM_draft adM_given adM_low adM_high adM_packet adM_known : Nat) (H : Heap) (locs : List Loc), va_P (dC, dI) zcl (zwM adM adM_tape adM_frameAt adM_field adM_draft adM_given adM_low adM_high adM_packet adM_known cB cI cL sM) H → va_D A (zwM adM adM_tape adM_frameAt adM_field adM_draft adM_given adM_low adM_high adM_packet adM_known cB cI cL sM) → va_S A s.heap H locs → ∀ ls : Array Slot, lv_has ls 2 [(0, .ref adM), (1, .int v1)] → W p l e R s m args below meth c H locs 0 0 (MQ below (q_M_forgetParameters dC dI cB cI cL A adM adM_tape adM_frameAt adM_field adM_draft adM_given adM_low adM_high adM_packet adM_known a) args s 0 0 A) (F0 m 2 ls [])) (X : zx p s m args meth c R R_M b_M_forgetParameters none 2 1 20) (hA : ∀ q, s.heap.size ≤ q → A q) (zz : zk dC dI cB cI cL A s)  (N : Nat) (sM : zM) (v1 : Int32) (a : zM) (hG : g_M_forgetParameters_2_b N kr sM v1 = some a) (adM adM_tape adM_frameAt adM_field adM_draft adM_given adM_low adM_high adM_packet adM_known : Nat) (H : Heap) (locs : List Loc) (hP : va_P (dC, dI) zcl (zwM adM adM_tape adM_frameAt adM_field adM_draft adM_given adM_low adM_high adM_packet adM_known cB cI cL sM) H) (hD : va_D A (zwM adM adM_tape adM_frameAt adM_field adM_draft adM_given adM_low adM_high adM_packet adM_known cB cI cL sM)) (hS : va_S A s.heap H locs) (ls : Array Slot) (hl : lv_has ls 2 [(0, .ref adM), (1, .int v1)]) : W p l e R s m args below meth c H locs 0 0 (MQ below (q_M_forgetParameters dC dI cB cI cL A adM adM_tape adM_frameAt adM_field adM_draft adM_given adM_low adM_high adM_packet adM_known a) args s 0 0 A) (F0 m 2 ls []) := by
  obtain ⟨hx, hb, hr, hml, hown, hts, hlocks, hRf, hRl⟩ := id X
  unfold g_M_forgetParameters_2_b at hG
  refine lv_iload_n hx hb d_M_forgetParameters_2 rfl (lv_at hl 1 rfl) ?_
  refine lv_bipush (v := (17 : Int32)) hx hb d_M_forgetParameters_3 (by decide) ?_
  refine lv_icmp_ge (tgt := 34) hx hb d_M_forgetParameters_5 (by decide) (fun hc => ?_) (fun hc => ?_)
  · have hG := zt hG hc
    refine lv_aload_n hx hb d_M_forgetParameters_34 rfl (lv_at hl 0 rfl) ?_
    refine va_get (D := (dC, dI)) (ci := 8) (v := .ref adM_known) (C := R_M) (T := F_M) (N := 26) hx hb hts zi_M hown zz.1 hP 0 rfl rfl 25 (by decide) (hts (.fieldLink R_M 42 "WireCodecModel" "known" "[J") zin_M_42) (fun _ h9 => h9) rfl d_M_forgetParameters_35 ?_
    refine lv_iconst (v := (3 : Int32)) hx hb d_M_forgetParameters_38 (by decide) ?_
    refine lv_ldc2 (v := (65527 : Int64)) hx hb hown (hts (.constantLong R_M 277 (65527 : Int64)) zin_M_277) d_M_forgetParameters_39 ?_
    obtain ⟨hin, hG⟩ := zgd hG
    refine va_last hx hb zz.1 hP hD hS 9 2 rfl rfl hin d_M_forgetParameters_42 (fun H locs hP hD hS => ?_)
    have hP := zp_M_known hP
    have hD := zd_M_known hD
    have hG : g_M_forgetParameters_w42 (zM_known' sM (vp_updL (zM_known sM) ((3 : Int32).toNatClampNeg) (65527 : Int64))) = some a := hG
    generalize zM_known' sM (vp_updL (zM_known sM) ((3 : Int32).toNatClampNeg) (65527 : Int64)) = sM_42 at hP hD hG
    unfold g_M_forgetParameters_w42 at hG
    refine lv_aload_n hx hb d_M_forgetParameters_43 rfl (lv_at hl 0 rfl) ?_
    refine va_get (D := (dC, dI)) (ci := 8) (v := .ref adM_known) (C := R_M) (T := F_M) (N := 26) hx hb hts zi_M hown zz.1 hP 0 rfl rfl 25 (by decide) (hts (.fieldLink R_M 42 "WireCodecModel" "known" "[J") zin_M_42) (fun _ h9 => h9) rfl d_M_forgetParameters_44 ?_
    refine lv_bipush (v := (10 : Int32)) hx hb d_M_forgetParameters_47 (by decide) ?_
    refine lv_ldc2 (v := (3 : Int64)) hx hb hown (hts (.constantLong R_M 78 (3 : Int64)) zin_M_78) d_M_forgetParameters_49 ?_
    obtain ⟨hin, hG⟩ := zgd hG
    refine va_last hx hb zz.1 hP hD hS 9 2 rfl rfl hin d_M_forgetParameters_52 (fun H locs hP hD hS => ?_)
    have hP := zp_M_known hP
    have hD := zd_M_known hD
    have hG : g_M_forgetParameters_w52 (zM_known' sM_42 (vp_updL (zM_known sM_42) ((10 : Int32).toNatClampNeg) (3 : Int64))) = some a := hG
    generalize zM_known' sM_42 (vp_updL (zM_known sM_42) ((10 : Int32).toNatClampNeg) (3 : Int64)) = sM_52 at hP hD hG
    unfold g_M_forgetParameters_w52 at hG
    refine lv_aload_n hx hb d_M_forgetParameters_53 rfl (lv_at hl 0 rfl) ?_
    refine va_get (D := (dC, dI)) (ci := 8) (v := .ref adM_known) (C := R_M) (T := F_M) (N := 26) hx hb hts zi_M hown zz.1 hP 0 rfl rfl 25 (by decide) (hts (.fieldLink R_M 42 "WireCodecModel" "known" "[J") zin_M_42) (fun _ h9 => h9) rfl d_M_forgetParameters_54 ?_
    refine lv_bipush (v := (11 : Int32)) hx hb d_M_forgetParameters_57 (by decide) ?_
    refine lv_ldc2 (v := (25 : Int64)) hx hb hown (hts (.constantLong R_M 279 (25 : Int64)) zin_M_279) d_M_forgetParameters_59 ?_
    obtain ⟨hin, hG⟩ := zgd hG
    refine va_last hx hb zz.1 hP hD hS 9 2 rfl rfl hin d_M_forgetParameters_62 (fun H locs hP hD hS => ?_)
    have hP := zp_M_known hP
    have hD := zd_M_known hD
    have hG : g_M_forgetParameters_w62 (zM_known' sM_52 (vp_updL (zM_known sM_52) ((11 : Int32).toNatClampNeg) (25 : Int64))) = some a := hG
    generalize zM_known' sM_52 (vp_updL (zM_known sM_52) ((11 : Int32).toNatClampNeg) (25 : Int64)) = sM_62 at hP hD hG
    unfold g_M_forgetParameters_w62 at hG
    refine lv_aload_n hx hb d_M_forgetParameters_63 rfl (lv_at hl 0 rfl) ?_
    refine va_get (D := (dC, dI)) (ci := 8) (v := .ref adM_known) (C := R_M) (T := F_M) (N := 26) hx hb hts zi_M hown zz.1 hP 0 rfl rfl 25 (by decide) (hts (.fieldLink R_M 42 "WireCodecModel" "known" "[J") zin_M_42) (fun _ h9 => h9) rfl d_M_forgetParameters_64 ?_
    refine lv_bipush (v := (14 : Int32)) hx hb d_M_forgetParameters_67 (by decide) ?_
    refine lv_ldc2 (v := (2 : Int64)) hx hb hown (hts (.constantLong R_M 76 (2 : Int64)) zin_M_76) d_M_forgetParameters_69 ?_
    obtain ⟨hin, hG⟩ := zgd hG
    refine va_last hx hb zz.1 hP hD hS 9 2 rfl rfl hin d_M_forgetParameters_72 (fun H locs hP hD hS => ?_)
    have hP := zp_M_known hP
    have hD := zd_M_known hD
    have hG : g_M_forgetParameters_w72 (zM_known' sM_62 (vp_updL (zM_known sM_62) ((14 : Int32).toNatClampNeg) (2 : Int64))) = some a := hG
    generalize zM_known' sM_62 (vp_updL (zM_known sM_62) ((14 : Int32).toNatClampNeg) (2 : Int64)) = sM_72 at hP hD hG
    unfold g_M_forgetParameters_w72 at hG
    exact W.vret hx hb hr (fun t9 ht9 hW9 => ⟨⟨(sM_72), rfl, Option.some.inj hG, by rw [ht9]; exact hP, hD⟩, hS.F ht9⟩) hS.2.2 d_M_forgetParameters_73
  · have hG := zf hG hc
    refine lv_aload_n hx hb d_M_forgetParameters_8 rfl (lv_at hl 0 rfl) ?_
    refine va_get (D := (dC, dI)) (ci := 8) (v := .ref adM_known) (C := R_M) (T := F_M) (N := 26) hx hb hts zi_M hown zz.1 hP 0 rfl rfl 25 (by decide) (hts (.fieldLink R_M 42 "WireCodecModel" "known" "[J") zin_M_42) (fun _ h9 => h9) rfl d_M_forgetParameters_9 ?_
    refine lv_iload_n hx hb d_M_forgetParameters_12 rfl (lv_at hl 1 rfl) ?_
    refine lv_iload_n hx hb d_M_forgetParameters_13 rfl (lv_at hl 1 rfl) ?_
    obtain ⟨a_14, hx_14, hG⟩ := zb hG
    have hr_14 := zrunS (p := p) (e := e) (below := below) (meth := meth) (As := [.int v1]) (rest := [.int v1, .ref adM_known]) (st0 := [.int v1, .int v1, .ref adM_known]) (cells := 0) (slots := 0) X zz hP hD hS hA [] (by decide) rfl (c_M_hasBytes l dC dI cB cI cL H.size v1 _ hx_14) zy_M_hasBytes zv_M_hasBytes (hts (.methodLink R_M 274 y_M_hasBytes) zin_M_274) hl rfl rfl d_M_forgetParameters_14 (lv_room (Nat.le_of_ble_eq_true rfl)) rfl rfl ⟨Nat.le_trans (Nat.le_of_ble_eq_true rfl) hRf, Nat.le_trans (Nat.le_of_ble_eq_true rfl) hRl⟩ ⟨Nat.zero_le _, Nat.zero_le _⟩
    refine zcalli (wr := (zwM adM adM_tape adM_frameAt adM_field adM_draft adM_given adM_low adM_high adM_packet adM_known cB cI cL sM)) hr_14 hP hD hS hA [] [0, 1, 2, 3, 4, 5, 6, 7, 8, 9] rfl rfl (by decide) (by decide) (fun r_14 u_14 H locs hw_14 hP hD hS => ?_)
    subst hw_14
    have hP : va_P (dC, dI) zcl (zwM adM adM_tape adM_frameAt adM_field adM_draft adM_given adM_low adM_high adM_packet adM_known cB cI cL sM) H := hP
    have hD : va_D A (zwM adM adM_tape adM_frameAt adM_field adM_draft adM_given adM_low adM_high adM_packet adM_known cB cI cL sM) := hD
    have hG : g_M_forgetParameters_c14 N kr sM v1 r_14 = some a := hG
    unfold g_M_forgetParameters_c14 at hG
    refine lv_if_eq (tgt := 26) hx hb d_M_forgetParameters_17 (by decide) (fun hc => ?_) (fun hc => ?_)
    · have hG := zt hG hc
      refine lv_lconst (v := (0 : Int64)) hx hb d_M_forgetParameters_26 (by decide) ?_
      exact k_M_forgetParameters_27 kr hrec X hA zz N sM v1 (0 : Int64) v1 _ hG adM adM_tape adM_frameAt adM_field adM_draft adM_given adM_low adM_high adM_packet adM_known _ _ hP hD hS _ (lv_sub hl [0, 1] rfl)
    · have hG := zf hG hc
      refine lv_ldc2 (v := (-1 : Int64)) hx hb hown (hts (.constantLong R_M 132 (-1 : Int64)) zin_M_132) d_M_forgetParameters_20 ?_
      refine lv_goto (tgt := 27) hx hb d_M_forgetParameters_23 (by decide) ?_
      exact k_M_forgetParameters_27 kr hrec X hA zz N sM v1 (-1 : Int64) v1 _ hG adM adM_tape adM_frameAt adM_field adM_draft adM_given adM_low adM_high adM_packet adM_known _ _ hP hD hS _ (lv_sub hl [0, 1] rfl)
theorem k_M_forgetParameters_2 {p : Program} {l : Launch} {e : Env} {R : Room} {s : State} {m : MethodId} {args : Array Value} {below : List Frame} {meth : Method} {c : Code} {dC : Nat → ClassId} {dI : Nat → Nat → Nat} {cB cI cL : ClassId} {A : Nat → Prop} (X : zx p s m args meth c R R_M b_M_forgetParameters none 2 1 20) (hA : ∀ q, s.heap.size ≤ q → A q) (zz : zk dC dI cB cI cL A s)  (N : Nat) : ∀ (k : Nat) (sM : zM) (v1 : Int32) (a : zM) (hG : g_M_forgetParameters_2 N k sM v1 = some a) (adM adM_tape adM_frameAt adM_field adM_draft adM_given adM_low adM_high adM_packet adM_known : Nat) (H : Heap) (locs : List Loc) (hP : va_P (dC, dI) zcl (zwM adM adM_tape adM_frameAt adM_field adM_draft adM_given adM_low adM_high adM_packet adM_known cB cI cL sM) H) (hD : va_D A (zwM adM adM_tape adM_frameAt adM_field adM_draft adM_given adM_low adM_high adM_packet adM_known cB cI cL sM)) (hS : va_S A s.heap H locs) (ls : Array Slot) (hl : lv_has ls 2 [(0, .ref adM), (1, .int v1)]), W p l e R s m args below meth c H locs 0 0 (MQ below (q_M_forgetParameters dC dI cB cI cL A adM adM_tape adM_frameAt adM_field adM_draft adM_given adM_low adM_high adM_packet adM_known a) args s 0 0 A) (F0 m 2 ls []) := by
  intro k
  induction k with
  | zero => intro sM v1 a hG; exact absurd hG (by unfold g_M_forgetParameters_2; simp)
  | succ k ih => intro sM v1 a hG adM adM_tape adM_frameAt adM_field adM_draft adM_given adM_low adM_high adM_packet adM_known H locs hP hD hS ls hl; exact k_M_forgetParameters_2_b _ ih X hA zz N sM v1 a hG adM adM_tape adM_frameAt adM_field adM_draft adM_given adM_low adM_high adM_packet adM_known H locs hP hD hS ls hl
set_option maxRecDepth 100000 in
set_option maxHeartbeats 4000000 in
theorem k_M_forgetParameters_0 {p : Program} {l : Launch} {e : Env} {R : Room} {s : State} {m : MethodId} {args : Array Value} {below : List Frame} {meth : Method} {c : Code} {dC : Nat → ClassId} {dI : Nat → Nat → Nat} {cB cI cL : ClassId} {A : Nat → Prop} (X : zx p s m args meth c R R_M b_M_forgetParameters none 2 1 20) (hA : ∀ q, s.heap.size ≤ q → A q) (zz : zk dC dI cB cI cL A s)  (N : Nat) (sM : zM) (a : zM) (hG : g_M_forgetParameters N sM = some a) (adM adM_tape adM_frameAt adM_field adM_draft adM_given adM_low adM_high adM_packet adM_known : Nat) (H : Heap) (locs : List Loc) (hP : va_P (dC, dI) zcl (zwM adM adM_tape adM_frameAt adM_field adM_draft adM_given adM_low adM_high adM_packet adM_known cB cI cL sM) H) (hD : va_D A (zwM adM adM_tape adM_frameAt adM_field adM_draft adM_given adM_low adM_high adM_packet adM_known cB cI cL sM)) (hS : va_S A s.heap H locs) (ls : Array Slot) (hl : lv_has ls 2 [(0, .ref adM)]) : W p l e R s m args below meth c H locs 0 0 (MQ below (q_M_forgetParameters dC dI cB cI cL A adM adM_tape adM_frameAt adM_field adM_draft adM_given adM_low adM_high adM_packet adM_known a) args s 0 0 A) (F0 m 0 ls []) := by
  obtain ⟨hx, hb, hr, hml, hown, hts, hlocks, hRf, hRl⟩ := id X
  unfold g_M_forgetParameters at hG
  refine lv_iconst (v := (0 : Int32)) hx hb d_M_forgetParameters_0 (by decide) ?_
  refine lv_istore_n (lv' := [(1, .int (0 : Int32)), (0, .ref adM)]) hx hb d_M_forgetParameters_1 rfl hl (by decide) rfl (fun ls hl => ?_)
  exact k_M_forgetParameters_2 X hA zz N N sM (0 : Int32) _ hG adM adM_tape adM_frameAt adM_field adM_draft adM_given adM_low adM_high adM_packet adM_known _ _ hP hD hS _ (lv_sub hl [1, 0] rfl)
set_option maxRecDepth 100000 in
set_option maxHeartbeats 4000000 in
theorem c_M_forgetParameters (l : Launch) (dC : Nat → ClassId) (dI : Nat → Nat → Nat) (cB cI cL : ClassId) (sz : Nat) (adM adM_tape adM_frameAt adM_field adM_draft adM_given adM_low adM_high adM_packet adM_known : Nat) (N : Nat) (sM : zM) (a : zM) (hG : g_M_forgetParameters N sM = some a) : Met l y_M_forgetParameters (zw y_M_forgetParameters b_M_forgetParameters 2 none) ({ frames := 1, cells := 0, slots := 0, locals := 20 }) (va_Pc [.ref adM] (zpre dC dI cB cI cL sz (zwM adM adM_tape adM_frameAt adM_field adM_draft adM_given adM_low adM_high adM_packet adM_known cB cI cL sM))) (q_M_forgetParameters dC dI cB cI cL (va_A (zwM adM adM_tape adM_frameAt adM_field adM_draft adM_given adM_low adM_high adM_packet adM_known cB cI cL sM) sz) adM adM_tape adM_frameAt adM_field adM_draft adM_given adM_low adM_high adM_packet adM_known a) 0 0 (va_A (zwM adM adM_tape adM_frameAt adM_field adM_draft adM_given adM_low adM_high adM_packet adM_known cB cI cL sM) sz) := by
  refine Met.ofW (cc := b_M_forgetParameters) (maxL := 2) (ret := none) (by decide) rfl ?_
  intro p e s m args below meth c s₁ B hml hv
  obtain ⟨rfl, hsz, hP, zz, hD0⟩ := hv
  subst hsz
  have X := zx_of (F := 1) (L := 20) B hml (Nat.le_refl _) (Nat.le_refl _)
  have hD := hD0.self (sz := s.heap.size)
  have hA : ∀ q : Nat, s.heap.size ≤ q → va_A (zwM adM adM_tape adM_frameAt adM_field adM_draft adM_given adM_low adM_high adM_packet adM_known cB cI cL sM) s.heap.size q := fun q h => Or.inr h
  have hl := lv_entry ([.ref adM]) (n := 2) (Nat.le_of_ble_eq_true rfl)
  rw [lg_entry_eq]
  generalize (lg_sl ([.ref adM]) ++ List.replicate (2 - (lg_sl ([.ref adM])).length) Slot.unset).toArray = ls at hl ⊢
  exact k_M_forgetParameters_0 X hA zz N sM a hG adM adM_tape adM_frameAt adM_field adM_draft adM_given adM_low adM_high adM_packet adM_known _ _ hP hD va_S.rf ls hl
noncomputable def g_M_suitsId_266 (N : Nat) (sM : zM) (s0 : Int32) : Option (Int32 × zM) := zg (narrow .boolean (.int s0) = .int s0) (some (s0, sM))
noncomputable def g_M_suitsId_265 (N : Nat) (sM : zM) : Option (Int32 × zM) := g_M_suitsId_266 N sM (0 : Int32)
noncomputable def g_M_suitsId_244 (N : Nat) (sM : zM) (v8 : Int32) (v9 : Int32) (s0 : Int32) : Option (Int32 × zM) := if v8 = (0 : Int32) then (g_M_suitsId_265 N sM) else (if v9 = (0 : Int32) then (if s0 = (0 : Int32) then (g_M_suitsId_266 N sM (1 : Int32)) else (g_M_suitsId_265 N sM)) else (g_M_suitsId_265 N sM))
noncomputable def g_M_suitsId_239 (N : Nat) (sM : zM) (v8 : Int32) (v9 : Int32) : Option (Int32 × zM) := g_M_suitsId_244 N sM v8 v9 (1 : Int32)
noncomputable def g_M_suitsId_243 (N : Nat) (sM : zM) (v8 : Int32) (v9 : Int32) : Option (Int32 × zM) := g_M_suitsId_244 N sM v8 v9 (0 : Int32)
noncomputable def g_M_suitsId_224 (N : Nat) (sM : zM) (v1 : Int32) (v6 : Int64) (v8 : Int32) (v9 : Int32) : Option (Int32 × zM) := if v1 = (11 : Int32) then (if (lg_cmp v6 (16383 : Int64)) ≤ (0 : Int32) then (g_M_suitsId_243 N sM v8 v9) else (g_M_suitsId_239 N sM v8 v9)) else (g_M_suitsId_243 N sM v8 v9)
noncomputable def g_M_suitsId_209 (N : Nat) (sM : zM) (v1 : Int32) (v6 : Int64) (v8 : Int32) (v9 : Int32) : Option (Int32 × zM) := if v1 = (10 : Int32) then (if (0 : Int32) < (lg_cmp v6 (20 : Int64)) then (g_M_suitsId_239 N sM v8 v9) else (g_M_suitsId_224 N sM v1 v6 v8 v9)) else (g_M_suitsId_224 N sM v1 v6 v8 v9)
noncomputable def g_M_suitsId_200 (N : Nat) (sM : zM) (v1 : Int32) (v6 : Int64) (v8 : Int32) (v9 : Int32) : Option (Int32 × zM) := if (0 : Int32) < (lg_cmp v6 (1152921504606846976 : Int64)) then (g_M_suitsId_239 N sM v8 v9) else (g_M_suitsId_209 N sM v1 v6 v8 v9)
noncomputable def g_M_suitsId_186 (N : Nat) (sM : zM) (v1 : Int32) (v6 : Int64) (v8 : Int32) (s0 : Int32) : Option (Int32 × zM) := if v1 = (8 : Int32) then (g_M_suitsId_200 N sM v1 v6 v8 s0) else (if v1 = (9 : Int32) then (g_M_suitsId_200 N sM v1 v6 v8 s0) else (g_M_suitsId_209 N sM v1 v6 v8 s0))
noncomputable def g_M_suitsId_185 (N : Nat) (sM : zM) (v1 : Int32) (v6 : Int64) (v8 : Int32) : Option (Int32 × zM) := g_M_suitsId_186 N sM v1 v6 v8 (0 : Int32)
noncomputable def g_M_suitsId_181 (N : Nat) (sM : zM) (v1 : Int32) (v6 : Int64) (v8 : Int32) : Option (Int32 × zM) := g_M_suitsId_186 N sM v1 v6 v8 (1 : Int32)
noncomputable def g_M_suitsId_166 (N : Nat) (sM : zM) (v1 : Int32) (v6 : Int64) (v8 : Int32) : Option (Int32 × zM) := if v1 = (14 : Int32) then (if (0 : Int32) ≤ (lg_cmp v6 (2 : Int64)) then (g_M_suitsId_185 N sM v1 v6 v8) else (g_M_suitsId_181 N sM v1 v6 v8)) else (g_M_suitsId_185 N sM v1 v6 v8)
noncomputable def g_M_suitsId_w151 (N : Nat) (v1 : Int32) (v6 : Int64) (s0 : Int32) (sM_151 : zM) : Option (Int32 × zM) := if v1 = (3 : Int32) then (if (lg_cmp v6 (1200 : Int64)) < (0 : Int32) then (g_M_suitsId_181 N sM_151 v1 v6 s0) else (g_M_suitsId_166 N sM_151 v1 v6 s0)) else (g_M_suitsId_166 N sM_151 v1 v6 s0)
noncomputable def g_M_suitsId_w141 (N : Nat) (v1 : Int32) (v6 : Int64) (s0 : Int32) (sM_141 : zM) : Option (Int32 × zM) := zg (vp_in v1 17) (g_M_suitsId_w151 N v1 v6 s0 (zM_known' sM_141 (vp_updL (zM_known sM_141) v1.toNatClampNeg v6)))
noncomputable def g_M_suitsId_w136 (N : Nat) (v1 : Int32) (v6 : Int64) (s0 : Int32) (sM_136 : zM) : Option (Int32 × zM) := g_M_suitsId_w141 N v1 v6 s0 (zM_over' sM_136 (0 : Int32))
noncomputable def g_M_suitsId_w130 (N : Nat) (v1 : Int32) (v5 : Int32) (v6 : Int64) (s0 : Int32) (sM_130 : zM) : Option (Int32 × zM) := g_M_suitsId_w136 N v1 v6 s0 (zM_end' sM_130 v5)
noncomputable def g_M_suitsId_125 (N : Nat) (sM : zM) (v1 : Int32) (v4 : Int32) (v5 : Int32) (v6 : Int64) (s0 : Int32) : Option (Int32 × zM) := g_M_suitsId_w130 N v1 v5 v6 s0 (zM_at' sM v4)
noncomputable def g_M_suitsId_124 (N : Nat) (sM : zM) (v1 : Int32) (v4 : Int32) (v5 : Int32) (v6 : Int64) : Option (Int32 × zM) := g_M_suitsId_125 N sM v1 v4 v5 v6 (0 : Int32)
noncomputable def g_M_suitsId_c97 (N : Nat) (sM : zM) (v1 : Int32) (sM_97 : zM) (r_97 : Int64) : Option (Int32 × zM) := if (zM_over sM_97) = (0 : Int32) then (if (zM_at sM_97) = (zM_end sM_97) then (g_M_suitsId_125 N sM_97 v1 (zM_at sM) (zM_end sM) r_97 (1 : Int32)) else (g_M_suitsId_124 N sM_97 v1 (zM_at sM) (zM_end sM) r_97)) else (g_M_suitsId_124 N sM_97 v1 (zM_at sM) (zM_end sM) r_97)
noncomputable def g_M_suitsId_c93 (N : Nat) (sM : zM) (v1 : Int32) (sM_93 : zM) : Option (Int32 × zM) := (g_M_takeNumber N sM_93).bind (fun a => g_M_suitsId_c97 N sM v1 a.2 a.1)
noncomputable def g_M_suitsId_75 (N : Nat) (sM : zM) (s0 : Int32) : Option (Int32 × zM) := zg (narrow .boolean (.int s0) = .int s0) (some (s0, sM))
noncomputable def g_M_suitsId_c58 (N : Nat) (sM : zM) (v1 : Int32) (v2 : Int32) (v3 : Int32) (r_58 : Int32) : Option (Int32 × zM) := if r_58 = (0 : Int32) then ((g_M_look sM v2 (v2 + v3)).bind (fun a => g_M_suitsId_c93 N sM v1 a)) else (if (20 : Int32) < v3 then (g_M_suitsId_75 N sM (0 : Int32)) else (g_M_suitsId_75 N sM (1 : Int32)))
noncomputable def g_M_suitsId_56 (N : Nat) (sM : zM) (s0 : Int32) : Option (Int32 × zM) := zg (narrow .boolean (.int s0) = .int s0) (some (s0, sM))
noncomputable def g_M_suitsId_55 (N : Nat) (sM : zM) : Option (Int32 × zM) := g_M_suitsId_56 N sM (0 : Int32)
noncomputable def g_M_suitsId_32 (N : Nat) (sM : zM) (s0 : Int32) : Option (Int32 × zM) := zg (narrow .boolean (.int s0) = .int s0) (some (s0, sM))
noncomputable def g_M_suitsId_15 (N : Nat) (sM : zM) (s0 : Int32) : Option (Int32 × zM) := zg (narrow .boolean (.int s0) = .int s0) (some (s0, sM))
noncomputable def g_M_suitsId (N : Nat) (sM : zM) (v1 : Int32) (v2 : Int32) (v3 : Int32) : Option (Int32 × zM) := if v1 = (12 : Int32) then (if v3 = (0 : Int32) then (g_M_suitsId_15 N sM (1 : Int32)) else (g_M_suitsId_15 N sM (0 : Int32))) else (if v1 = (2 : Int32) then (if v3 = (16 : Int32) then (g_M_suitsId_32 N sM (1 : Int32)) else (g_M_suitsId_32 N sM (0 : Int32))) else (if v1 = (13 : Int32) then (if v3 < (41 : Int32) then (g_M_suitsId_55 N sM) else (if (61 : Int32) < v3 then (g_M_suitsId_55 N sM) else (g_M_suitsId_56 N sM (1 : Int32)))) else ((g_M_hasBytes v1).bind (fun a => g_M_suitsId_c58 N sM v1 v2 v3 a))))
def q_M_suitsId (dC : Nat → ClassId) (dI : Nat → Nat → Nat) (cB cI cL : ClassId) (A : Nat → Prop) (adM : Nat) (adM_tape : Nat) (adM_frameAt : Nat) (adM_field : Nat) (adM_draft : Nat) (adM_given : Nat) (adM_low : Nat) (adM_high : Nat) (adM_packet : Nat) (adM_known : Nat) (a : Int32 × zM) : Array Value → State → Outcome → State → Prop := va_Qi (fun (r : Int32) (u : zM) => (r, u) = a) (fun u U => va_P (dC, dI) zcl (zwM adM adM_tape adM_frameAt adM_field adM_draft adM_given adM_low adM_high adM_packet adM_known cB cI cL u) U.heap ∧ va_D A (zwM adM adM_tape adM_frameAt adM_field adM_draft adM_given adM_low adM_high adM_packet adM_known cB cI cL u)) A
set_option maxRecDepth 100000 in
set_option maxHeartbeats 4000000 in
theorem k_M_suitsId_266 {p : Program} {l : Launch} {e : Env} {R : Room} {s : State} {m : MethodId} {args : Array Value} {below : List Frame} {meth : Method} {c : Code} {dC : Nat → ClassId} {dI : Nat → Nat → Nat} {cB cI cL : ClassId} {A : Nat → Prop} (X : zx p s m args meth c R R_M b_M_suitsId (some .boolean) 11 3 68) (hA : ∀ q, s.heap.size ≤ q → A q) (zz : zk dC dI cB cI cL A s)  (N : Nat) (sM : zM) (s0 : Int32) (a : Int32 × zM) (hG : g_M_suitsId_266 N sM s0 = some a) (adM adM_tape adM_frameAt adM_field adM_draft adM_given adM_low adM_high adM_packet adM_known : Nat) (H : Heap) (locs : List Loc) (hP : va_P (dC, dI) zcl (zwM adM adM_tape adM_frameAt adM_field adM_draft adM_given adM_low adM_high adM_packet adM_known cB cI cL sM) H) (hD : va_D A (zwM adM adM_tape adM_frameAt adM_field adM_draft adM_given adM_low adM_high adM_packet adM_known cB cI cL sM)) (hS : va_S A s.heap H locs) (ls : Array Slot) (hl : lv_has ls 11 []) : W p l e R s m args below meth c H locs 0 0 (MQ below (q_M_suitsId dC dI cB cI cL A adM adM_tape adM_frameAt adM_field adM_draft adM_given adM_low adM_high adM_packet adM_known a) args s 0 0 A) (F0 m 266 ls [.int s0]) := by
  obtain ⟨hx, hb, hr, hml, hown, hts, hlocks, hRf, hRl⟩ := id X
  unfold g_M_suitsId_266 at hG
  obtain ⟨hnb, hG⟩ := zgd hG
  exact W.zret (v := s0) hx hb hr hnb (fun t9 ht9 hW9 => ⟨⟨s0, (sM), rfl, Option.some.inj hG, by rw [ht9]; exact hP, hD⟩, hS.F ht9⟩) hS.2.2 d_M_suitsId_266
set_option maxRecDepth 100000 in
set_option maxHeartbeats 4000000 in
theorem k_M_suitsId_265 {p : Program} {l : Launch} {e : Env} {R : Room} {s : State} {m : MethodId} {args : Array Value} {below : List Frame} {meth : Method} {c : Code} {dC : Nat → ClassId} {dI : Nat → Nat → Nat} {cB cI cL : ClassId} {A : Nat → Prop} (X : zx p s m args meth c R R_M b_M_suitsId (some .boolean) 11 3 68) (hA : ∀ q, s.heap.size ≤ q → A q) (zz : zk dC dI cB cI cL A s)  (N : Nat) (sM : zM) (a : Int32 × zM) (hG : g_M_suitsId_265 N sM = some a) (adM adM_tape adM_frameAt adM_field adM_draft adM_given adM_low adM_high adM_packet adM_known : Nat) (H : Heap) (locs : List Loc) (hP : va_P (dC, dI) zcl (zwM adM adM_tape adM_frameAt adM_field adM_draft adM_given adM_low adM_high adM_packet adM_known cB cI cL sM) H) (hD : va_D A (zwM adM adM_tape adM_frameAt adM_field adM_draft adM_given adM_low adM_high adM_packet adM_known cB cI cL sM)) (hS : va_S A s.heap H locs) (ls : Array Slot) (hl : lv_has ls 11 []) : W p l e R s m args below meth c H locs 0 0 (MQ below (q_M_suitsId dC dI cB cI cL A adM adM_tape adM_frameAt adM_field adM_draft adM_given adM_low adM_high adM_packet adM_known a) args s 0 0 A) (F0 m 265 ls []) := by
  obtain ⟨hx, hb, hr, hml, hown, hts, hlocks, hRf, hRl⟩ := id X
  unfold g_M_suitsId_265 at hG
  refine lv_iconst (v := (0 : Int32)) hx hb d_M_suitsId_265 (by decide) ?_
  exact k_M_suitsId_266 X hA zz N sM (0 : Int32) _ hG adM adM_tape adM_frameAt adM_field adM_draft adM_given adM_low adM_high adM_packet adM_known _ _ hP hD hS _ (lv_sub hl [] rfl)
set_option maxRecDepth 100000 in
set_option maxHeartbeats 4000000 in
theorem k_M_suitsId_244 {p : Program} {l : Launch} {e : Env} {R : Room} {s : State} {m : MethodId} {args : Array Value} {below : List Frame} {meth : Method} {c : Code} {dC : Nat → ClassId} {dI : Nat → Nat → Nat} {cB cI cL : ClassId} {A : Nat → Prop} (X : zx p s m args meth c R R_M b_M_suitsId (some .boolean) 11 3 68) (hA : ∀ q, s.heap.size ≤ q → A q) (zz : zk dC dI cB cI cL A s)  (N : Nat) (sM : zM) (v8 : Int32) (v9 : Int32) (s0 : Int32) (a : Int32 × zM) (hG : g_M_suitsId_244 N sM v8 v9 s0 = some a) (adM adM_tape adM_frameAt adM_field adM_draft adM_given adM_low adM_high adM_packet adM_known : Nat) (H : Heap) (locs : List Loc) (hP : va_P (dC, dI) zcl (zwM adM adM_tape adM_frameAt adM_field adM_draft adM_given adM_low adM_high adM_packet adM_known cB cI cL sM) H) (hD : va_D A (zwM adM adM_tape adM_frameAt adM_field adM_draft adM_given adM_low adM_high adM_packet adM_known cB cI cL sM)) (hS : va_S A s.heap H locs) (ls : Array Slot) (hl : lv_has ls 11 [(8, .int v8), (9, .int v9)]) : W p l e R s m args below meth c H locs 0 0 (MQ below (q_M_suitsId dC dI cB cI cL A adM adM_tape adM_frameAt adM_field adM_draft adM_given adM_low adM_high adM_packet adM_known a) args s 0 0 A) (F0 m 244 ls [.int s0]) := by
  obtain ⟨hx, hb, hr, hml, hown, hts, hlocks, hRf, hRl⟩ := id X
  unfold g_M_suitsId_244 at hG
  refine lv_istore (lv' := [(10, .int s0), (8, .int v8), (9, .int v9)]) hx hb d_M_suitsId_244 hl (by decide) rfl (fun ls hl => ?_)
  refine lv_iload hx hb d_M_suitsId_246 (lv_at hl 1 rfl) ?_
  refine lv_if_eq (tgt := 265) hx hb d_M_suitsId_248 (by decide) (fun hc => ?_) (fun hc => ?_)
  · have hG := zt hG hc
    exact k_M_suitsId_265 X hA zz N sM _ hG adM adM_tape adM_frameAt adM_field adM_draft adM_given adM_low adM_high adM_packet adM_known _ _ hP hD hS _ (lv_sub hl [] rfl)
  · have hG := zf hG hc
    refine lv_iload hx hb d_M_suitsId_251 (lv_at hl 2 rfl) ?_
    refine lv_if_ne (tgt := 265) hx hb d_M_suitsId_253 (by decide) (fun hc => ?_) (fun hc => ?_)
    · have hG := zf hG hc
      exact k_M_suitsId_265 X hA zz N sM _ hG adM adM_tape adM_frameAt adM_field adM_draft adM_given adM_low adM_high adM_packet adM_known _ _ hP hD hS _ (lv_sub hl [] rfl)
    · have hG := zt hG hc
      refine lv_iload hx hb d_M_suitsId_256 (lv_at hl 0 rfl) ?_
      refine lv_if_ne (tgt := 265) hx hb d_M_suitsId_258 (by decide) (fun hc => ?_) (fun hc => ?_)
      · have hG := zf hG hc
        exact k_M_suitsId_265 X hA zz N sM _ hG adM adM_tape adM_frameAt adM_field adM_draft adM_given adM_low adM_high adM_packet adM_known _ _ hP hD hS _ (lv_sub hl [] rfl)
      · have hG := zt hG hc
        refine lv_iconst (v := (1 : Int32)) hx hb d_M_suitsId_261 (by decide) ?_
        refine lv_goto (tgt := 266) hx hb d_M_suitsId_262 (by decide) ?_
        exact k_M_suitsId_266 X hA zz N sM (1 : Int32) _ hG adM adM_tape adM_frameAt adM_field adM_draft adM_given adM_low adM_high adM_packet adM_known _ _ hP hD hS _ (lv_sub hl [] rfl)
set_option maxRecDepth 100000 in
set_option maxHeartbeats 4000000 in
theorem k_M_suitsId_239 {p : Program} {l : Launch} {e : Env} {R : Room} {s : State} {m : MethodId} {args : Array Value} {below : List Frame} {meth : Method} {c : Code} {dC : Nat → ClassId} {dI : Nat → Nat → Nat} {cB cI cL : ClassId} {A : Nat → Prop} (X : zx p s m args meth c R R_M b_M_suitsId (some .boolean) 11 3 68) (hA : ∀ q, s.heap.size ≤ q → A q) (zz : zk dC dI cB cI cL A s)  (N : Nat) (sM : zM) (v8 : Int32) (v9 : Int32) (a : Int32 × zM) (hG : g_M_suitsId_239 N sM v8 v9 = some a) (adM adM_tape adM_frameAt adM_field adM_draft adM_given adM_low adM_high adM_packet adM_known : Nat) (H : Heap) (locs : List Loc) (hP : va_P (dC, dI) zcl (zwM adM adM_tape adM_frameAt adM_field adM_draft adM_given adM_low adM_high adM_packet adM_known cB cI cL sM) H) (hD : va_D A (zwM adM adM_tape adM_frameAt adM_field adM_draft adM_given adM_low adM_high adM_packet adM_known cB cI cL sM)) (hS : va_S A s.heap H locs) (ls : Array Slot) (hl : lv_has ls 11 [(8, .int v8), (9, .int v9)]) : W p l e R s m args below meth c H locs 0 0 (MQ below (q_M_suitsId dC dI cB cI cL A adM adM_tape adM_frameAt adM_field adM_draft adM_given adM_low adM_high adM_packet adM_known a) args s 0 0 A) (F0 m 239 ls []) := by
  obtain ⟨hx, hb, hr, hml, hown, hts, hlocks, hRf, hRl⟩ := id X
  unfold g_M_suitsId_239 at hG
  refine lv_iconst (v := (1 : Int32)) hx hb d_M_suitsId_239 (by decide) ?_
  refine lv_goto (tgt := 244) hx hb d_M_suitsId_240 (by decide) ?_
  exact k_M_suitsId_244 X hA zz N sM v8 v9 (1 : Int32) _ hG adM adM_tape adM_frameAt adM_field adM_draft adM_given adM_low adM_high adM_packet adM_known _ _ hP hD hS _ (lv_sub hl [0, 1] rfl)
set_option maxRecDepth 100000 in
set_option maxHeartbeats 4000000 in
theorem k_M_suitsId_243 {p : Program} {l : Launch} {e : Env} {R : Room} {s : State} {m : MethodId} {args : Array Value} {below : List Frame} {meth : Method} {c : Code} {dC : Nat → ClassId} {dI : Nat → Nat → Nat} {cB cI cL : ClassId} {A : Nat → Prop} (X : zx p s m args meth c R R_M b_M_suitsId (some .boolean) 11 3 68) (hA : ∀ q, s.heap.size ≤ q → A q) (zz : zk dC dI cB cI cL A s)  (N : Nat) (sM : zM) (v8 : Int32) (v9 : Int32) (a : Int32 × zM) (hG : g_M_suitsId_243 N sM v8 v9 = some a) (adM adM_tape adM_frameAt adM_field adM_draft adM_given adM_low adM_high adM_packet adM_known : Nat) (H : Heap) (locs : List Loc) (hP : va_P (dC, dI) zcl (zwM adM adM_tape adM_frameAt adM_field adM_draft adM_given adM_low adM_high adM_packet adM_known cB cI cL sM) H) (hD : va_D A (zwM adM adM_tape adM_frameAt adM_field adM_draft adM_given adM_low adM_high adM_packet adM_known cB cI cL sM)) (hS : va_S A s.heap H locs) (ls : Array Slot) (hl : lv_has ls 11 [(8, .int v8), (9, .int v9)]) : W p l e R s m args below meth c H locs 0 0 (MQ below (q_M_suitsId dC dI cB cI cL A adM adM_tape adM_frameAt adM_field adM_draft adM_given adM_low adM_high adM_packet adM_known a) args s 0 0 A) (F0 m 243 ls []) := by
  obtain ⟨hx, hb, hr, hml, hown, hts, hlocks, hRf, hRl⟩ := id X
  unfold g_M_suitsId_243 at hG
  refine lv_iconst (v := (0 : Int32)) hx hb d_M_suitsId_243 (by decide) ?_
  exact k_M_suitsId_244 X hA zz N sM v8 v9 (0 : Int32) _ hG adM adM_tape adM_frameAt adM_field adM_draft adM_given adM_low adM_high adM_packet adM_known _ _ hP hD hS _ (lv_sub hl [0, 1] rfl)
set_option maxRecDepth 100000 in
set_option maxHeartbeats 4000000 in
theorem k_M_suitsId_224 {p : Program} {l : Launch} {e : Env} {R : Room} {s : State} {m : MethodId} {args : Array Value} {below : List Frame} {meth : Method} {c : Code} {dC : Nat → ClassId} {dI : Nat → Nat → Nat} {cB cI cL : ClassId} {A : Nat → Prop} (X : zx p s m args meth c R R_M b_M_suitsId (some .boolean) 11 3 68) (hA : ∀ q, s.heap.size ≤ q → A q) (zz : zk dC dI cB cI cL A s)  (N : Nat) (sM : zM) (v1 : Int32) (v6 : Int64) (v8 : Int32) (v9 : Int32) (a : Int32 × zM) (hG : g_M_suitsId_224 N sM v1 v6 v8 v9 = some a) (adM adM_tape adM_frameAt adM_field adM_draft adM_given adM_low adM_high adM_packet adM_known : Nat) (H : Heap) (locs : List Loc) (hP : va_P (dC, dI) zcl (zwM adM adM_tape adM_frameAt adM_field adM_draft adM_given adM_low adM_high adM_packet adM_known cB cI cL sM) H) (hD : va_D A (zwM adM adM_tape adM_frameAt adM_field adM_draft adM_given adM_low adM_high adM_packet adM_known cB cI cL sM)) (hS : va_S A s.heap H locs) (ls : Array Slot) (hl : lv_has ls 11 [(1, .int v1), (6, .long v6), (8, .int v8), (9, .int v9)]) : W p l e R s m args below meth c H locs 0 0 (MQ below (q_M_suitsId dC dI cB cI cL A adM adM_tape adM_frameAt adM_field adM_draft adM_given adM_low adM_high adM_packet adM_known a) args s 0 0 A) (F0 m 224 ls []) := by
  obtain ⟨hx, hb, hr, hml, hown, hts, hlocks, hRf, hRl⟩ := id X
  unfold g_M_suitsId_224 at hG
  refine lv_iload_n hx hb d_M_suitsId_224 rfl (lv_at hl 0 rfl) ?_
  refine lv_bipush (v := (11 : Int32)) hx hb d_M_suitsId_225 (by decide) ?_
  refine lv_icmp_ne (tgt := 243) hx hb d_M_suitsId_227 (by decide) (fun hc => ?_) (fun hc => ?_)
  · have hG := zf hG hc
    exact k_M_suitsId_243 X hA zz N sM v8 v9 _ hG adM adM_tape adM_frameAt adM_field adM_draft adM_given adM_low adM_high adM_packet adM_known _ _ hP hD hS _ (lv_sub hl [2, 3] rfl)
  · have hG := zt hG hc
    refine lv_lload hx hb d_M_suitsId_230 (lv_at hl 1 rfl) ?_
    refine lv_ldc2 (v := (16383 : Int64)) hx hb hown (hts (.constantLong R_M 270 (16383 : Int64)) zin_M_270) d_M_suitsId_232 ?_
    refine W.lcmp hx hb d_M_suitsId_235 ?_
    refine lv_if_le (tgt := 243) hx hb d_M_suitsId_236 (by decide) (fun hc => ?_) (fun hc => ?_)
    · have hG := zt hG hc
      exact k_M_suitsId_243 X hA zz N sM v8 v9 _ hG adM adM_tape adM_frameAt adM_field adM_draft adM_given adM_low adM_high adM_packet adM_known _ _ hP hD hS _ (lv_sub hl [2, 3] rfl)
    · have hG := zf hG hc
      exact k_M_suitsId_239 X hA zz N sM v8 v9 _ hG adM adM_tape adM_frameAt adM_field adM_draft adM_given adM_low adM_high adM_packet adM_known _ _ hP hD hS _ (lv_sub hl [2, 3] rfl)
set_option maxRecDepth 100000 in
set_option maxHeartbeats 4000000 in
theorem k_M_suitsId_209 {p : Program} {l : Launch} {e : Env} {R : Room} {s : State} {m : MethodId} {args : Array Value} {below : List Frame} {meth : Method} {c : Code} {dC : Nat → ClassId} {dI : Nat → Nat → Nat} {cB cI cL : ClassId} {A : Nat → Prop} (X : zx p s m args meth c R R_M b_M_suitsId (some .boolean) 11 3 68) (hA : ∀ q, s.heap.size ≤ q → A q) (zz : zk dC dI cB cI cL A s)  (N : Nat) (sM : zM) (v1 : Int32) (v6 : Int64) (v8 : Int32) (v9 : Int32) (a : Int32 × zM) (hG : g_M_suitsId_209 N sM v1 v6 v8 v9 = some a) (adM adM_tape adM_frameAt adM_field adM_draft adM_given adM_low adM_high adM_packet adM_known : Nat) (H : Heap) (locs : List Loc) (hP : va_P (dC, dI) zcl (zwM adM adM_tape adM_frameAt adM_field adM_draft adM_given adM_low adM_high adM_packet adM_known cB cI cL sM) H) (hD : va_D A (zwM adM adM_tape adM_frameAt adM_field adM_draft adM_given adM_low adM_high adM_packet adM_known cB cI cL sM)) (hS : va_S A s.heap H locs) (ls : Array Slot) (hl : lv_has ls 11 [(1, .int v1), (6, .long v6), (8, .int v8), (9, .int v9)]) : W p l e R s m args below meth c H locs 0 0 (MQ below (q_M_suitsId dC dI cB cI cL A adM adM_tape adM_frameAt adM_field adM_draft adM_given adM_low adM_high adM_packet adM_known a) args s 0 0 A) (F0 m 209 ls []) := by
  obtain ⟨hx, hb, hr, hml, hown, hts, hlocks, hRf, hRl⟩ := id X
  unfold g_M_suitsId_209 at hG
  refine lv_iload_n hx hb d_M_suitsId_209 rfl (lv_at hl 0 rfl) ?_
  refine lv_bipush (v := (10 : Int32)) hx hb d_M_suitsId_210 (by decide) ?_
  refine lv_icmp_ne (tgt := 224) hx hb d_M_suitsId_212 (by decide) (fun hc => ?_) (fun hc => ?_)
  · have hG := zf hG hc
    exact k_M_suitsId_224 X hA zz N sM v1 v6 v8 v9 _ hG adM adM_tape adM_frameAt adM_field adM_draft adM_given adM_low adM_high adM_packet adM_known _ _ hP hD hS _ (lv_sub hl [0, 1, 2, 3] rfl)
  · have hG := zt hG hc
    refine lv_lload hx hb d_M_suitsId_215 (lv_at hl 1 rfl) ?_
    refine lv_ldc2 (v := (20 : Int64)) hx hb hown (hts (.constantLong R_M 254 (20 : Int64)) zin_M_254) d_M_suitsId_217 ?_
    refine W.lcmp hx hb d_M_suitsId_220 ?_
    refine lv_if_gt (tgt := 239) hx hb d_M_suitsId_221 (by decide) (fun hc => ?_) (fun hc => ?_)
    · have hG := zt hG hc
      exact k_M_suitsId_239 X hA zz N sM v8 v9 _ hG adM adM_tape adM_frameAt adM_field adM_draft adM_given adM_low adM_high adM_packet adM_known _ _ hP hD hS _ (lv_sub hl [2, 3] rfl)
    · have hG := zf hG hc
      exact k_M_suitsId_224 X hA zz N sM v1 v6 v8 v9 _ hG adM adM_tape adM_frameAt adM_field adM_draft adM_given adM_low adM_high adM_packet adM_known _ _ hP hD hS _ (lv_sub hl [0, 1, 2, 3] rfl)
set_option maxRecDepth 100000 in
set_option maxHeartbeats 4000000 in
theorem k_M_suitsId_200 {p : Program} {l : Launch} {e : Env} {R : Room} {s : State} {m : MethodId} {args : Array Value} {below : List Frame} {meth : Method} {c : Code} {dC : Nat → ClassId} {dI : Nat → Nat → Nat} {cB cI cL : ClassId} {A : Nat → Prop} (X : zx p s m args meth c R R_M b_M_suitsId (some .boolean) 11 3 68) (hA : ∀ q, s.heap.size ≤ q → A q) (zz : zk dC dI cB cI cL A s)  (N : Nat) (sM : zM) (v1 : Int32) (v6 : Int64) (v8 : Int32) (v9 : Int32) (a : Int32 × zM) (hG : g_M_suitsId_200 N sM v1 v6 v8 v9 = some a) (adM adM_tape adM_frameAt adM_field adM_draft adM_given adM_low adM_high adM_packet adM_known : Nat) (H : Heap) (locs : List Loc) (hP : va_P (dC, dI) zcl (zwM adM adM_tape adM_frameAt adM_field adM_draft adM_given adM_low adM_high adM_packet adM_known cB cI cL sM) H) (hD : va_D A (zwM adM adM_tape adM_frameAt adM_field adM_draft adM_given adM_low adM_high adM_packet adM_known cB cI cL sM)) (hS : va_S A s.heap H locs) (ls : Array Slot) (hl : lv_has ls 11 [(1, .int v1), (6, .long v6), (8, .int v8), (9, .int v9)]) : W p l e R s m args below meth c H locs 0 0 (MQ below (q_M_suitsId dC dI cB cI cL A adM adM_tape adM_frameAt adM_field adM_draft adM_given adM_low adM_high adM_packet adM_known a) args s 0 0 A) (F0 m 200 ls []) := by
  obtain ⟨hx, hb, hr, hml, hown, hts, hlocks, hRf, hRl⟩ := id X
  unfold g_M_suitsId_200 at hG
  refine lv_lload hx hb d_M_suitsId_200 (lv_at hl 1 rfl) ?_
  refine lv_ldc2 (v := (1152921504606846976 : Int64)) hx hb hown (hts (.constantLong R_M 188 (1152921504606846976 : Int64)) zin_M_188) d_M_suitsId_202 ?_
  refine W.lcmp hx hb d_M_suitsId_205 ?_
  refine lv_if_gt (tgt := 239) hx hb d_M_suitsId_206 (by decide) (fun hc => ?_) (fun hc => ?_)
  · have hG := zt hG hc
    exact k_M_suitsId_239 X hA zz N sM v8 v9 _ hG adM adM_tape adM_frameAt adM_field adM_draft adM_given adM_low adM_high adM_packet adM_known _ _ hP hD hS _ (lv_sub hl [2, 3] rfl)
  · have hG := zf hG hc
    exact k_M_suitsId_209 X hA zz N sM v1 v6 v8 v9 _ hG adM adM_tape adM_frameAt adM_field adM_draft adM_given adM_low adM_high adM_packet adM_known _ _ hP hD hS _ (lv_sub hl [0, 1, 2, 3] rfl)
set_option maxRecDepth 100000 in
set_option maxHeartbeats 4000000 in
theorem k_M_suitsId_186 {p : Program} {l : Launch} {e : Env} {R : Room} {s : State} {m : MethodId} {args : Array Value} {below : List Frame} {meth : Method} {c : Code} {dC : Nat → ClassId} {dI : Nat → Nat → Nat} {cB cI cL : ClassId} {A : Nat → Prop} (X : zx p s m args meth c R R_M b_M_suitsId (some .boolean) 11 3 68) (hA : ∀ q, s.heap.size ≤ q → A q) (zz : zk dC dI cB cI cL A s)  (N : Nat) (sM : zM) (v1 : Int32) (v6 : Int64) (v8 : Int32) (s0 : Int32) (a : Int32 × zM) (hG : g_M_suitsId_186 N sM v1 v6 v8 s0 = some a) (adM adM_tape adM_frameAt adM_field adM_draft adM_given adM_low adM_high adM_packet adM_known : Nat) (H : Heap) (locs : List Loc) (hP : va_P (dC, dI) zcl (zwM adM adM_tape adM_frameAt adM_field adM_draft adM_given adM_low adM_high adM_packet adM_known cB cI cL sM) H) (hD : va_D A (zwM adM adM_tape adM_frameAt adM_field adM_draft adM_given adM_low adM_high adM_packet adM_known cB cI cL sM)) (hS : va_S A s.heap H locs) (ls : Array Slot) (hl : lv_has ls 11 [(1, .int v1), (6, .long v6), (8, .int v8)]) : W p l e R s m args below meth c H locs 0 0 (MQ below (q_M_suitsId dC dI cB cI cL A adM adM_tape adM_frameAt adM_field adM_draft adM_given adM_low adM_high adM_packet adM_known a) args s 0 0 A) (F0 m 186 ls [.int s0]) := by
  obtain ⟨hx, hb, hr, hml, hown, hts, hlocks, hRf, hRl⟩ := id X
  unfold g_M_suitsId_186 at hG
  refine lv_istore (lv' := [(9, .int s0), (1, .int v1), (6, .long v6), (8, .int v8)]) hx hb d_M_suitsId_186 hl (by decide) rfl (fun ls hl => ?_)
  refine lv_iload_n hx hb d_M_suitsId_188 rfl (lv_at hl 1 rfl) ?_
  refine lv_bipush (v := (8 : Int32)) hx hb d_M_suitsId_189 (by decide) ?_
  refine lv_icmp_eq (tgt := 200) hx hb d_M_suitsId_191 (by decide) (fun hc => ?_) (fun hc => ?_)
  · have hG := zt hG hc
    exact k_M_suitsId_200 X hA zz N sM v1 v6 v8 s0 _ hG adM adM_tape adM_frameAt adM_field adM_draft adM_given adM_low adM_high adM_packet adM_known _ _ hP hD hS _ (lv_sub hl [1, 2, 3, 0] rfl)
  · have hG := zf hG hc
    refine lv_iload_n hx hb d_M_suitsId_194 rfl (lv_at hl 1 rfl) ?_
    refine lv_bipush (v := (9 : Int32)) hx hb d_M_suitsId_195 (by decide) ?_
    refine lv_icmp_ne (tgt := 209) hx hb d_M_suitsId_197 (by decide) (fun hc => ?_) (fun hc => ?_)
    · have hG := zf hG hc
      exact k_M_suitsId_209 X hA zz N sM v1 v6 v8 s0 _ hG adM adM_tape adM_frameAt adM_field adM_draft adM_given adM_low adM_high adM_packet adM_known _ _ hP hD hS _ (lv_sub hl [1, 2, 3, 0] rfl)
    · have hG := zt hG hc
      exact k_M_suitsId_200 X hA zz N sM v1 v6 v8 s0 _ hG adM adM_tape adM_frameAt adM_field adM_draft adM_given adM_low adM_high adM_packet adM_known _ _ hP hD hS _ (lv_sub hl [1, 2, 3, 0] rfl)
set_option maxRecDepth 100000 in
set_option maxHeartbeats 4000000 in
theorem k_M_suitsId_185 {p : Program} {l : Launch} {e : Env} {R : Room} {s : State} {m : MethodId} {args : Array Value} {below : List Frame} {meth : Method} {c : Code} {dC : Nat → ClassId} {dI : Nat → Nat → Nat} {cB cI cL : ClassId} {A : Nat → Prop} (X : zx p s m args meth c R R_M b_M_suitsId (some .boolean) 11 3 68) (hA : ∀ q, s.heap.size ≤ q → A q) (zz : zk dC dI cB cI cL A s)  (N : Nat) (sM : zM) (v1 : Int32) (v6 : Int64) (v8 : Int32) (a : Int32 × zM) (hG : g_M_suitsId_185 N sM v1 v6 v8 = some a) (adM adM_tape adM_frameAt adM_field adM_draft adM_given adM_low adM_high adM_packet adM_known : Nat) (H : Heap) (locs : List Loc) (hP : va_P (dC, dI) zcl (zwM adM adM_tape adM_frameAt adM_field adM_draft adM_given adM_low adM_high adM_packet adM_known cB cI cL sM) H) (hD : va_D A (zwM adM adM_tape adM_frameAt adM_field adM_draft adM_given adM_low adM_high adM_packet adM_known cB cI cL sM)) (hS : va_S A s.heap H locs) (ls : Array Slot) (hl : lv_has ls 11 [(1, .int v1), (6, .long v6), (8, .int v8)]) : W p l e R s m args below meth c H locs 0 0 (MQ below (q_M_suitsId dC dI cB cI cL A adM adM_tape adM_frameAt adM_field adM_draft adM_given adM_low adM_high adM_packet adM_known a) args s 0 0 A) (F0 m 185 ls []) := by
  obtain ⟨hx, hb, hr, hml, hown, hts, hlocks, hRf, hRl⟩ := id X
  unfold g_M_suitsId_185 at hG
  refine lv_iconst (v := (0 : Int32)) hx hb d_M_suitsId_185 (by decide) ?_
  exact k_M_suitsId_186 X hA zz N sM v1 v6 v8 (0 : Int32) _ hG adM adM_tape adM_frameAt adM_field adM_draft adM_given adM_low adM_high adM_packet adM_known _ _ hP hD hS _ (lv_sub hl [0, 1, 2] rfl)
set_option maxRecDepth 100000 in
set_option maxHeartbeats 4000000 in
theorem k_M_suitsId_181 {p : Program} {l : Launch} {e : Env} {R : Room} {s : State} {m : MethodId} {args : Array Value} {below : List Frame} {meth : Method} {c : Code} {dC : Nat → ClassId} {dI : Nat → Nat → Nat} {cB cI cL : ClassId} {A : Nat → Prop} (X : zx p s m args meth c R R_M b_M_suitsId (some .boolean) 11 3 68) (hA : ∀ q, s.heap.size ≤ q → A q) (zz : zk dC dI cB cI cL A s)  (N : Nat) (sM : zM) (v1 : Int32) (v6 : Int64) (v8 : Int32) (a : Int32 × zM) (hG : g_M_suitsId_181 N sM v1 v6 v8 = some a) (adM adM_tape adM_frameAt adM_field adM_draft adM_given adM_low adM_high adM_packet adM_known : Nat) (H : Heap) (locs : List Loc) (hP : va_P (dC, dI) zcl (zwM adM adM_tape adM_frameAt adM_field adM_draft adM_given adM_low adM_high adM_packet adM_known cB cI cL sM) H) (hD : va_D A (zwM adM adM_tape adM_frameAt adM_field adM_draft adM_given adM_low adM_high adM_packet adM_known cB cI cL sM)) (hS : va_S A s.heap H locs) (ls : Array Slot) (hl : lv_has ls 11 [(1, .int v1), (6, .long v6), (8, .int v8)]) : W p l e R s m args below meth c H locs 0 0 (MQ below (q_M_suitsId dC dI cB cI cL A adM adM_tape adM_frameAt adM_field adM_draft adM_given adM_low adM_high adM_packet adM_known a) args s 0 0 A) (F0 m 181 ls []) := by
  obtain ⟨hx, hb, hr, hml, hown, hts, hlocks, hRf, hRl⟩ := id X
  unfold g_M_suitsId_181 at hG
  refine lv_iconst (v := (1 : Int32)) hx hb d_M_suitsId_181 (by decide) ?_
  refine lv_goto (tgt := 186) hx hb d_M_suitsId_182 (by decide) ?_
  exact k_M_suitsId_186 X hA zz N sM v1 v6 v8 (1 : Int32) _ hG adM adM_tape adM_frameAt adM_field adM_draft adM_given adM_low adM_high adM_packet adM_known _ _ hP hD hS _ (lv_sub hl [0, 1, 2] rfl)
set_option maxRecDepth 100000 in
set_option maxHeartbeats 4000000 in
theorem k_M_suitsId_166 {p : Program} {l : Launch} {e : Env} {R : Room} {s : State} {m : MethodId} {args : Array Value} {below : List Frame} {meth : Method} {c : Code} {dC : Nat → ClassId} {dI : Nat → Nat → Nat} {cB cI cL : ClassId} {A : Nat → Prop} (X : zx p s m args meth c R R_M b_M_suitsId (some .boolean) 11 3 68) (hA : ∀ q, s.heap.size ≤ q → A q) (zz : zk dC dI cB cI cL A s)  (N : Nat) (sM : zM) (v1 : Int32) (v6 : Int64) (v8 : Int32) (a : Int32 × zM) (hG : g_M_suitsId_166 N sM v1 v6 v8 = some a) (adM adM_tape adM_frameAt adM_field adM_draft adM_given adM_low adM_high adM_packet adM_known : Nat) (H : Heap) (locs : List Loc) (hP : va_P (dC, dI) zcl (zwM adM adM_tape adM_frameAt adM_field adM_draft adM_given adM_low adM_high adM_packet adM_known cB cI cL sM) H) (hD : va_D A (zwM adM adM_tape adM_frameAt adM_field adM_draft adM_given adM_low adM_high adM_packet adM_known cB cI cL sM)) (hS : va_S A s.heap H locs) (ls : Array Slot) (hl : lv_has ls 11 [(1, .int v1), (6, .long v6), (8, .int v8)]) : W p l e R s m args below meth c H locs 0 0 (MQ below (q_M_suitsId dC dI cB cI cL A adM adM_tape adM_frameAt adM_field adM_draft adM_given adM_low adM_high adM_packet adM_known a) args s 0 0 A) (F0 m 166 ls []) := by
  obtain ⟨hx, hb, hr, hml, hown, hts, hlocks, hRf, hRl⟩ := id X
  unfold g_M_suitsId_166 at hG
  refine lv_iload_n hx hb d_M_suitsId_166 rfl (lv_at hl 0 rfl) ?_
  refine lv_bipush (v := (14 : Int32)) hx hb d_M_suitsId_167 (by decide) ?_
  refine lv_icmp_ne (tgt := 185) hx hb d_M_suitsId_169 (by decide) (fun hc => ?_) (fun hc => ?_)
  · have hG := zf hG hc
    exact k_M_suitsId_185 X hA zz N sM v1 v6 v8 _ hG adM adM_tape adM_frameAt adM_field adM_draft adM_given adM_low adM_high adM_packet adM_known _ _ hP hD hS _ (lv_sub hl [0, 1, 2] rfl)
  · have hG := zt hG hc
    refine lv_lload hx hb d_M_suitsId_172 (lv_at hl 1 rfl) ?_
    refine lv_ldc2 (v := (2 : Int64)) hx hb hown (hts (.constantLong R_M 76 (2 : Int64)) zin_M_76) d_M_suitsId_174 ?_
    refine W.lcmp hx hb d_M_suitsId_177 ?_
    refine lv_if_ge (tgt := 185) hx hb d_M_suitsId_178 (by decide) (fun hc => ?_) (fun hc => ?_)
    · have hG := zt hG hc
      exact k_M_suitsId_185 X hA zz N sM v1 v6 v8 _ hG adM adM_tape adM_frameAt adM_field adM_draft adM_given adM_low adM_high adM_packet adM_known _ _ hP hD hS _ (lv_sub hl [0, 1, 2] rfl)
    · have hG := zf hG hc
      exact k_M_suitsId_181 X hA zz N sM v1 v6 v8 _ hG adM adM_tape adM_frameAt adM_field adM_draft adM_given adM_low adM_high adM_packet adM_known _ _ hP hD hS _ (lv_sub hl [0, 1, 2] rfl)
set_option maxRecDepth 100000 in
set_option maxHeartbeats 4000000 in
theorem k_M_suitsId_125 {p : Program} {l : Launch} {e : Env} {R : Room} {s : State} {m : MethodId} {args : Array Value} {below : List Frame} {meth : Method} {c : Code} {dC : Nat → ClassId} {dI : Nat → Nat → Nat} {cB cI cL : ClassId} {A : Nat → Prop} (X : zx p s m args meth c R R_M b_M_suitsId (some .boolean) 11 3 68) (hA : ∀ q, s.heap.size ≤ q → A q) (zz : zk dC dI cB cI cL A s)  (N : Nat) (sM : zM) (v1 : Int32) (v4 : Int32) (v5 : Int32) (v6 : Int64) (s0 : Int32) (a : Int32 × zM) (hG : g_M_suitsId_125 N sM v1 v4 v5 v6 s0 = some a) (adM adM_tape adM_frameAt adM_field adM_draft adM_given adM_low adM_high adM_packet adM_known : Nat) (H : Heap) (locs : List Loc) (hP : va_P (dC, dI) zcl (zwM adM adM_tape adM_frameAt adM_field adM_draft adM_given adM_low adM_high adM_packet adM_known cB cI cL sM) H) (hD : va_D A (zwM adM adM_tape adM_frameAt adM_field adM_draft adM_given adM_low adM_high adM_packet adM_known cB cI cL sM)) (hS : va_S A s.heap H locs) (ls : Array Slot) (hl : lv_has ls 11 [(0, .ref adM), (1, .int v1), (4, .int v4), (5, .int v5), (6, .long v6)]) : W p l e R s m args below meth c H locs 0 0 (MQ below (q_M_suitsId dC dI cB cI cL A adM adM_tape adM_frameAt adM_field adM_draft adM_given adM_low adM_high adM_packet adM_known a) args s 0 0 A) (F0 m 125 ls [.int s0]) := by
  obtain ⟨hx, hb, hr, hml, hown, hts, hlocks, hRf, hRl⟩ := id X
  unfold g_M_suitsId_125 at hG
  refine lv_istore (lv' := [(8, .int s0), (0, .ref adM), (1, .int v1), (4, .int v4), (5, .int v5), (6, .long v6)]) hx hb d_M_suitsId_125 hl (by decide) rfl (fun ls hl => ?_)
  refine lv_aload_n hx hb d_M_suitsId_127 rfl (lv_at hl 1 rfl) ?_
  refine lv_iload hx hb d_M_suitsId_128 (lv_at hl 3 rfl) ?_
  refine va_put (D := (dC, dI)) (ci := 8) (v := .int v4) (ty := .int) (C := R_M) (T := F_M) (N := 26) hx hb hts zi_M zty_M zty_M_ok znm_M hown zz.1 hP hD hS 0 rfl rfl 14 (by decide) (hts (.fieldLink R_M 110 "WireCodecModel" "at" "I") zin_M_110) (fun _ h9 => h9) rfl (by decide +kernel) rfl rfl (Nat.le_of_ble_eq_true rfl) d_M_suitsId_130 (fun H locs hP hD hS => ?_)
  have hP := zp_M_at hP
  have hD := zd_M_at hD
  have hG : g_M_suitsId_w130 N v1 v5 v6 s0 (zM_at' sM v4) = some a := hG
  generalize zM_at' sM v4 = sM_130 at hP hD hG
  unfold g_M_suitsId_w130 at hG
  refine lv_aload_n hx hb d_M_suitsId_133 rfl (lv_at hl 1 rfl) ?_
  refine lv_iload hx hb d_M_suitsId_134 (lv_at hl 4 rfl) ?_
  refine va_put (D := (dC, dI)) (ci := 8) (v := .int v5) (ty := .int) (C := R_M) (T := F_M) (N := 26) hx hb hts zi_M zty_M zty_M_ok znm_M hown zz.1 hP hD hS 0 rfl rfl 16 (by decide) (hts (.fieldLink R_M 113 "WireCodecModel" "end" "I") zin_M_113) (fun _ h9 => h9) rfl (by decide +kernel) rfl rfl (Nat.le_of_ble_eq_true rfl) d_M_suitsId_136 (fun H locs hP hD hS => ?_)
  have hP := zp_M_end hP
  have hD := zd_M_end hD
  have hG : g_M_suitsId_w136 N v1 v6 s0 (zM_end' sM_130 v5) = some a := hG
  generalize zM_end' sM_130 v5 = sM_136 at hP hD hG
  unfold g_M_suitsId_w136 at hG
  refine lv_aload_n hx hb d_M_suitsId_139 rfl (lv_at hl 1 rfl) ?_
  refine lv_iconst (v := (0 : Int32)) hx hb d_M_suitsId_140 (by decide) ?_
  refine va_put (D := (dC, dI)) (ci := 8) (v := .int (0 : Int32)) (ty := .boolean) (C := R_M) (T := F_M) (N := 26) hx hb hts zi_M zty_M zty_M_ok znm_M hown zz.1 hP hD hS 0 rfl rfl 15 (by decide) (hts (.fieldLink R_M 116 "WireCodecModel" "over" "Z") zin_M_116) (fun _ h9 => h9) rfl (by decide +kernel) rfl rfl (Nat.le_of_ble_eq_true rfl) d_M_suitsId_141 (fun H locs hP hD hS => ?_)
  have hP := zp_M_over hP
  have hD := zd_M_over hD
  have hG : g_M_suitsId_w141 N v1 v6 s0 (zM_over' sM_136 (0 : Int32)) = some a := hG
  generalize zM_over' sM_136 (0 : Int32) = sM_141 at hP hD hG
  unfold g_M_suitsId_w141 at hG
  refine lv_aload_n hx hb d_M_suitsId_144 rfl (lv_at hl 1 rfl) ?_
  refine va_get (D := (dC, dI)) (ci := 8) (v := .ref adM_known) (C := R_M) (T := F_M) (N := 26) hx hb hts zi_M hown zz.1 hP 0 rfl rfl 25 (by decide) (hts (.fieldLink R_M 42 "WireCodecModel" "known" "[J") zin_M_42) (fun _ h9 => h9) rfl d_M_suitsId_145 ?_
  refine lv_iload_n hx hb d_M_suitsId_148 rfl (lv_at hl 2 rfl) ?_
  refine lv_lload hx hb d_M_suitsId_149 (lv_at hl 5 rfl) ?_
  obtain ⟨hin, hG⟩ := zgd hG
  refine va_last hx hb zz.1 hP hD hS 9 2 rfl rfl hin d_M_suitsId_151 (fun H locs hP hD hS => ?_)
  have hP := zp_M_known hP
  have hD := zd_M_known hD
  have hG : g_M_suitsId_w151 N v1 v6 s0 (zM_known' sM_141 (vp_updL (zM_known sM_141) v1.toNatClampNeg v6)) = some a := hG
  generalize zM_known' sM_141 (vp_updL (zM_known sM_141) v1.toNatClampNeg v6) = sM_151 at hP hD hG
  unfold g_M_suitsId_w151 at hG
  refine lv_iload_n hx hb d_M_suitsId_152 rfl (lv_at hl 2 rfl) ?_
  refine lv_iconst (v := (3 : Int32)) hx hb d_M_suitsId_153 (by decide) ?_
  refine lv_icmp_ne (tgt := 166) hx hb d_M_suitsId_154 (by decide) (fun hc => ?_) (fun hc => ?_)
  · have hG := zf hG hc
    exact k_M_suitsId_166 X hA zz N sM_151 v1 v6 s0 _ hG adM adM_tape adM_frameAt adM_field adM_draft adM_given adM_low adM_high adM_packet adM_known _ _ hP hD hS _ (lv_sub hl [2, 5, 0] rfl)
  · have hG := zt hG hc
    refine lv_lload hx hb d_M_suitsId_157 (lv_at hl 5 rfl) ?_
    refine lv_ldc2 (v := (1200 : Int64)) hx hb hown (hts (.constantLong R_M 281 (1200 : Int64)) zin_M_281) d_M_suitsId_159 ?_
    refine W.lcmp hx hb d_M_suitsId_162 ?_
    refine lv_if_lt (tgt := 181) hx hb d_M_suitsId_163 (by decide) (fun hc => ?_) (fun hc => ?_)
    · have hG := zt hG hc
      exact k_M_suitsId_181 X hA zz N sM_151 v1 v6 s0 _ hG adM adM_tape adM_frameAt adM_field adM_draft adM_given adM_low adM_high adM_packet adM_known _ _ hP hD hS _ (lv_sub hl [2, 5, 0] rfl)
    · have hG := zf hG hc
      exact k_M_suitsId_166 X hA zz N sM_151 v1 v6 s0 _ hG adM adM_tape adM_frameAt adM_field adM_draft adM_given adM_low adM_high adM_packet adM_known _ _ hP hD hS _ (lv_sub hl [2, 5, 0] rfl)
set_option maxRecDepth 100000 in
set_option maxHeartbeats 4000000 in
theorem k_M_suitsId_124 {p : Program} {l : Launch} {e : Env} {R : Room} {s : State} {m : MethodId} {args : Array Value} {below : List Frame} {meth : Method} {c : Code} {dC : Nat → ClassId} {dI : Nat → Nat → Nat} {cB cI cL : ClassId} {A : Nat → Prop} (X : zx p s m args meth c R R_M b_M_suitsId (some .boolean) 11 3 68) (hA : ∀ q, s.heap.size ≤ q → A q) (zz : zk dC dI cB cI cL A s)  (N : Nat) (sM : zM) (v1 : Int32) (v4 : Int32) (v5 : Int32) (v6 : Int64) (a : Int32 × zM) (hG : g_M_suitsId_124 N sM v1 v4 v5 v6 = some a) (adM adM_tape adM_frameAt adM_field adM_draft adM_given adM_low adM_high adM_packet adM_known : Nat) (H : Heap) (locs : List Loc) (hP : va_P (dC, dI) zcl (zwM adM adM_tape adM_frameAt adM_field adM_draft adM_given adM_low adM_high adM_packet adM_known cB cI cL sM) H) (hD : va_D A (zwM adM adM_tape adM_frameAt adM_field adM_draft adM_given adM_low adM_high adM_packet adM_known cB cI cL sM)) (hS : va_S A s.heap H locs) (ls : Array Slot) (hl : lv_has ls 11 [(0, .ref adM), (1, .int v1), (4, .int v4), (5, .int v5), (6, .long v6)]) : W p l e R s m args below meth c H locs 0 0 (MQ below (q_M_suitsId dC dI cB cI cL A adM adM_tape adM_frameAt adM_field adM_draft adM_given adM_low adM_high adM_packet adM_known a) args s 0 0 A) (F0 m 124 ls []) := by
  obtain ⟨hx, hb, hr, hml, hown, hts, hlocks, hRf, hRl⟩ := id X
  unfold g_M_suitsId_124 at hG
  refine lv_iconst (v := (0 : Int32)) hx hb d_M_suitsId_124 (by decide) ?_
  exact k_M_suitsId_125 X hA zz N sM v1 v4 v5 v6 (0 : Int32) _ hG adM adM_tape adM_frameAt adM_field adM_draft adM_given adM_low adM_high adM_packet adM_known _ _ hP hD hS _ (lv_sub hl [0, 1, 2, 3, 4] rfl)
set_option maxRecDepth 100000 in
set_option maxHeartbeats 4000000 in
theorem k_M_suitsId_75 {p : Program} {l : Launch} {e : Env} {R : Room} {s : State} {m : MethodId} {args : Array Value} {below : List Frame} {meth : Method} {c : Code} {dC : Nat → ClassId} {dI : Nat → Nat → Nat} {cB cI cL : ClassId} {A : Nat → Prop} (X : zx p s m args meth c R R_M b_M_suitsId (some .boolean) 11 3 68) (hA : ∀ q, s.heap.size ≤ q → A q) (zz : zk dC dI cB cI cL A s)  (N : Nat) (sM : zM) (s0 : Int32) (a : Int32 × zM) (hG : g_M_suitsId_75 N sM s0 = some a) (adM adM_tape adM_frameAt adM_field adM_draft adM_given adM_low adM_high adM_packet adM_known : Nat) (H : Heap) (locs : List Loc) (hP : va_P (dC, dI) zcl (zwM adM adM_tape adM_frameAt adM_field adM_draft adM_given adM_low adM_high adM_packet adM_known cB cI cL sM) H) (hD : va_D A (zwM adM adM_tape adM_frameAt adM_field adM_draft adM_given adM_low adM_high adM_packet adM_known cB cI cL sM)) (hS : va_S A s.heap H locs) (ls : Array Slot) (hl : lv_has ls 11 []) : W p l e R s m args below meth c H locs 0 0 (MQ below (q_M_suitsId dC dI cB cI cL A adM adM_tape adM_frameAt adM_field adM_draft adM_given adM_low adM_high adM_packet adM_known a) args s 0 0 A) (F0 m 75 ls [.int s0]) := by
  obtain ⟨hx, hb, hr, hml, hown, hts, hlocks, hRf, hRl⟩ := id X
  unfold g_M_suitsId_75 at hG
  obtain ⟨hnb, hG⟩ := zgd hG
  exact W.zret (v := s0) hx hb hr hnb (fun t9 ht9 hW9 => ⟨⟨s0, (sM), rfl, Option.some.inj hG, by rw [ht9]; exact hP, hD⟩, hS.F ht9⟩) hS.2.2 d_M_suitsId_75
set_option maxRecDepth 100000 in
set_option maxHeartbeats 4000000 in
theorem k_M_suitsId_56 {p : Program} {l : Launch} {e : Env} {R : Room} {s : State} {m : MethodId} {args : Array Value} {below : List Frame} {meth : Method} {c : Code} {dC : Nat → ClassId} {dI : Nat → Nat → Nat} {cB cI cL : ClassId} {A : Nat → Prop} (X : zx p s m args meth c R R_M b_M_suitsId (some .boolean) 11 3 68) (hA : ∀ q, s.heap.size ≤ q → A q) (zz : zk dC dI cB cI cL A s)  (N : Nat) (sM : zM) (s0 : Int32) (a : Int32 × zM) (hG : g_M_suitsId_56 N sM s0 = some a) (adM adM_tape adM_frameAt adM_field adM_draft adM_given adM_low adM_high adM_packet adM_known : Nat) (H : Heap) (locs : List Loc) (hP : va_P (dC, dI) zcl (zwM adM adM_tape adM_frameAt adM_field adM_draft adM_given adM_low adM_high adM_packet adM_known cB cI cL sM) H) (hD : va_D A (zwM adM adM_tape adM_frameAt adM_field adM_draft adM_given adM_low adM_high adM_packet adM_known cB cI cL sM)) (hS : va_S A s.heap H locs) (ls : Array Slot) (hl : lv_has ls 11 []) : W p l e R s m args below meth c H locs 0 0 (MQ below (q_M_suitsId dC dI cB cI cL A adM adM_tape adM_frameAt adM_field adM_draft adM_given adM_low adM_high adM_packet adM_known a) args s 0 0 A) (F0 m 56 ls [.int s0]) := by
  obtain ⟨hx, hb, hr, hml, hown, hts, hlocks, hRf, hRl⟩ := id X
  unfold g_M_suitsId_56 at hG
  obtain ⟨hnb, hG⟩ := zgd hG
  exact W.zret (v := s0) hx hb hr hnb (fun t9 ht9 hW9 => ⟨⟨s0, (sM), rfl, Option.some.inj hG, by rw [ht9]; exact hP, hD⟩, hS.F ht9⟩) hS.2.2 d_M_suitsId_56
set_option maxRecDepth 100000 in
set_option maxHeartbeats 4000000 in
theorem k_M_suitsId_55 {p : Program} {l : Launch} {e : Env} {R : Room} {s : State} {m : MethodId} {args : Array Value} {below : List Frame} {meth : Method} {c : Code} {dC : Nat → ClassId} {dI : Nat → Nat → Nat} {cB cI cL : ClassId} {A : Nat → Prop} (X : zx p s m args meth c R R_M b_M_suitsId (some .boolean) 11 3 68) (hA : ∀ q, s.heap.size ≤ q → A q) (zz : zk dC dI cB cI cL A s)  (N : Nat) (sM : zM) (a : Int32 × zM) (hG : g_M_suitsId_55 N sM = some a) (adM adM_tape adM_frameAt adM_field adM_draft adM_given adM_low adM_high adM_packet adM_known : Nat) (H : Heap) (locs : List Loc) (hP : va_P (dC, dI) zcl (zwM adM adM_tape adM_frameAt adM_field adM_draft adM_given adM_low adM_high adM_packet adM_known cB cI cL sM) H) (hD : va_D A (zwM adM adM_tape adM_frameAt adM_field adM_draft adM_given adM_low adM_high adM_packet adM_known cB cI cL sM)) (hS : va_S A s.heap H locs) (ls : Array Slot) (hl : lv_has ls 11 []) : W p l e R s m args below meth c H locs 0 0 (MQ below (q_M_suitsId dC dI cB cI cL A adM adM_tape adM_frameAt adM_field adM_draft adM_given adM_low adM_high adM_packet adM_known a) args s 0 0 A) (F0 m 55 ls []) := by
  obtain ⟨hx, hb, hr, hml, hown, hts, hlocks, hRf, hRl⟩ := id X
  unfold g_M_suitsId_55 at hG
  refine lv_iconst (v := (0 : Int32)) hx hb d_M_suitsId_55 (by decide) ?_
  exact k_M_suitsId_56 X hA zz N sM (0 : Int32) _ hG adM adM_tape adM_frameAt adM_field adM_draft adM_given adM_low adM_high adM_packet adM_known _ _ hP hD hS _ (lv_sub hl [] rfl)
set_option maxRecDepth 100000 in
set_option maxHeartbeats 4000000 in
theorem k_M_suitsId_32 {p : Program} {l : Launch} {e : Env} {R : Room} {s : State} {m : MethodId} {args : Array Value} {below : List Frame} {meth : Method} {c : Code} {dC : Nat → ClassId} {dI : Nat → Nat → Nat} {cB cI cL : ClassId} {A : Nat → Prop} (X : zx p s m args meth c R R_M b_M_suitsId (some .boolean) 11 3 68) (hA : ∀ q, s.heap.size ≤ q → A q) (zz : zk dC dI cB cI cL A s)  (N : Nat) (sM : zM) (s0 : Int32) (a : Int32 × zM) (hG : g_M_suitsId_32 N sM s0 = some a) (adM adM_tape adM_frameAt adM_field adM_draft adM_given adM_low adM_high adM_packet adM_known : Nat) (H : Heap) (locs : List Loc) (hP : va_P (dC, dI) zcl (zwM adM adM_tape adM_frameAt adM_field adM_draft adM_given adM_low adM_high adM_packet adM_known cB cI cL sM) H) (hD : va_D A (zwM adM adM_tape adM_frameAt adM_field adM_draft adM_given adM_low adM_high adM_packet adM_known cB cI cL sM)) (hS : va_S A s.heap H locs) (ls : Array Slot) (hl : lv_has ls 11 []) : W p l e R s m args below meth c H locs 0 0 (MQ below (q_M_suitsId dC dI cB cI cL A adM adM_tape adM_frameAt adM_field adM_draft adM_given adM_low adM_high adM_packet adM_known a) args s 0 0 A) (F0 m 32 ls [.int s0]) := by
  obtain ⟨hx, hb, hr, hml, hown, hts, hlocks, hRf, hRl⟩ := id X
  unfold g_M_suitsId_32 at hG
  obtain ⟨hnb, hG⟩ := zgd hG
  exact W.zret (v := s0) hx hb hr hnb (fun t9 ht9 hW9 => ⟨⟨s0, (sM), rfl, Option.some.inj hG, by rw [ht9]; exact hP, hD⟩, hS.F ht9⟩) hS.2.2 d_M_suitsId_32
set_option maxRecDepth 100000 in
set_option maxHeartbeats 4000000 in
theorem k_M_suitsId_15 {p : Program} {l : Launch} {e : Env} {R : Room} {s : State} {m : MethodId} {args : Array Value} {below : List Frame} {meth : Method} {c : Code} {dC : Nat → ClassId} {dI : Nat → Nat → Nat} {cB cI cL : ClassId} {A : Nat → Prop} (X : zx p s m args meth c R R_M b_M_suitsId (some .boolean) 11 3 68) (hA : ∀ q, s.heap.size ≤ q → A q) (zz : zk dC dI cB cI cL A s)  (N : Nat) (sM : zM) (s0 : Int32) (a : Int32 × zM) (hG : g_M_suitsId_15 N sM s0 = some a) (adM adM_tape adM_frameAt adM_field adM_draft adM_given adM_low adM_high adM_packet adM_known : Nat) (H : Heap) (locs : List Loc) (hP : va_P (dC, dI) zcl (zwM adM adM_tape adM_frameAt adM_field adM_draft adM_given adM_low adM_high adM_packet adM_known cB cI cL sM) H) (hD : va_D A (zwM adM adM_tape adM_frameAt adM_field adM_draft adM_given adM_low adM_high adM_packet adM_known cB cI cL sM)) (hS : va_S A s.heap H locs) (ls : Array Slot) (hl : lv_has ls 11 []) : W p l e R s m args below meth c H locs 0 0 (MQ below (q_M_suitsId dC dI cB cI cL A adM adM_tape adM_frameAt adM_field adM_draft adM_given adM_low adM_high adM_packet adM_known a) args s 0 0 A) (F0 m 15 ls [.int s0]) := by
  obtain ⟨hx, hb, hr, hml, hown, hts, hlocks, hRf, hRl⟩ := id X
  unfold g_M_suitsId_15 at hG
  obtain ⟨hnb, hG⟩ := zgd hG
  exact W.zret (v := s0) hx hb hr hnb (fun t9 ht9 hW9 => ⟨⟨s0, (sM), rfl, Option.some.inj hG, by rw [ht9]; exact hP, hD⟩, hS.F ht9⟩) hS.2.2 d_M_suitsId_15
set_option maxRecDepth 100000 in
set_option maxHeartbeats 4000000 in
theorem k_M_suitsId_0 {p : Program} {l : Launch} {e : Env} {R : Room} {s : State} {m : MethodId} {args : Array Value} {below : List Frame} {meth : Method} {c : Code} {dC : Nat → ClassId} {dI : Nat → Nat → Nat} {cB cI cL : ClassId} {A : Nat → Prop} (X : zx p s m args meth c R R_M b_M_suitsId (some .boolean) 11 3 68) (hA : ∀ q, s.heap.size ≤ q → A q) (zz : zk dC dI cB cI cL A s)  (N : Nat) (sM : zM) (v1 : Int32) (v2 : Int32) (v3 : Int32) (a : Int32 × zM) (hG : g_M_suitsId N sM v1 v2 v3 = some a) (adM adM_tape adM_frameAt adM_field adM_draft adM_given adM_low adM_high adM_packet adM_known : Nat) (H : Heap) (locs : List Loc) (hP : va_P (dC, dI) zcl (zwM adM adM_tape adM_frameAt adM_field adM_draft adM_given adM_low adM_high adM_packet adM_known cB cI cL sM) H) (hD : va_D A (zwM adM adM_tape adM_frameAt adM_field adM_draft adM_given adM_low adM_high adM_packet adM_known cB cI cL sM)) (hS : va_S A s.heap H locs) (ls : Array Slot) (hl : lv_has ls 11 [(0, .ref adM), (1, .int v1), (2, .int v2), (3, .int v3)]) : W p l e R s m args below meth c H locs 0 0 (MQ below (q_M_suitsId dC dI cB cI cL A adM adM_tape adM_frameAt adM_field adM_draft adM_given adM_low adM_high adM_packet adM_known a) args s 0 0 A) (F0 m 0 ls []) := by
  obtain ⟨hx, hb, hr, hml, hown, hts, hlocks, hRf, hRl⟩ := id X
  unfold g_M_suitsId at hG
  refine lv_iload_n hx hb d_M_suitsId_0 rfl (lv_at hl 1 rfl) ?_
  refine lv_bipush (v := (12 : Int32)) hx hb d_M_suitsId_1 (by decide) ?_
  refine lv_icmp_ne (tgt := 16) hx hb d_M_suitsId_3 (by decide) (fun hc => ?_) (fun hc => ?_)
  · have hG := zf hG hc
    refine lv_iload_n hx hb d_M_suitsId_16 rfl (lv_at hl 1 rfl) ?_
    refine lv_iconst (v := (2 : Int32)) hx hb d_M_suitsId_17 (by decide) ?_
    refine lv_icmp_ne (tgt := 33) hx hb d_M_suitsId_18 (by decide) (fun hc => ?_) (fun hc => ?_)
    · have hG := zf hG hc
      refine lv_iload_n hx hb d_M_suitsId_33 rfl (lv_at hl 1 rfl) ?_
      refine lv_bipush (v := (13 : Int32)) hx hb d_M_suitsId_34 (by decide) ?_
      refine lv_icmp_ne (tgt := 57) hx hb d_M_suitsId_36 (by decide) (fun hc => ?_) (fun hc => ?_)
      · have hG := zf hG hc
        refine lv_iload_n hx hb d_M_suitsId_57 rfl (lv_at hl 1 rfl) ?_
        obtain ⟨a_58, hx_58, hG⟩ := zb hG
        have hr_58 := zrunS (p := p) (e := e) (below := below) (meth := meth) (As := [.int v1]) (rest := []) (st0 := [.int v1]) (cells := 0) (slots := 0) X zz hP hD hS hA [] (by decide) rfl (c_M_hasBytes l dC dI cB cI cL H.size v1 _ hx_58) zy_M_hasBytes zv_M_hasBytes (hts (.methodLink R_M 274 y_M_hasBytes) zin_M_274) hl rfl rfl d_M_suitsId_58 (lv_room (Nat.le_of_ble_eq_true rfl)) rfl rfl ⟨Nat.le_trans (Nat.le_of_ble_eq_true rfl) hRf, Nat.le_trans (Nat.le_of_ble_eq_true rfl) hRl⟩ ⟨Nat.zero_le _, Nat.zero_le _⟩
        refine zcalli (wr := (zwM adM adM_tape adM_frameAt adM_field adM_draft adM_given adM_low adM_high adM_packet adM_known cB cI cL sM)) hr_58 hP hD hS hA [] [0, 1, 2, 3, 4, 5, 6, 7, 8, 9] rfl rfl (by decide) (by decide) (fun r_58 u_58 H locs hw_58 hP hD hS => ?_)
        subst hw_58
        have hP : va_P (dC, dI) zcl (zwM adM adM_tape adM_frameAt adM_field adM_draft adM_given adM_low adM_high adM_packet adM_known cB cI cL sM) H := hP
        have hD : va_D A (zwM adM adM_tape adM_frameAt adM_field adM_draft adM_given adM_low adM_high adM_packet adM_known cB cI cL sM) := hD
        have hG : g_M_suitsId_c58 N sM v1 v2 v3 r_58 = some a := hG
        unfold g_M_suitsId_c58 at hG
        refine lv_if_eq (tgt := 76) hx hb d_M_suitsId_61 (by decide) (fun hc => ?_) (fun hc => ?_)
        · have hG := zt hG hc
          refine lv_aload_n hx hb d_M_suitsId_76 rfl (lv_at hl 0 rfl) ?_
          refine va_get (D := (dC, dI)) (ci := 8) (v := .int (zM_at sM)) (C := R_M) (T := F_M) (N := 26) hx hb hts zi_M hown zz.1 hP 0 rfl rfl 14 (by decide) (hts (.fieldLink R_M 110 "WireCodecModel" "at" "I") zin_M_110) (fun _ h9 => h9) rfl d_M_suitsId_77 ?_
          refine lv_istore (lv' := [(4, .int (zM_at sM)), (0, .ref adM), (1, .int v1), (2, .int v2), (3, .int v3)]) hx hb d_M_suitsId_80 hl (by decide) rfl (fun ls hl => ?_)
          refine lv_aload_n hx hb d_M_suitsId_82 rfl (lv_at hl 1 rfl) ?_
          refine va_get (D := (dC, dI)) (ci := 8) (v := .int (zM_end sM)) (C := R_M) (T := F_M) (N := 26) hx hb hts zi_M hown zz.1 hP 0 rfl rfl 16 (by decide) (hts (.fieldLink R_M 113 "WireCodecModel" "end" "I") zin_M_113) (fun _ h9 => h9) rfl d_M_suitsId_83 ?_
          refine lv_istore (lv' := [(5, .int (zM_end sM)), (4, .int (zM_at sM)), (0, .ref adM), (1, .int v1), (2, .int v2), (3, .int v3)]) hx hb d_M_suitsId_86 hl (by decide) rfl (fun ls hl => ?_)
          refine lv_aload_n hx hb d_M_suitsId_88 rfl (lv_at hl 2 rfl) ?_
          refine lv_iload_n hx hb d_M_suitsId_89 rfl (lv_at hl 4 rfl) ?_
          refine lv_iload_n hx hb d_M_suitsId_90 rfl (lv_at hl 4 rfl) ?_
          refine lv_iload_n hx hb d_M_suitsId_91 rfl (lv_at hl 5 rfl) ?_
          refine lv_iadd hx hb d_M_suitsId_92 ?_
          obtain ⟨a_93, hx_93, hG⟩ := zb hG
          have hr_93 := zrunV (p := p) (e := e) (below := below) (meth := meth) (As := [.int v2, .int (v2 + v3)]) (rest := []) (st0 := [.int (v2 + v3), .int v2, .ref adM]) (cells := 0) (slots := 0) X zz hP hD hS hA [0, 1, 2, 3, 4, 5, 6, 7, 8, 9] (by decide) rfl (c_M_look l dC dI cB cI cL H.size adM adM_tape adM_frameAt adM_field adM_draft adM_given adM_low adM_high adM_packet adM_known sM v2 (v2 + v3) _ hx_93) zy_M_look zv_M_look (hts (.methodLink R_M 124 y_M_look) zin_M_124) hl rfl rfl d_M_suitsId_93 (lv_room (Nat.le_of_ble_eq_true rfl)) rfl rfl ⟨Nat.le_trans (Nat.le_of_ble_eq_true rfl) hRf, Nat.le_trans (Nat.le_of_ble_eq_true rfl) hRl⟩ ⟨Nat.zero_le _, Nat.zero_le _⟩ 0 8 rfl rfl
          refine zcallv (wr := ([] : va_W)) hr_93 hP hD hS hA [0, 1, 2, 3, 4, 5, 6, 7, 8, 9] [] rfl rfl (by decide) (by decide) (fun u_93 H locs hw_93 hP hD hS => ?_)
          obtain ⟨sM_93, rfl⟩ : ∃ z, z = u_93 := ⟨_, rfl⟩
          subst hw_93
          have hP : va_P (dC, dI) zcl (zwM adM adM_tape adM_frameAt adM_field adM_draft adM_given adM_low adM_high adM_packet adM_known cB cI cL sM_93) H := hP
          have hD : va_D A (zwM adM adM_tape adM_frameAt adM_field adM_draft adM_given adM_low adM_high adM_packet adM_known cB cI cL sM_93) := hD
          have hG : g_M_suitsId_c93 N sM v1 sM_93 = some a := hG
          unfold g_M_suitsId_c93 at hG
          refine lv_aload_n hx hb d_M_suitsId_96 rfl (lv_at hl 2 rfl) ?_
          obtain ⟨a_97, hx_97, hG⟩ := zb hG
          have hr_97 := zrunV (p := p) (e := e) (below := below) (meth := meth) (As := []) (rest := []) (st0 := [.ref adM]) (cells := 0) (slots := 0) X zz hP hD hS hA [0, 1, 2, 3, 4, 5, 6, 7, 8, 9] (by decide) rfl (c_M_takeNumber l dC dI cB cI cL H.size adM adM_tape adM_frameAt adM_field adM_draft adM_given adM_low adM_high adM_packet adM_known N sM_93 _ hx_97) zy_M_takeNumber zv_M_takeNumber (hts (.methodLink R_M 128 y_M_takeNumber) zin_M_128) hl rfl rfl d_M_suitsId_97 (lv_room (Nat.le_of_ble_eq_true rfl)) rfl rfl ⟨Nat.le_trans (Nat.le_of_ble_eq_true rfl) hRf, Nat.le_trans (Nat.le_of_ble_eq_true rfl) hRl⟩ ⟨Nat.zero_le _, Nat.zero_le _⟩ 0 8 rfl rfl
          refine zcalll (wr := ([] : va_W)) hr_97 hP hD hS hA [0, 1, 2, 3, 4, 5, 6, 7, 8, 9] [] rfl rfl (by decide) (by decide) (fun r_97 u_97 H locs hw_97 hP hD hS => ?_)
          obtain ⟨sM_97, rfl⟩ : ∃ z, z = u_97 := ⟨_, rfl⟩
          subst hw_97
          have hP : va_P (dC, dI) zcl (zwM adM adM_tape adM_frameAt adM_field adM_draft adM_given adM_low adM_high adM_packet adM_known cB cI cL sM_97) H := hP
          have hD : va_D A (zwM adM adM_tape adM_frameAt adM_field adM_draft adM_given adM_low adM_high adM_packet adM_known cB cI cL sM_97) := hD
          have hG : g_M_suitsId_c97 N sM v1 sM_97 r_97 = some a := hG
          unfold g_M_suitsId_c97 at hG
          refine lv_lstore (lv' := [(6, .long r_97), (5, .int (zM_end sM)), (4, .int (zM_at sM)), (0, .ref adM), (1, .int v1), (2, .int v2), (3, .int v3)]) hx hb d_M_suitsId_100 hl (by decide) rfl (fun ls hl => ?_)
          refine lv_aload_n hx hb d_M_suitsId_102 rfl (lv_at hl 3 rfl) ?_
          refine va_get (D := (dC, dI)) (ci := 8) (v := .int (zM_over sM_97)) (C := R_M) (T := F_M) (N := 26) hx hb hts zi_M hown zz.1 hP 0 rfl rfl 15 (by decide) (hts (.fieldLink R_M 116 "WireCodecModel" "over" "Z") zin_M_116) (fun _ h9 => h9) rfl d_M_suitsId_103 ?_
          refine lv_if_ne (tgt := 124) hx hb d_M_suitsId_106 (by decide) (fun hc => ?_) (fun hc => ?_)
          · have hG := zf hG hc
            exact k_M_suitsId_124 X hA zz N sM_97 v1 (zM_at sM) (zM_end sM) r_97 _ hG adM adM_tape adM_frameAt adM_field adM_draft adM_given adM_low adM_high adM_packet adM_known _ _ hP hD hS _ (lv_sub hl [3, 4, 2, 1, 0] rfl)
          · have hG := zt hG hc
            refine lv_aload_n hx hb d_M_suitsId_109 rfl (lv_at hl 3 rfl) ?_
            refine va_get (D := (dC, dI)) (ci := 8) (v := .int (zM_at sM_97)) (C := R_M) (T := F_M) (N := 26) hx hb hts zi_M hown zz.1 hP 0 rfl rfl 14 (by decide) (hts (.fieldLink R_M 110 "WireCodecModel" "at" "I") zin_M_110) (fun _ h9 => h9) rfl d_M_suitsId_110 ?_
            refine lv_aload_n hx hb d_M_suitsId_113 rfl (lv_at hl 3 rfl) ?_
            refine va_get (D := (dC, dI)) (ci := 8) (v := .int (zM_end sM_97)) (C := R_M) (T := F_M) (N := 26) hx hb hts zi_M hown zz.1 hP 0 rfl rfl 16 (by decide) (hts (.fieldLink R_M 113 "WireCodecModel" "end" "I") zin_M_113) (fun _ h9 => h9) rfl d_M_suitsId_114 ?_
            refine lv_icmp_ne (tgt := 124) hx hb d_M_suitsId_117 (by decide) (fun hc => ?_) (fun hc => ?_)
            · have hG := zf hG hc
              exact k_M_suitsId_124 X hA zz N sM_97 v1 (zM_at sM) (zM_end sM) r_97 _ hG adM adM_tape adM_frameAt adM_field adM_draft adM_given adM_low adM_high adM_packet adM_known _ _ hP hD hS _ (lv_sub hl [3, 4, 2, 1, 0] rfl)
            · have hG := zt hG hc
              refine lv_iconst (v := (1 : Int32)) hx hb d_M_suitsId_120 (by decide) ?_
              refine lv_goto (tgt := 125) hx hb d_M_suitsId_121 (by decide) ?_
              exact k_M_suitsId_125 X hA zz N sM_97 v1 (zM_at sM) (zM_end sM) r_97 (1 : Int32) _ hG adM adM_tape adM_frameAt adM_field adM_draft adM_given adM_low adM_high adM_packet adM_known _ _ hP hD hS _ (lv_sub hl [3, 4, 2, 1, 0] rfl)
        · have hG := zf hG hc
          refine lv_iload_n hx hb d_M_suitsId_64 rfl (lv_at hl 3 rfl) ?_
          refine lv_bipush (v := (20 : Int32)) hx hb d_M_suitsId_65 (by decide) ?_
          refine lv_icmp_gt (tgt := 74) hx hb d_M_suitsId_67 (by decide) (fun hc => ?_) (fun hc => ?_)
          · have hG := zt hG hc
            refine lv_iconst (v := (0 : Int32)) hx hb d_M_suitsId_74 (by decide) ?_
            exact k_M_suitsId_75 X hA zz N sM (0 : Int32) _ hG adM adM_tape adM_frameAt adM_field adM_draft adM_given adM_low adM_high adM_packet adM_known _ _ hP hD hS _ (lv_sub hl [] rfl)
          · have hG := zf hG hc
            refine lv_iconst (v := (1 : Int32)) hx hb d_M_suitsId_70 (by decide) ?_
            refine lv_goto (tgt := 75) hx hb d_M_suitsId_71 (by decide) ?_
            exact k_M_suitsId_75 X hA zz N sM (1 : Int32) _ hG adM adM_tape adM_frameAt adM_field adM_draft adM_given adM_low adM_high adM_packet adM_known _ _ hP hD hS _ (lv_sub hl [] rfl)
      · have hG := zt hG hc
        refine lv_iload_n hx hb d_M_suitsId_39 rfl (lv_at hl 3 rfl) ?_
        refine lv_bipush (v := (41 : Int32)) hx hb d_M_suitsId_40 (by decide) ?_
        refine lv_icmp_lt (tgt := 55) hx hb d_M_suitsId_42 (by decide) (fun hc => ?_) (fun hc => ?_)
        · have hG := zt hG hc
          exact k_M_suitsId_55 X hA zz N sM _ hG adM adM_tape adM_frameAt adM_field adM_draft adM_given adM_low adM_high adM_packet adM_known _ _ hP hD hS _ (lv_sub hl [] rfl)
        · have hG := zf hG hc
          refine lv_iload_n hx hb d_M_suitsId_45 rfl (lv_at hl 3 rfl) ?_
          refine lv_bipush (v := (61 : Int32)) hx hb d_M_suitsId_46 (by decide) ?_
          refine lv_icmp_gt (tgt := 55) hx hb d_M_suitsId_48 (by decide) (fun hc => ?_) (fun hc => ?_)
          · have hG := zt hG hc
            exact k_M_suitsId_55 X hA zz N sM _ hG adM adM_tape adM_frameAt adM_field adM_draft adM_given adM_low adM_high adM_packet adM_known _ _ hP hD hS _ (lv_sub hl [] rfl)
          · have hG := zf hG hc
            refine lv_iconst (v := (1 : Int32)) hx hb d_M_suitsId_51 (by decide) ?_
            refine lv_goto (tgt := 56) hx hb d_M_suitsId_52 (by decide) ?_
            exact k_M_suitsId_56 X hA zz N sM (1 : Int32) _ hG adM adM_tape adM_frameAt adM_field adM_draft adM_given adM_low adM_high adM_packet adM_known _ _ hP hD hS _ (lv_sub hl [] rfl)
    · have hG := zt hG hc
      refine lv_iload_n hx hb d_M_suitsId_21 rfl (lv_at hl 3 rfl) ?_
      refine lv_bipush (v := (16 : Int32)) hx hb d_M_suitsId_22 (by decide) ?_
      refine lv_icmp_ne (tgt := 31) hx hb d_M_suitsId_24 (by decide) (fun hc => ?_) (fun hc => ?_)
      · have hG := zf hG hc
        refine lv_iconst (v := (0 : Int32)) hx hb d_M_suitsId_31 (by decide) ?_
        exact k_M_suitsId_32 X hA zz N sM (0 : Int32) _ hG adM adM_tape adM_frameAt adM_field adM_draft adM_given adM_low adM_high adM_packet adM_known _ _ hP hD hS _ (lv_sub hl [] rfl)
      · have hG := zt hG hc
        refine lv_iconst (v := (1 : Int32)) hx hb d_M_suitsId_27 (by decide) ?_
        refine lv_goto (tgt := 32) hx hb d_M_suitsId_28 (by decide) ?_
        exact k_M_suitsId_32 X hA zz N sM (1 : Int32) _ hG adM adM_tape adM_frameAt adM_field adM_draft adM_given adM_low adM_high adM_packet adM_known _ _ hP hD hS _ (lv_sub hl [] rfl)
  · have hG := zt hG hc
    refine lv_iload_n hx hb d_M_suitsId_6 rfl (lv_at hl 3 rfl) ?_
    refine lv_if_ne (tgt := 14) hx hb d_M_suitsId_7 (by decide) (fun hc => ?_) (fun hc => ?_)
    · have hG := zf hG hc
      refine lv_iconst (v := (0 : Int32)) hx hb d_M_suitsId_14 (by decide) ?_
      exact k_M_suitsId_15 X hA zz N sM (0 : Int32) _ hG adM adM_tape adM_frameAt adM_field adM_draft adM_given adM_low adM_high adM_packet adM_known _ _ hP hD hS _ (lv_sub hl [] rfl)
    · have hG := zt hG hc
      refine lv_iconst (v := (1 : Int32)) hx hb d_M_suitsId_10 (by decide) ?_
      refine lv_goto (tgt := 15) hx hb d_M_suitsId_11 (by decide) ?_
      exact k_M_suitsId_15 X hA zz N sM (1 : Int32) _ hG adM adM_tape adM_frameAt adM_field adM_draft adM_given adM_low adM_high adM_packet adM_known _ _ hP hD hS _ (lv_sub hl [] rfl)
set_option maxRecDepth 100000 in
set_option maxHeartbeats 4000000 in
theorem c_M_suitsId (l : Launch) (dC : Nat → ClassId) (dI : Nat → Nat → Nat) (cB cI cL : ClassId) (sz : Nat) (adM adM_tape adM_frameAt adM_field adM_draft adM_given adM_low adM_high adM_packet adM_known : Nat) (N : Nat) (sM : zM) (v1 : Int32) (v2 : Int32) (v3 : Int32) (a : Int32 × zM) (hG : g_M_suitsId N sM v1 v2 v3 = some a) : Met l y_M_suitsId (zw y_M_suitsId b_M_suitsId 11 (some .boolean)) ({ frames := 3, cells := 0, slots := 0, locals := 68 }) (va_Pc [.ref adM, .int v1, .int v2, .int v3] (zpre dC dI cB cI cL sz (zwM adM adM_tape adM_frameAt adM_field adM_draft adM_given adM_low adM_high adM_packet adM_known cB cI cL sM))) (q_M_suitsId dC dI cB cI cL (va_A (zwM adM adM_tape adM_frameAt adM_field adM_draft adM_given adM_low adM_high adM_packet adM_known cB cI cL sM) sz) adM adM_tape adM_frameAt adM_field adM_draft adM_given adM_low adM_high adM_packet adM_known a) 0 0 (va_A (zwM adM adM_tape adM_frameAt adM_field adM_draft adM_given adM_low adM_high adM_packet adM_known cB cI cL sM) sz) := by
  refine Met.ofW (cc := b_M_suitsId) (maxL := 11) (ret := (some .boolean)) (by decide) rfl ?_
  intro p e s m args below meth c s₁ B hml hv
  obtain ⟨rfl, hsz, hP, zz, hD0⟩ := hv
  subst hsz
  have X := zx_of (F := 3) (L := 68) B hml (Nat.le_refl _) (Nat.le_refl _)
  have hD := hD0.self (sz := s.heap.size)
  have hA : ∀ q : Nat, s.heap.size ≤ q → va_A (zwM adM adM_tape adM_frameAt adM_field adM_draft adM_given adM_low adM_high adM_packet adM_known cB cI cL sM) s.heap.size q := fun q h => Or.inr h
  have hl := lv_entry ([.ref adM, .int v1, .int v2, .int v3]) (n := 11) (Nat.le_of_ble_eq_true rfl)
  rw [lg_entry_eq]
  generalize (lg_sl ([.ref adM, .int v1, .int v2, .int v3]) ++ List.replicate (11 - (lg_sl ([.ref adM, .int v1, .int v2, .int v3])).length) Slot.unset).toArray = ls at hl ⊢
  exact k_M_suitsId_0 X hA zz N sM v1 v2 v3 a hG adM adM_tape adM_frameAt adM_field adM_draft adM_given adM_low adM_high adM_packet adM_known _ _ hP hD va_S.rf ls hl
noncomputable def g_M_parameterFlaw_133 (N : Nat) (sM : zM) : Option (Int32 × zM) := some ((0 : Int32), sM)
noncomputable def g_M_parameterFlaw_w132 (N : Nat) (sM_132 : zM) : Option (Int32 × zM) := g_M_parameterFlaw_133 N sM_132
noncomputable def g_M_parameterFlaw_118 (N : Nat) (sM : zM) (v8 : Int32) : Option (Int32 × zM) := if v8 = (12 : Int32) then (zg (vp_in v8 17) (g_M_parameterFlaw_w132 N (zM_known' sM (vp_updL (zM_known sM) v8.toNatClampNeg (1 : Int64))))) else (g_M_parameterFlaw_133 N sM)
noncomputable def g_M_parameterFlaw_w117 (N : Nat) (v8 : Int32) (sM_117 : zM) : Option (Int32 × zM) := g_M_parameterFlaw_118 N sM_117 v8
noncomputable def g_M_parameterFlaw_c103 (N : Nat) (v5 : Int64) (v8 : Int32) (sM_93 : zM) (r_103 : Int32) : Option (Int32 × zM) := if r_103 = (0 : Int32) then (g_M_parameterFlaw_118 N sM_93 v8) else (zg (vp_in v8 17) (g_M_parameterFlaw_w117 N v8 (zM_known' sM_93 (vp_updL (zM_known sM_93) v8.toNatClampNeg v5))))
noncomputable def g_M_parameterFlaw_c93 (N : Nat) (v5 : Int64) (v8 : Int32) (sM_93 : zM) (r_93 : Int32) : Option (Int32 × zM) := if r_93 = (0 : Int32) then (some ((3 : Int32), sM_93)) else ((g_M_hasBytes v8).bind (fun a => g_M_parameterFlaw_c103 N v5 v8 sM_93 a))
noncomputable def g_M_parameterFlaw_85 (N : Nat) (sM : zM) (v5 : Int64) (v7 : Int32) (v8 : Int32) : Option (Int32 × zM) := (g_M_suitsId N sM v8 v7 v5.toInt32).bind (fun a => g_M_parameterFlaw_c93 N v5 v8 a.2 a.1)
noncomputable def g_M_parameterFlaw_83 (N : Nat) (sM : zM) : Option (Int32 × zM) := some ((4 : Int32), sM)
noncomputable def g_M_parameterFlaw_c14 (N : Nat) (v1 : Int32) (v2 : Int32) (r_1 : Int64) (r_6 : Int64) (sM_14 : zM) (r_14 : Int32) : Option (Int32 × zM) := if (zM_over sM_14) = (0 : Int32) then (if (lg_cmp r_1 (16 : Int64)) ≤ (0 : Int32) then (if ((v2 >>> (r_1.toInt32 &&& 31)) &&& (1 : Int32)) = (1 : Int32) then (some ((2 : Int32), sM_14)) else (if v1 = (0 : Int32) then (if r_1.toInt32 = (0 : Int32) then (g_M_parameterFlaw_83 N sM_14) else (if r_1.toInt32 = (2 : Int32) then (g_M_parameterFlaw_83 N sM_14) else (if r_1.toInt32 = (13 : Int32) then (g_M_parameterFlaw_83 N sM_14) else (if r_1.toInt32 = (16 : Int32) then (g_M_parameterFlaw_83 N sM_14) else (g_M_parameterFlaw_85 N sM_14 r_6 r_14 r_1.toInt32))))) else (g_M_parameterFlaw_85 N sM_14 r_6 r_14 r_1.toInt32))) else (some ((0 : Int32), sM_14))) else (some ((1 : Int32), sM_14))
noncomputable def g_M_parameterFlaw_c6 (N : Nat) (v1 : Int32) (v2 : Int32) (r_1 : Int64) (sM_6 : zM) (r_6 : Int64) : Option (Int32 × zM) := (g_M_pass sM_6 r_6).bind (fun a => g_M_parameterFlaw_c14 N v1 v2 r_1 r_6 a.2 a.1)
noncomputable def g_M_parameterFlaw_c1 (N : Nat) (v1 : Int32) (v2 : Int32) (sM_1 : zM) (r_1 : Int64) : Option (Int32 × zM) := (g_M_takeNumber N sM_1).bind (fun a => g_M_parameterFlaw_c6 N v1 v2 r_1 a.2 a.1)
noncomputable def g_M_parameterFlaw (N : Nat) (sM : zM) (v1 : Int32) (v2 : Int32) : Option (Int32 × zM) := (g_M_takeNumber N sM).bind (fun a => g_M_parameterFlaw_c1 N v1 v2 a.2 a.1)
def q_M_parameterFlaw (dC : Nat → ClassId) (dI : Nat → Nat → Nat) (cB cI cL : ClassId) (A : Nat → Prop) (adM : Nat) (adM_tape : Nat) (adM_frameAt : Nat) (adM_field : Nat) (adM_draft : Nat) (adM_given : Nat) (adM_low : Nat) (adM_high : Nat) (adM_packet : Nat) (adM_known : Nat) (a : Int32 × zM) : Array Value → State → Outcome → State → Prop := va_Qi (fun (r : Int32) (u : zM) => (r, u) = a) (fun u U => va_P (dC, dI) zcl (zwM adM adM_tape adM_frameAt adM_field adM_draft adM_given adM_low adM_high adM_packet adM_known cB cI cL u) U.heap ∧ va_D A (zwM adM adM_tape adM_frameAt adM_field adM_draft adM_given adM_low adM_high adM_packet adM_known cB cI cL u)) A
set_option maxRecDepth 100000 in
set_option maxHeartbeats 4000000 in
theorem k_M_parameterFlaw_133 {p : Program} {l : Launch} {e : Env} {R : Room} {s : State} {m : MethodId} {args : Array Value} {below : List Frame} {meth : Method} {c : Code} {dC : Nat → ClassId} {dI : Nat → Nat → Nat} {cB cI cL : ClassId} {A : Nat → Prop} (X : zx p s m args meth c R R_M b_M_parameterFlaw (some .int) 9 4 98) (hA : ∀ q, s.heap.size ≤ q → A q) (zz : zk dC dI cB cI cL A s)  (N : Nat) (sM : zM) (a : Int32 × zM) (hG : g_M_parameterFlaw_133 N sM = some a) (adM adM_tape adM_frameAt adM_field adM_draft adM_given adM_low adM_high adM_packet adM_known : Nat) (H : Heap) (locs : List Loc) (hP : va_P (dC, dI) zcl (zwM adM adM_tape adM_frameAt adM_field adM_draft adM_given adM_low adM_high adM_packet adM_known cB cI cL sM) H) (hD : va_D A (zwM adM adM_tape adM_frameAt adM_field adM_draft adM_given adM_low adM_high adM_packet adM_known cB cI cL sM)) (hS : va_S A s.heap H locs) (ls : Array Slot) (hl : lv_has ls 9 []) : W p l e R s m args below meth c H locs 0 0 (MQ below (q_M_parameterFlaw dC dI cB cI cL A adM adM_tape adM_frameAt adM_field adM_draft adM_given adM_low adM_high adM_packet adM_known a) args s 0 0 A) (F0 m 133 ls []) := by
  obtain ⟨hx, hb, hr, hml, hown, hts, hlocks, hRf, hRl⟩ := id X
  unfold g_M_parameterFlaw_133 at hG
  refine lv_iconst (v := (0 : Int32)) hx hb d_M_parameterFlaw_133 (by decide) ?_
  exact W.iret (v := (0 : Int32)) hx hb hr (fun t9 ht9 hW9 => ⟨⟨(0 : Int32), (sM), rfl, Option.some.inj hG, by rw [ht9]; exact hP, hD⟩, hS.F ht9⟩) hS.2.2 d_M_parameterFlaw_134
set_option maxRecDepth 100000 in
set_option maxHeartbeats 4000000 in
theorem k_M_parameterFlaw_118 {p : Program} {l : Launch} {e : Env} {R : Room} {s : State} {m : MethodId} {args : Array Value} {below : List Frame} {meth : Method} {c : Code} {dC : Nat → ClassId} {dI : Nat → Nat → Nat} {cB cI cL : ClassId} {A : Nat → Prop} (X : zx p s m args meth c R R_M b_M_parameterFlaw (some .int) 9 4 98) (hA : ∀ q, s.heap.size ≤ q → A q) (zz : zk dC dI cB cI cL A s)  (N : Nat) (sM : zM) (v8 : Int32) (a : Int32 × zM) (hG : g_M_parameterFlaw_118 N sM v8 = some a) (adM adM_tape adM_frameAt adM_field adM_draft adM_given adM_low adM_high adM_packet adM_known : Nat) (H : Heap) (locs : List Loc) (hP : va_P (dC, dI) zcl (zwM adM adM_tape adM_frameAt adM_field adM_draft adM_given adM_low adM_high adM_packet adM_known cB cI cL sM) H) (hD : va_D A (zwM adM adM_tape adM_frameAt adM_field adM_draft adM_given adM_low adM_high adM_packet adM_known cB cI cL sM)) (hS : va_S A s.heap H locs) (ls : Array Slot) (hl : lv_has ls 9 [(0, .ref adM), (8, .int v8)]) : W p l e R s m args below meth c H locs 0 0 (MQ below (q_M_parameterFlaw dC dI cB cI cL A adM adM_tape adM_frameAt adM_field adM_draft adM_given adM_low adM_high adM_packet adM_known a) args s 0 0 A) (F0 m 118 ls []) := by
  obtain ⟨hx, hb, hr, hml, hown, hts, hlocks, hRf, hRl⟩ := id X
  unfold g_M_parameterFlaw_118 at hG
  refine lv_iload hx hb d_M_parameterFlaw_118 (lv_at hl 1 rfl) ?_
  refine lv_bipush (v := (12 : Int32)) hx hb d_M_parameterFlaw_120 (by decide) ?_
  refine lv_icmp_ne (tgt := 133) hx hb d_M_parameterFlaw_122 (by decide) (fun hc => ?_) (fun hc => ?_)
  · have hG := zf hG hc
    exact k_M_parameterFlaw_133 X hA zz N sM _ hG adM adM_tape adM_frameAt adM_field adM_draft adM_given adM_low adM_high adM_packet adM_known _ _ hP hD hS _ (lv_sub hl [] rfl)
  · have hG := zt hG hc
    refine lv_aload_n hx hb d_M_parameterFlaw_125 rfl (lv_at hl 0 rfl) ?_
    refine va_get (D := (dC, dI)) (ci := 8) (v := .ref adM_known) (C := R_M) (T := F_M) (N := 26) hx hb hts zi_M hown zz.1 hP 0 rfl rfl 25 (by decide) (hts (.fieldLink R_M 42 "WireCodecModel" "known" "[J") zin_M_42) (fun _ h9 => h9) rfl d_M_parameterFlaw_126 ?_
    refine lv_iload hx hb d_M_parameterFlaw_129 (lv_at hl 1 rfl) ?_
    refine lv_lconst (v := (1 : Int64)) hx hb d_M_parameterFlaw_131 (by decide) ?_
    obtain ⟨hin, hG⟩ := zgd hG
    refine va_last hx hb zz.1 hP hD hS 9 2 rfl rfl hin d_M_parameterFlaw_132 (fun H locs hP hD hS => ?_)
    have hP := zp_M_known hP
    have hD := zd_M_known hD
    have hG : g_M_parameterFlaw_w132 N (zM_known' sM (vp_updL (zM_known sM) v8.toNatClampNeg (1 : Int64))) = some a := hG
    generalize zM_known' sM (vp_updL (zM_known sM) v8.toNatClampNeg (1 : Int64)) = sM_132 at hP hD hG
    unfold g_M_parameterFlaw_w132 at hG
    exact k_M_parameterFlaw_133 X hA zz N sM_132 _ hG adM adM_tape adM_frameAt adM_field adM_draft adM_given adM_low adM_high adM_packet adM_known _ _ hP hD hS _ (lv_sub hl [] rfl)
set_option maxRecDepth 100000 in
set_option maxHeartbeats 4000000 in
theorem k_M_parameterFlaw_85 {p : Program} {l : Launch} {e : Env} {R : Room} {s : State} {m : MethodId} {args : Array Value} {below : List Frame} {meth : Method} {c : Code} {dC : Nat → ClassId} {dI : Nat → Nat → Nat} {cB cI cL : ClassId} {A : Nat → Prop} (X : zx p s m args meth c R R_M b_M_parameterFlaw (some .int) 9 4 98) (hA : ∀ q, s.heap.size ≤ q → A q) (zz : zk dC dI cB cI cL A s)  (N : Nat) (sM : zM) (v5 : Int64) (v7 : Int32) (v8 : Int32) (a : Int32 × zM) (hG : g_M_parameterFlaw_85 N sM v5 v7 v8 = some a) (adM adM_tape adM_frameAt adM_field adM_draft adM_given adM_low adM_high adM_packet adM_known : Nat) (H : Heap) (locs : List Loc) (hP : va_P (dC, dI) zcl (zwM adM adM_tape adM_frameAt adM_field adM_draft adM_given adM_low adM_high adM_packet adM_known cB cI cL sM) H) (hD : va_D A (zwM adM adM_tape adM_frameAt adM_field adM_draft adM_given adM_low adM_high adM_packet adM_known cB cI cL sM)) (hS : va_S A s.heap H locs) (ls : Array Slot) (hl : lv_has ls 9 [(0, .ref adM), (5, .long v5), (7, .int v7), (8, .int v8)]) : W p l e R s m args below meth c H locs 0 0 (MQ below (q_M_parameterFlaw dC dI cB cI cL A adM adM_tape adM_frameAt adM_field adM_draft adM_given adM_low adM_high adM_packet adM_known a) args s 0 0 A) (F0 m 85 ls []) := by
  obtain ⟨hx, hb, hr, hml, hown, hts, hlocks, hRf, hRl⟩ := id X
  unfold g_M_parameterFlaw_85 at hG
  refine lv_aload_n hx hb d_M_parameterFlaw_85 rfl (lv_at hl 0 rfl) ?_
  refine lv_iload hx hb d_M_parameterFlaw_86 (lv_at hl 3 rfl) ?_
  refine lv_iload hx hb d_M_parameterFlaw_88 (lv_at hl 2 rfl) ?_
  refine lv_lload hx hb d_M_parameterFlaw_90 (lv_at hl 1 rfl) ?_
  refine lv_l2i hx hb d_M_parameterFlaw_92 rfl ?_
  obtain ⟨a_93, hx_93, hG⟩ := zb hG
  have hr_93 := zrunV (p := p) (e := e) (below := below) (meth := meth) (As := [.int v8, .int v7, .int v5.toInt32]) (rest := []) (st0 := [.int v5.toInt32, .int v7, .int v8, .ref adM]) (cells := 0) (slots := 0) X zz hP hD hS hA [0, 1, 2, 3, 4, 5, 6, 7, 8, 9] (by decide) rfl (c_M_suitsId l dC dI cB cI cL H.size adM adM_tape adM_frameAt adM_field adM_draft adM_given adM_low adM_high adM_packet adM_known N sM v8 v7 v5.toInt32 _ hx_93) zy_M_suitsId zv_M_suitsId (hts (.methodLink R_M 283 y_M_suitsId) zin_M_283) hl rfl rfl d_M_parameterFlaw_93 (lv_room (Nat.le_of_ble_eq_true rfl)) rfl rfl ⟨Nat.le_trans (Nat.le_of_ble_eq_true rfl) hRf, Nat.le_trans (Nat.le_of_ble_eq_true rfl) hRl⟩ ⟨Nat.zero_le _, Nat.zero_le _⟩ 0 8 rfl rfl
  refine zcalli (wr := ([] : va_W)) hr_93 hP hD hS hA [0, 1, 2, 3, 4, 5, 6, 7, 8, 9] [] rfl rfl (by decide) (by decide) (fun r_93 u_93 H locs hw_93 hP hD hS => ?_)
  obtain ⟨sM_93, rfl⟩ : ∃ z, z = u_93 := ⟨_, rfl⟩
  subst hw_93
  have hP : va_P (dC, dI) zcl (zwM adM adM_tape adM_frameAt adM_field adM_draft adM_given adM_low adM_high adM_packet adM_known cB cI cL sM_93) H := hP
  have hD : va_D A (zwM adM adM_tape adM_frameAt adM_field adM_draft adM_given adM_low adM_high adM_packet adM_known cB cI cL sM_93) := hD
  have hG : g_M_parameterFlaw_c93 N v5 v8 sM_93 r_93 = some a := hG
  unfold g_M_parameterFlaw_c93 at hG
  refine lv_if_ne (tgt := 101) hx hb d_M_parameterFlaw_96 (by decide) (fun hc => ?_) (fun hc => ?_)
  · have hG := zf hG hc
    refine lv_iload hx hb d_M_parameterFlaw_101 (lv_at hl 3 rfl) ?_
    obtain ⟨a_103, hx_103, hG⟩ := zb hG
    have hr_103 := zrunS (p := p) (e := e) (below := below) (meth := meth) (As := [.int v8]) (rest := []) (st0 := [.int v8]) (cells := 0) (slots := 0) X zz hP hD hS hA [] (by decide) rfl (c_M_hasBytes l dC dI cB cI cL H.size v8 _ hx_103) zy_M_hasBytes zv_M_hasBytes (hts (.methodLink R_M 274 y_M_hasBytes) zin_M_274) hl rfl rfl d_M_parameterFlaw_103 (lv_room (Nat.le_of_ble_eq_true rfl)) rfl rfl ⟨Nat.le_trans (Nat.le_of_ble_eq_true rfl) hRf, Nat.le_trans (Nat.le_of_ble_eq_true rfl) hRl⟩ ⟨Nat.zero_le _, Nat.zero_le _⟩
    refine zcalli (wr := (zwM adM adM_tape adM_frameAt adM_field adM_draft adM_given adM_low adM_high adM_packet adM_known cB cI cL sM_93)) hr_103 hP hD hS hA [] [0, 1, 2, 3, 4, 5, 6, 7, 8, 9] rfl rfl (by decide) (by decide) (fun r_103 u_103 H locs hw_103 hP hD hS => ?_)
    subst hw_103
    have hP : va_P (dC, dI) zcl (zwM adM adM_tape adM_frameAt adM_field adM_draft adM_given adM_low adM_high adM_packet adM_known cB cI cL sM_93) H := hP
    have hD : va_D A (zwM adM adM_tape adM_frameAt adM_field adM_draft adM_given adM_low adM_high adM_packet adM_known cB cI cL sM_93) := hD
    have hG : g_M_parameterFlaw_c103 N v5 v8 sM_93 r_103 = some a := hG
    unfold g_M_parameterFlaw_c103 at hG
    refine lv_if_eq (tgt := 118) hx hb d_M_parameterFlaw_106 (by decide) (fun hc => ?_) (fun hc => ?_)
    · have hG := zt hG hc
      exact k_M_parameterFlaw_118 X hA zz N sM_93 v8 _ hG adM adM_tape adM_frameAt adM_field adM_draft adM_given adM_low adM_high adM_packet adM_known _ _ hP hD hS _ (lv_sub hl [0, 3] rfl)
    · have hG := zf hG hc
      refine lv_aload_n hx hb d_M_parameterFlaw_109 rfl (lv_at hl 0 rfl) ?_
      refine va_get (D := (dC, dI)) (ci := 8) (v := .ref adM_known) (C := R_M) (T := F_M) (N := 26) hx hb hts zi_M hown zz.1 hP 0 rfl rfl 25 (by decide) (hts (.fieldLink R_M 42 "WireCodecModel" "known" "[J") zin_M_42) (fun _ h9 => h9) rfl d_M_parameterFlaw_110 ?_
      refine lv_iload hx hb d_M_parameterFlaw_113 (lv_at hl 3 rfl) ?_
      refine lv_lload hx hb d_M_parameterFlaw_115 (lv_at hl 1 rfl) ?_
      obtain ⟨hin, hG⟩ := zgd hG
      refine va_last hx hb zz.1 hP hD hS 9 2 rfl rfl hin d_M_parameterFlaw_117 (fun H locs hP hD hS => ?_)
      have hP := zp_M_known hP
      have hD := zd_M_known hD
      have hG : g_M_parameterFlaw_w117 N v8 (zM_known' sM_93 (vp_updL (zM_known sM_93) v8.toNatClampNeg v5)) = some a := hG
      generalize zM_known' sM_93 (vp_updL (zM_known sM_93) v8.toNatClampNeg v5) = sM_117 at hP hD hG
      unfold g_M_parameterFlaw_w117 at hG
      exact k_M_parameterFlaw_118 X hA zz N sM_117 v8 _ hG adM adM_tape adM_frameAt adM_field adM_draft adM_given adM_low adM_high adM_packet adM_known _ _ hP hD hS _ (lv_sub hl [0, 3] rfl)
  · have hG := zt hG hc
    refine lv_iconst (v := (3 : Int32)) hx hb d_M_parameterFlaw_99 (by decide) ?_
    exact W.iret (v := (3 : Int32)) hx hb hr (fun t9 ht9 hW9 => ⟨⟨(3 : Int32), (sM_93), rfl, Option.some.inj hG, by rw [ht9]; exact hP, hD⟩, hS.F ht9⟩) hS.2.2 d_M_parameterFlaw_100
set_option maxRecDepth 100000 in
set_option maxHeartbeats 4000000 in
theorem k_M_parameterFlaw_83 {p : Program} {l : Launch} {e : Env} {R : Room} {s : State} {m : MethodId} {args : Array Value} {below : List Frame} {meth : Method} {c : Code} {dC : Nat → ClassId} {dI : Nat → Nat → Nat} {cB cI cL : ClassId} {A : Nat → Prop} (X : zx p s m args meth c R R_M b_M_parameterFlaw (some .int) 9 4 98) (hA : ∀ q, s.heap.size ≤ q → A q) (zz : zk dC dI cB cI cL A s)  (N : Nat) (sM : zM) (a : Int32 × zM) (hG : g_M_parameterFlaw_83 N sM = some a) (adM adM_tape adM_frameAt adM_field adM_draft adM_given adM_low adM_high adM_packet adM_known : Nat) (H : Heap) (locs : List Loc) (hP : va_P (dC, dI) zcl (zwM adM adM_tape adM_frameAt adM_field adM_draft adM_given adM_low adM_high adM_packet adM_known cB cI cL sM) H) (hD : va_D A (zwM adM adM_tape adM_frameAt adM_field adM_draft adM_given adM_low adM_high adM_packet adM_known cB cI cL sM)) (hS : va_S A s.heap H locs) (ls : Array Slot) (hl : lv_has ls 9 []) : W p l e R s m args below meth c H locs 0 0 (MQ below (q_M_parameterFlaw dC dI cB cI cL A adM adM_tape adM_frameAt adM_field adM_draft adM_given adM_low adM_high adM_packet adM_known a) args s 0 0 A) (F0 m 83 ls []) := by
  obtain ⟨hx, hb, hr, hml, hown, hts, hlocks, hRf, hRl⟩ := id X
  unfold g_M_parameterFlaw_83 at hG
  refine lv_iconst (v := (4 : Int32)) hx hb d_M_parameterFlaw_83 (by decide) ?_
  exact W.iret (v := (4 : Int32)) hx hb hr (fun t9 ht9 hW9 => ⟨⟨(4 : Int32), (sM), rfl, Option.some.inj hG, by rw [ht9]; exact hP, hD⟩, hS.F ht9⟩) hS.2.2 d_M_parameterFlaw_84
set_option maxRecDepth 100000 in
set_option maxHeartbeats 4000000 in
theorem k_M_parameterFlaw_0 {p : Program} {l : Launch} {e : Env} {R : Room} {s : State} {m : MethodId} {args : Array Value} {below : List Frame} {meth : Method} {c : Code} {dC : Nat → ClassId} {dI : Nat → Nat → Nat} {cB cI cL : ClassId} {A : Nat → Prop} (X : zx p s m args meth c R R_M b_M_parameterFlaw (some .int) 9 4 98) (hA : ∀ q, s.heap.size ≤ q → A q) (zz : zk dC dI cB cI cL A s)  (N : Nat) (sM : zM) (v1 : Int32) (v2 : Int32) (a : Int32 × zM) (hG : g_M_parameterFlaw N sM v1 v2 = some a) (adM adM_tape adM_frameAt adM_field adM_draft adM_given adM_low adM_high adM_packet adM_known : Nat) (H : Heap) (locs : List Loc) (hP : va_P (dC, dI) zcl (zwM adM adM_tape adM_frameAt adM_field adM_draft adM_given adM_low adM_high adM_packet adM_known cB cI cL sM) H) (hD : va_D A (zwM adM adM_tape adM_frameAt adM_field adM_draft adM_given adM_low adM_high adM_packet adM_known cB cI cL sM)) (hS : va_S A s.heap H locs) (ls : Array Slot) (hl : lv_has ls 9 [(0, .ref adM), (1, .int v1), (2, .int v2)]) : W p l e R s m args below meth c H locs 0 0 (MQ below (q_M_parameterFlaw dC dI cB cI cL A adM adM_tape adM_frameAt adM_field adM_draft adM_given adM_low adM_high adM_packet adM_known a) args s 0 0 A) (F0 m 0 ls []) := by
  obtain ⟨hx, hb, hr, hml, hown, hts, hlocks, hRf, hRl⟩ := id X
  unfold g_M_parameterFlaw at hG
  refine lv_aload_n hx hb d_M_parameterFlaw_0 rfl (lv_at hl 0 rfl) ?_
  obtain ⟨a_1, hx_1, hG⟩ := zb hG
  have hr_1 := zrunV (p := p) (e := e) (below := below) (meth := meth) (As := []) (rest := []) (st0 := [.ref adM]) (cells := 0) (slots := 0) X zz hP hD hS hA [0, 1, 2, 3, 4, 5, 6, 7, 8, 9] (by decide) rfl (c_M_takeNumber l dC dI cB cI cL H.size adM adM_tape adM_frameAt adM_field adM_draft adM_given adM_low adM_high adM_packet adM_known N sM _ hx_1) zy_M_takeNumber zv_M_takeNumber (hts (.methodLink R_M 128 y_M_takeNumber) zin_M_128) hl rfl rfl d_M_parameterFlaw_1 (lv_room (Nat.le_of_ble_eq_true rfl)) rfl rfl ⟨Nat.le_trans (Nat.le_of_ble_eq_true rfl) hRf, Nat.le_trans (Nat.le_of_ble_eq_true rfl) hRl⟩ ⟨Nat.zero_le _, Nat.zero_le _⟩ 0 8 rfl rfl
  refine zcalll (wr := ([] : va_W)) hr_1 hP hD hS hA [0, 1, 2, 3, 4, 5, 6, 7, 8, 9] [] rfl rfl (by decide) (by decide) (fun r_1 u_1 H locs hw_1 hP hD hS => ?_)
  obtain ⟨sM_1, rfl⟩ : ∃ z, z = u_1 := ⟨_, rfl⟩
  subst hw_1
  have hP : va_P (dC, dI) zcl (zwM adM adM_tape adM_frameAt adM_field adM_draft adM_given adM_low adM_high adM_packet adM_known cB cI cL sM_1) H := hP
  have hD : va_D A (zwM adM adM_tape adM_frameAt adM_field adM_draft adM_given adM_low adM_high adM_packet adM_known cB cI cL sM_1) := hD
  have hG : g_M_parameterFlaw_c1 N v1 v2 sM_1 r_1 = some a := hG
  unfold g_M_parameterFlaw_c1 at hG
  refine lv_lstore_n (lv' := [(3, .long r_1), (0, .ref adM), (1, .int v1), (2, .int v2)]) hx hb d_M_parameterFlaw_4 rfl hl (by decide) rfl (fun ls hl => ?_)
  refine lv_aload_n hx hb d_M_parameterFlaw_5 rfl (lv_at hl 1 rfl) ?_
  obtain ⟨a_6, hx_6, hG⟩ := zb hG
  have hr_6 := zrunV (p := p) (e := e) (below := below) (meth := meth) (As := []) (rest := []) (st0 := [.ref adM]) (cells := 0) (slots := 0) X zz hP hD hS hA [0, 1, 2, 3, 4, 5, 6, 7, 8, 9] (by decide) rfl (c_M_takeNumber l dC dI cB cI cL H.size adM adM_tape adM_frameAt adM_field adM_draft adM_given adM_low adM_high adM_packet adM_known N sM_1 _ hx_6) zy_M_takeNumber zv_M_takeNumber (hts (.methodLink R_M 128 y_M_takeNumber) zin_M_128) hl rfl rfl d_M_parameterFlaw_6 (lv_room (Nat.le_of_ble_eq_true rfl)) rfl rfl ⟨Nat.le_trans (Nat.le_of_ble_eq_true rfl) hRf, Nat.le_trans (Nat.le_of_ble_eq_true rfl) hRl⟩ ⟨Nat.zero_le _, Nat.zero_le _⟩ 0 8 rfl rfl
  refine zcalll (wr := ([] : va_W)) hr_6 hP hD hS hA [0, 1, 2, 3, 4, 5, 6, 7, 8, 9] [] rfl rfl (by decide) (by decide) (fun r_6 u_6 H locs hw_6 hP hD hS => ?_)
  obtain ⟨sM_6, rfl⟩ : ∃ z, z = u_6 := ⟨_, rfl⟩
  subst hw_6
  have hP : va_P (dC, dI) zcl (zwM adM adM_tape adM_frameAt adM_field adM_draft adM_given adM_low adM_high adM_packet adM_known cB cI cL sM_6) H := hP
  have hD : va_D A (zwM adM adM_tape adM_frameAt adM_field adM_draft adM_given adM_low adM_high adM_packet adM_known cB cI cL sM_6) := hD
  have hG : g_M_parameterFlaw_c6 N v1 v2 r_1 sM_6 r_6 = some a := hG
  unfold g_M_parameterFlaw_c6 at hG
  refine lv_lstore (lv' := [(5, .long r_6), (3, .long r_1), (0, .ref adM), (1, .int v1), (2, .int v2)]) hx hb d_M_parameterFlaw_9 hl (by decide) rfl (fun ls hl => ?_)
  refine lv_aload_n hx hb d_M_parameterFlaw_11 rfl (lv_at hl 2 rfl) ?_
  refine lv_lload hx hb d_M_parameterFlaw_12 (lv_at hl 0 rfl) ?_
  obtain ⟨a_14, hx_14, hG⟩ := zb hG
  have hr_14 := zrunV (p := p) (e := e) (below := below) (meth := meth) (As := [.long r_6]) (rest := []) (st0 := [.long r_6, .ref adM]) (cells := 0) (slots := 0) X zz hP hD hS hA [0, 1, 2, 3, 4, 5, 6, 7, 8, 9] (by decide) rfl (c_M_pass l dC dI cB cI cL H.size adM adM_tape adM_frameAt adM_field adM_draft adM_given adM_low adM_high adM_packet adM_known sM_6 r_6 _ hx_14) zy_M_pass zv_M_pass (hts (.methodLink R_M 141 y_M_pass) zin_M_141) hl rfl rfl d_M_parameterFlaw_14 (lv_room (Nat.le_of_ble_eq_true rfl)) rfl rfl ⟨Nat.le_trans (Nat.le_of_ble_eq_true rfl) hRf, Nat.le_trans (Nat.le_of_ble_eq_true rfl) hRl⟩ ⟨Nat.zero_le _, Nat.zero_le _⟩ 0 8 rfl rfl
  refine zcalli (wr := ([] : va_W)) hr_14 hP hD hS hA [0, 1, 2, 3, 4, 5, 6, 7, 8, 9] [] rfl rfl (by decide) (by decide) (fun r_14 u_14 H locs hw_14 hP hD hS => ?_)
  obtain ⟨sM_14, rfl⟩ : ∃ z, z = u_14 := ⟨_, rfl⟩
  subst hw_14
  have hP : va_P (dC, dI) zcl (zwM adM adM_tape adM_frameAt adM_field adM_draft adM_given adM_low adM_high adM_packet adM_known cB cI cL sM_14) H := hP
  have hD : va_D A (zwM adM adM_tape adM_frameAt adM_field adM_draft adM_given adM_low adM_high adM_packet adM_known cB cI cL sM_14) := hD
  have hG : g_M_parameterFlaw_c14 N v1 v2 r_1 r_6 sM_14 r_14 = some a := hG
  unfold g_M_parameterFlaw_c14 at hG
  refine lv_istore (lv' := [(7, .int r_14), (5, .long r_6), (3, .long r_1), (0, .ref adM), (1, .int v1), (2, .int v2)]) hx hb d_M_parameterFlaw_17 hl (by decide) rfl (fun ls hl => ?_)
  refine lv_aload_n hx hb d_M_parameterFlaw_19 rfl (lv_at hl 3 rfl) ?_
  refine va_get (D := (dC, dI)) (ci := 8) (v := .int (zM_over sM_14)) (C := R_M) (T := F_M) (N := 26) hx hb hts zi_M hown zz.1 hP 0 rfl rfl 15 (by decide) (hts (.fieldLink R_M 116 "WireCodecModel" "over" "Z") zin_M_116) (fun _ h9 => h9) rfl d_M_parameterFlaw_20 ?_
  refine lv_if_eq (tgt := 28) hx hb d_M_parameterFlaw_23 (by decide) (fun hc => ?_) (fun hc => ?_)
  · have hG := zt hG hc
    refine lv_lload_n hx hb d_M_parameterFlaw_28 rfl (lv_at hl 2 rfl) ?_
    refine lv_ldc2 (v := (16 : Int64)) hx hb hown (hts (.constantLong R_M 160 (16 : Int64)) zin_M_160) d_M_parameterFlaw_29 ?_
    refine W.lcmp hx hb d_M_parameterFlaw_32 ?_
    refine lv_if_le (tgt := 38) hx hb d_M_parameterFlaw_33 (by decide) (fun hc => ?_) (fun hc => ?_)
    · have hG := zt hG hc
      refine lv_lload_n hx hb d_M_parameterFlaw_38 rfl (lv_at hl 2 rfl) ?_
      refine lv_l2i hx hb d_M_parameterFlaw_39 rfl ?_
      refine lv_istore (lv' := [(8, .int r_1.toInt32), (7, .int r_14), (5, .long r_6), (3, .long r_1), (0, .ref adM), (1, .int v1), (2, .int v2)]) hx hb d_M_parameterFlaw_40 hl (by decide) rfl (fun ls hl => ?_)
      refine lv_iload_n hx hb d_M_parameterFlaw_42 rfl (lv_at hl 6 rfl) ?_
      refine lv_iload hx hb d_M_parameterFlaw_43 (lv_at hl 0 rfl) ?_
      refine lv_ishr hx hb d_M_parameterFlaw_45 ?_
      refine lv_iconst (v := (1 : Int32)) hx hb d_M_parameterFlaw_46 (by decide) ?_
      refine lv_iand hx hb d_M_parameterFlaw_47 ?_
      refine lv_iconst (v := (1 : Int32)) hx hb d_M_parameterFlaw_48 (by decide) ?_
      refine lv_icmp_ne (tgt := 54) hx hb d_M_parameterFlaw_49 (by decide) (fun hc => ?_) (fun hc => ?_)
      · have hG := zf hG hc
        refine lv_iload_n hx hb d_M_parameterFlaw_54 rfl (lv_at hl 5 rfl) ?_
        refine lv_if_ne (tgt := 85) hx hb d_M_parameterFlaw_55 (by decide) (fun hc => ?_) (fun hc => ?_)
        · have hG := zf hG hc
          exact k_M_parameterFlaw_85 X hA zz N sM_14 r_6 r_14 r_1.toInt32 _ hG adM adM_tape adM_frameAt adM_field adM_draft adM_given adM_low adM_high adM_packet adM_known _ _ hP hD hS _ (lv_sub hl [4, 2, 1, 0] rfl)
        · have hG := zt hG hc
          refine lv_iload hx hb d_M_parameterFlaw_58 (lv_at hl 0 rfl) ?_
          refine lv_if_eq (tgt := 83) hx hb d_M_parameterFlaw_60 (by decide) (fun hc => ?_) (fun hc => ?_)
          · have hG := zt hG hc
            exact k_M_parameterFlaw_83 X hA zz N sM_14 _ hG adM adM_tape adM_frameAt adM_field adM_draft adM_given adM_low adM_high adM_packet adM_known _ _ hP hD hS _ (lv_sub hl [] rfl)
          · have hG := zf hG hc
            refine lv_iload hx hb d_M_parameterFlaw_63 (lv_at hl 0 rfl) ?_
            refine lv_iconst (v := (2 : Int32)) hx hb d_M_parameterFlaw_65 (by decide) ?_
            refine lv_icmp_eq (tgt := 83) hx hb d_M_parameterFlaw_66 (by decide) (fun hc => ?_) (fun hc => ?_)
            · have hG := zt hG hc
              exact k_M_parameterFlaw_83 X hA zz N sM_14 _ hG adM adM_tape adM_frameAt adM_field adM_draft adM_given adM_low adM_high adM_packet adM_known _ _ hP hD hS _ (lv_sub hl [] rfl)
            · have hG := zf hG hc
              refine lv_iload hx hb d_M_parameterFlaw_69 (lv_at hl 0 rfl) ?_
              refine lv_bipush (v := (13 : Int32)) hx hb d_M_parameterFlaw_71 (by decide) ?_
              refine lv_icmp_eq (tgt := 83) hx hb d_M_parameterFlaw_73 (by decide) (fun hc => ?_) (fun hc => ?_)
              · have hG := zt hG hc
                exact k_M_parameterFlaw_83 X hA zz N sM_14 _ hG adM adM_tape adM_frameAt adM_field adM_draft adM_given adM_low adM_high adM_packet adM_known _ _ hP hD hS _ (lv_sub hl [] rfl)
              · have hG := zf hG hc
                refine lv_iload hx hb d_M_parameterFlaw_76 (lv_at hl 0 rfl) ?_
                refine lv_bipush (v := (16 : Int32)) hx hb d_M_parameterFlaw_78 (by decide) ?_
                refine lv_icmp_ne (tgt := 85) hx hb d_M_parameterFlaw_80 (by decide) (fun hc => ?_) (fun hc => ?_)
                · have hG := zf hG hc
                  exact k_M_parameterFlaw_85 X hA zz N sM_14 r_6 r_14 r_1.toInt32 _ hG adM adM_tape adM_frameAt adM_field adM_draft adM_given adM_low adM_high adM_packet adM_known _ _ hP hD hS _ (lv_sub hl [4, 2, 1, 0] rfl)
                · have hG := zt hG hc
                  exact k_M_parameterFlaw_83 X hA zz N sM_14 _ hG adM adM_tape adM_frameAt adM_field adM_draft adM_given adM_low adM_high adM_packet adM_known _ _ hP hD hS _ (lv_sub hl [] rfl)
      · have hG := zt hG hc
        refine lv_iconst (v := (2 : Int32)) hx hb d_M_parameterFlaw_52 (by decide) ?_
        exact W.iret (v := (2 : Int32)) hx hb hr (fun t9 ht9 hW9 => ⟨⟨(2 : Int32), (sM_14), rfl, Option.some.inj hG, by rw [ht9]; exact hP, hD⟩, hS.F ht9⟩) hS.2.2 d_M_parameterFlaw_53
    · have hG := zf hG hc
      refine lv_iconst (v := (0 : Int32)) hx hb d_M_parameterFlaw_36 (by decide) ?_
      exact W.iret (v := (0 : Int32)) hx hb hr (fun t9 ht9 hW9 => ⟨⟨(0 : Int32), (sM_14), rfl, Option.some.inj hG, by rw [ht9]; exact hP, hD⟩, hS.F ht9⟩) hS.2.2 d_M_parameterFlaw_37
  · have hG := zf hG hc
    refine lv_iconst (v := (1 : Int32)) hx hb d_M_parameterFlaw_26 (by decide) ?_
    exact W.iret (v := (1 : Int32)) hx hb hr (fun t9 ht9 hW9 => ⟨⟨(1 : Int32), (sM_14), rfl, Option.some.inj hG, by rw [ht9]; exact hP, hD⟩, hS.F ht9⟩) hS.2.2 d_M_parameterFlaw_27
set_option maxRecDepth 100000 in
set_option maxHeartbeats 4000000 in
theorem c_M_parameterFlaw (l : Launch) (dC : Nat → ClassId) (dI : Nat → Nat → Nat) (cB cI cL : ClassId) (sz : Nat) (adM adM_tape adM_frameAt adM_field adM_draft adM_given adM_low adM_high adM_packet adM_known : Nat) (N : Nat) (sM : zM) (v1 : Int32) (v2 : Int32) (a : Int32 × zM) (hG : g_M_parameterFlaw N sM v1 v2 = some a) : Met l y_M_parameterFlaw (zw y_M_parameterFlaw b_M_parameterFlaw 9 (some .int)) ({ frames := 4, cells := 0, slots := 0, locals := 98 }) (va_Pc [.ref adM, .int v1, .int v2] (zpre dC dI cB cI cL sz (zwM adM adM_tape adM_frameAt adM_field adM_draft adM_given adM_low adM_high adM_packet adM_known cB cI cL sM))) (q_M_parameterFlaw dC dI cB cI cL (va_A (zwM adM adM_tape adM_frameAt adM_field adM_draft adM_given adM_low adM_high adM_packet adM_known cB cI cL sM) sz) adM adM_tape adM_frameAt adM_field adM_draft adM_given adM_low adM_high adM_packet adM_known a) 0 0 (va_A (zwM adM adM_tape adM_frameAt adM_field adM_draft adM_given adM_low adM_high adM_packet adM_known cB cI cL sM) sz) := by
  refine Met.ofW (cc := b_M_parameterFlaw) (maxL := 9) (ret := (some .int)) (by decide) rfl ?_
  intro p e s m args below meth c s₁ B hml hv
  obtain ⟨rfl, hsz, hP, zz, hD0⟩ := hv
  subst hsz
  have X := zx_of (F := 4) (L := 98) B hml (Nat.le_refl _) (Nat.le_refl _)
  have hD := hD0.self (sz := s.heap.size)
  have hA : ∀ q : Nat, s.heap.size ≤ q → va_A (zwM adM adM_tape adM_frameAt adM_field adM_draft adM_given adM_low adM_high adM_packet adM_known cB cI cL sM) s.heap.size q := fun q h => Or.inr h
  have hl := lv_entry ([.ref adM, .int v1, .int v2]) (n := 9) (Nat.le_of_ble_eq_true rfl)
  rw [lg_entry_eq]
  generalize (lg_sl ([.ref adM, .int v1, .int v2]) ++ List.replicate (9 - (lg_sl ([.ref adM, .int v1, .int v2])).length) Slot.unset).toArray = ls at hl ⊢
  exact k_M_parameterFlaw_0 X hA zz N sM v1 v2 a hG adM adM_tape adM_frameAt adM_field adM_draft adM_given adM_low adM_high adM_packet adM_known _ _ hP hD va_S.rf ls hl
noncomputable def g_M_parameters_c156 (sM_156 : zM) : Option (Int32 × zM) := some ((-1 : Int32), sM_156)
noncomputable def g_M_parameters_145 (N : Nat) (sM : zM) (v4 : Int32) : Option (Int32 × zM) := if (zM_fault sM) = (0 : Int32) then (some (v4, sM)) else ((g_M_forgetParameters N sM).bind (fun a => g_M_parameters_c156 a))
noncomputable def g_M_parameters_c108 (kr : zM → Int32 → Int32 → Int32 → Option (Int32 × zM)) (v2 : Int32) (v3 : Int32) (v4 : Int32) (r_98 : Int64) (sM_108 : zM) : Option (Int32 × zM) := if (0 : Int32) < (zM_fault sM_108) then (kr sM_108 v2 v3 v4) else (if (lg_cmp r_98 (16 : Int64)) ≤ (0 : Int32) then (kr sM_108 v2 (v3 ||| ((1 : Int32) <<< (r_98.toInt32 &&& 31))) (v4 + 1)) else (kr sM_108 v2 v3 v4))
noncomputable def g_M_parameters_c105 (kr : zM → Int32 → Int32 → Int32 → Option (Int32 × zM)) (v2 : Int32) (v3 : Int32) (v4 : Int32) (r_98 : Int64) (sM_105 : zM) (r_105 : Int64) : Option (Int32 × zM) := (g_M_pass sM_105 r_105).bind (fun a => g_M_parameters_c108 kr v2 v3 v4 r_98 a.2)
noncomputable def g_M_parameters_c98 (N : Nat) (kr : zM → Int32 → Int32 → Int32 → Option (Int32 × zM)) (v2 : Int32) (v3 : Int32) (v4 : Int32) (sM_98 : zM) (r_98 : Int64) : Option (Int32 × zM) := (g_M_takeNumber N sM_98).bind (fun a => g_M_parameters_c105 kr v2 v3 v4 r_98 a.2 a.1)
noncomputable def g_M_parameters_c94 (N : Nat) (kr : zM → Int32 → Int32 → Int32 → Option (Int32 × zM)) (v2 : Int32) (v3 : Int32) (v4 : Int32) (sM_94 : zM) : Option (Int32 × zM) := (g_M_takeNumber N sM_94).bind (fun a => g_M_parameters_c98 N kr v2 v3 v4 a.2 a.1)
noncomputable def g_M_parameters_c84 (N : Nat) (kr : zM → Int32 → Int32 → Int32 → Option (Int32 × zM)) (sM : zM) (v2 : Int32) (v3 : Int32) (v4 : Int32) (sM_84 : zM) : Option (Int32 × zM) := (g_M_look sM_84 (zM_at sM) (zM_size sM_84)).bind (fun a => g_M_parameters_c94 N kr v2 v3 v4 a)
noncomputable def g_M_parameters_c79 (N : Nat) (kr : zM → Int32 → Int32 → Int32 → Option (Int32 × zM)) (sM : zM) (v2 : Int32) (v3 : Int32) (v4 : Int32) (sM_79 : zM) (r_79 : Int32) : Option (Int32 × zM) := (g_M_tell sM_79 r_79 (zM_at sM)).bind (fun a => g_M_parameters_c84 N kr sM v2 v3 v4 a)
noncomputable def g_M_parameters_51_b (N : Nat) (kr : zM → Int32 → Int32 → Int32 → Option (Int32 × zM)) (sM : zM) (v2 : Int32) (v3 : Int32) (v4 : Int32) : Option (Int32 × zM) := if (zM_size sM) ≤ (zM_at sM) then (g_M_parameters_145 N sM v4) else (if (zM_fault sM) = (0 : Int32) then ((g_M_parameterFlaw N sM v2 v3).bind (fun a => g_M_parameters_c79 N kr sM v2 v3 v4 a.2 a.1)) else (g_M_parameters_145 N sM v4))
noncomputable def g_M_parameters_51 (N : Nat) : Nat → zM → Int32 → Int32 → Int32 → Option (Int32 × zM)
  | 0 => fun _ _ _ _ => none
  | k + 1 => fun sM v2 v3 v4 => g_M_parameters_51_b N (g_M_parameters_51 N k) sM v2 v3 v4
noncomputable def g_M_parameters_c48 (N : Nat) (v2 : Int32) (sM_48 : zM) : Option (Int32 × zM) := g_M_parameters_51 N N sM_48 v2 (0 : Int32) (0 : Int32)
noncomputable def g_M_parameters_c34 (N : Nat) (v1 : Int32) (v2 : Int32) (sM_34 : zM) : Option (Int32 × zM) := (g_M_look sM_34 v1 (zM_size sM_34)).bind (fun a => g_M_parameters_c48 N v2 a)
noncomputable def g_M_parameters_c30 (N : Nat) (v1 : Int32) (v2 : Int32) (sM_30 : zM) : Option (Int32 × zM) := (g_M_forgetParameters N sM_30).bind (fun a => g_M_parameters_c34 N v1 v2 a)
noncomputable def g_M_parameters_c21 (N : Nat) (v1 : Int32) (v2 : Int32) (sM_21 : zM) (r_21 : Int32) : Option (Int32 × zM) := if r_21 = (0 : Int32) then ((g_M_begin sM_21).bind (fun a => g_M_parameters_c30 N v1 v2 a)) else (some ((0 : Int32), sM_21))
noncomputable def g_M_parameters_20 (N : Nat) (sM : zM) (v1 : Int32) (v2 : Int32) (s0 : Int32) : Option (Int32 × zM) := (g_M_fails sM s0 (1 : Int32)).bind (fun a => g_M_parameters_c21 N v1 v2 a.2 a.1)
noncomputable def g_M_parameters_c9 (N : Nat) (sM : zM) (v1 : Int32) (v2 : Int32) (r_9 : Int32) : Option (Int32 × zM) := if r_9 = (0 : Int32) then (g_M_parameters_20 N sM v1 v2 (1 : Int32)) else (g_M_parameters_20 N sM v1 v2 (0 : Int32))
noncomputable def g_M_parameters (N : Nat) (sM : zM) (v1 : Int32) (v2 : Int32) : Option (Int32 × zM) := (g_M_within v1.toInt64 (0 : Int64) ((zM_size sM).toInt64)).bind (fun a => g_M_parameters_c9 N sM v1 v2 a)
def q_M_parameters (dC : Nat → ClassId) (dI : Nat → Nat → Nat) (cB cI cL : ClassId) (A : Nat → Prop) (adM : Nat) (adM_tape : Nat) (adM_frameAt : Nat) (adM_field : Nat) (adM_draft : Nat) (adM_given : Nat) (adM_low : Nat) (adM_high : Nat) (adM_packet : Nat) (adM_known : Nat) (a : Int32 × zM) : Array Value → State → Outcome → State → Prop := va_Qi (fun (r : Int32) (u : zM) => (r, u) = a) (fun u U => va_P (dC, dI) zcl (zwM adM adM_tape adM_frameAt adM_field adM_draft adM_given adM_low adM_high adM_packet adM_known cB cI cL u) U.heap ∧ va_D A (zwM adM adM_tape adM_frameAt adM_field adM_draft adM_given adM_low adM_high adM_packet adM_known cB cI cL u)) A
set_option maxRecDepth 100000 in
set_option maxHeartbeats 4000000 in
theorem k_M_parameters_145 {p : Program} {l : Launch} {e : Env} {R : Room} {s : State} {m : MethodId} {args : Array Value} {below : List Frame} {meth : Method} {c : Code} {dC : Nat → ClassId} {dI : Nat → Nat → Nat} {cB cI cL : ClassId} {A : Nat → Prop} (X : zx p s m args meth c R R_M b_M_parameters (some .int) 8 5 126) (hA : ∀ q, s.heap.size ≤ q → A q) (zz : zk dC dI cB cI cL A s)  (N : Nat) (sM : zM) (v4 : Int32) (a : Int32 × zM) (hG : g_M_parameters_145 N sM v4 = some a) (adM adM_tape adM_frameAt adM_field adM_draft adM_given adM_low adM_high adM_packet adM_known : Nat) (H : Heap) (locs : List Loc) (hP : va_P (dC, dI) zcl (zwM adM adM_tape adM_frameAt adM_field adM_draft adM_given adM_low adM_high adM_packet adM_known cB cI cL sM) H) (hD : va_D A (zwM adM adM_tape adM_frameAt adM_field adM_draft adM_given adM_low adM_high adM_packet adM_known cB cI cL sM)) (hS : va_S A s.heap H locs) (ls : Array Slot) (hl : lv_has ls 8 [(0, .ref adM), (4, .int v4)]) : W p l e R s m args below meth c H locs 0 0 (MQ below (q_M_parameters dC dI cB cI cL A adM adM_tape adM_frameAt adM_field adM_draft adM_given adM_low adM_high adM_packet adM_known a) args s 0 0 A) (F0 m 145 ls []) := by
  obtain ⟨hx, hb, hr, hml, hown, hts, hlocks, hRf, hRl⟩ := id X
  unfold g_M_parameters_145 at hG
  refine lv_aload_n hx hb d_M_parameters_145 rfl (lv_at hl 0 rfl) ?_
  refine va_get (D := (dC, dI)) (ci := 8) (v := .int (zM_fault sM)) (C := R_M) (T := F_M) (N := 26) hx hb hts zi_M hown zz.1 hP 0 rfl rfl 3 (by decide) (hts (.fieldLink R_M 91 "WireCodecModel" "fault" "I") zin_M_91) (fun _ h9 => h9) rfl d_M_parameters_146 ?_
  refine lv_if_ne (tgt := 155) hx hb d_M_parameters_149 (by decide) (fun hc => ?_) (fun hc => ?_)
  · have hG := zf hG hc
    refine lv_aload_n hx hb d_M_parameters_155 rfl (lv_at hl 0 rfl) ?_
    obtain ⟨a_156, hx_156, hG⟩ := zb hG
    have hr_156 := zrunV (p := p) (e := e) (below := below) (meth := meth) (As := []) (rest := []) (st0 := [.ref adM]) (cells := 0) (slots := 0) X zz hP hD hS hA [0, 1, 2, 3, 4, 5, 6, 7, 8, 9] (by decide) rfl (c_M_forgetParameters l dC dI cB cI cL H.size adM adM_tape adM_frameAt adM_field adM_draft adM_given adM_low adM_high adM_packet adM_known N sM _ hx_156) zy_M_forgetParameters zv_M_forgetParameters (hts (.methodLink R_M 103 y_M_forgetParameters) zin_M_103) hl rfl rfl d_M_parameters_156 (lv_room (Nat.le_of_ble_eq_true rfl)) rfl rfl ⟨Nat.le_trans (Nat.le_of_ble_eq_true rfl) hRf, Nat.le_trans (Nat.le_of_ble_eq_true rfl) hRl⟩ ⟨Nat.zero_le _, Nat.zero_le _⟩ 0 8 rfl rfl
    refine zcallv (wr := ([] : va_W)) hr_156 hP hD hS hA [0, 1, 2, 3, 4, 5, 6, 7, 8, 9] [] rfl rfl (by decide) (by decide) (fun u_156 H locs hw_156 hP hD hS => ?_)
    obtain ⟨sM_156, rfl⟩ : ∃ z, z = u_156 := ⟨_, rfl⟩
    subst hw_156
    have hP : va_P (dC, dI) zcl (zwM adM adM_tape adM_frameAt adM_field adM_draft adM_given adM_low adM_high adM_packet adM_known cB cI cL sM_156) H := hP
    have hD : va_D A (zwM adM adM_tape adM_frameAt adM_field adM_draft adM_given adM_low adM_high adM_packet adM_known cB cI cL sM_156) := hD
    have hG : g_M_parameters_c156 sM_156 = some a := hG
    unfold g_M_parameters_c156 at hG
    refine lv_iconst (v := (-1 : Int32)) hx hb d_M_parameters_159 (by decide) ?_
    exact W.iret (v := (-1 : Int32)) hx hb hr (fun t9 ht9 hW9 => ⟨⟨(-1 : Int32), (sM_156), rfl, Option.some.inj hG, by rw [ht9]; exact hP, hD⟩, hS.F ht9⟩) hS.2.2 d_M_parameters_160
  · have hG := zt hG hc
    refine lv_iload hx hb d_M_parameters_152 (lv_at hl 1 rfl) ?_
    exact W.iret (v := v4) hx hb hr (fun t9 ht9 hW9 => ⟨⟨v4, (sM), rfl, Option.some.inj hG, by rw [ht9]; exact hP, hD⟩, hS.F ht9⟩) hS.2.2 d_M_parameters_154
set_option maxRecDepth 100000 in
set_option maxHeartbeats 4000000 in
theorem k_M_parameters_51_b {p : Program} {l : Launch} {e : Env} {R : Room} {s : State} {m : MethodId} {args : Array Value} {below : List Frame} {meth : Method} {c : Code} {dC : Nat → ClassId} {dI : Nat → Nat → Nat} {cB cI cL : ClassId} {A : Nat → Prop} (kr : zM → Int32 → Int32 → Int32 → Option (Int32 × zM)) (hrec : ∀ (sM : zM) (v2 : Int32) (v3 : Int32) (v4 : Int32) (a : Int32 × zM), kr sM v2 v3 v4 = some a → ∀ (adM adM_tape adM_frameAt adM_field adM_draft adM_given adM_low adM_high adM_packet adM_known : Nat) (H : Heap) (locs : List Loc), va_P (dC, dI) zcl (zwM adM adM_tape adM_frameAt adM_field adM_draft adM_given adM_low adM_high adM_packet adM_known cB cI cL sM) H → va_D A (zwM adM adM_tape adM_frameAt adM_field adM_draft adM_given adM_low adM_high adM_packet adM_known cB cI cL sM) → va_S A s.heap H locs → ∀ ls : Array Slot, lv_has ls 8 [(0, .ref adM), (2, .int v2), (3, .int v3), (4, .int v4)] → W p l e R s m args below meth c H locs 0 0 (MQ below (q_M_parameters dC dI cB cI cL A adM adM_tape adM_frameAt adM_field adM_draft adM_given adM_low adM_high adM_packet adM_known a) args s 0 0 A) (F0 m 51 ls [])) (X : zx p s m args meth c R R_M b_M_parameters (some .int) 8 5 126) (hA : ∀ q, s.heap.size ≤ q → A q) (zz : zk dC dI cB cI cL A s)  (N : Nat) (sM : zM) (v2 : Int32) (v3 : Int32) (v4 : Int32) (a : Int32 × zM) (hG : g_M_parameters_51_b N kr sM v2 v3 v4 = some a) (adM adM_tape adM_frameAt adM_field adM_draft adM_given adM_low adM_high adM_packet adM_known : Nat) (H : Heap) (locs : List Loc) (hP : va_P (dC, dI) zcl (zwM adM adM_tape adM_frameAt adM_field adM_draft adM_given adM_low adM_high adM_packet adM_known cB cI cL sM) H) (hD : va_D A (zwM adM adM_tape adM_frameAt adM_field adM_draft adM_given adM_low adM_high adM_packet adM_known cB cI cL sM)) (hS : va_S A s.heap H locs) (ls : Array Slot) (hl : lv_has ls 8 [(0, .ref adM), (2, .int v2), (3, .int v3), (4, .int v4)]) : W p l e R s m args below meth c H locs 0 0 (MQ below (q_M_parameters dC dI cB cI cL A adM adM_tape adM_frameAt adM_field adM_draft adM_given adM_low adM_high adM_packet adM_known a) args s 0 0 A) (F0 m 51 ls []) := by
  obtain ⟨hx, hb, hr, hml, hown, hts, hlocks, hRf, hRl⟩ := id X
  unfold g_M_parameters_51_b at hG
  refine lv_aload_n hx hb d_M_parameters_51 rfl (lv_at hl 0 rfl) ?_
  refine va_get (D := (dC, dI)) (ci := 8) (v := .int (zM_at sM)) (C := R_M) (T := F_M) (N := 26) hx hb hts zi_M hown zz.1 hP 0 rfl rfl 14 (by decide) (hts (.fieldLink R_M 110 "WireCodecModel" "at" "I") zin_M_110) (fun _ h9 => h9) rfl d_M_parameters_52 ?_
  refine lv_aload_n hx hb d_M_parameters_55 rfl (lv_at hl 0 rfl) ?_
  refine va_get (D := (dC, dI)) (ci := 8) (v := .int (zM_size sM)) (C := R_M) (T := F_M) (N := 26) hx hb hts zi_M hown zz.1 hP 0 rfl rfl 2 (by decide) (hts (.fieldLink R_M 57 "WireCodecModel" "size" "I") zin_M_57) (fun _ h9 => h9) rfl d_M_parameters_56 ?_
  refine lv_icmp_ge (tgt := 145) hx hb d_M_parameters_59 (by decide) (fun hc => ?_) (fun hc => ?_)
  · have hG := zt hG hc
    exact k_M_parameters_145 X hA zz N sM v4 _ hG adM adM_tape adM_frameAt adM_field adM_draft adM_given adM_low adM_high adM_packet adM_known _ _ hP hD hS _ (lv_sub hl [0, 3] rfl)
  · have hG := zf hG hc
    refine lv_aload_n hx hb d_M_parameters_62 rfl (lv_at hl 0 rfl) ?_
    refine va_get (D := (dC, dI)) (ci := 8) (v := .int (zM_fault sM)) (C := R_M) (T := F_M) (N := 26) hx hb hts zi_M hown zz.1 hP 0 rfl rfl 3 (by decide) (hts (.fieldLink R_M 91 "WireCodecModel" "fault" "I") zin_M_91) (fun _ h9 => h9) rfl d_M_parameters_63 ?_
    refine lv_if_ne (tgt := 145) hx hb d_M_parameters_66 (by decide) (fun hc => ?_) (fun hc => ?_)
    · have hG := zf hG hc
      exact k_M_parameters_145 X hA zz N sM v4 _ hG adM adM_tape adM_frameAt adM_field adM_draft adM_given adM_low adM_high adM_packet adM_known _ _ hP hD hS _ (lv_sub hl [0, 3] rfl)
    · have hG := zt hG hc
      refine lv_aload_n hx hb d_M_parameters_69 rfl (lv_at hl 0 rfl) ?_
      refine va_get (D := (dC, dI)) (ci := 8) (v := .int (zM_at sM)) (C := R_M) (T := F_M) (N := 26) hx hb hts zi_M hown zz.1 hP 0 rfl rfl 14 (by decide) (hts (.fieldLink R_M 110 "WireCodecModel" "at" "I") zin_M_110) (fun _ h9 => h9) rfl d_M_parameters_70 ?_
      refine lv_istore (lv' := [(5, .int (zM_at sM)), (0, .ref adM), (2, .int v2), (3, .int v3), (4, .int v4)]) hx hb d_M_parameters_73 hl (by decide) rfl (fun ls hl => ?_)
      refine lv_aload_n hx hb d_M_parameters_75 rfl (lv_at hl 1 rfl) ?_
      refine lv_aload_n hx hb d_M_parameters_76 rfl (lv_at hl 1 rfl) ?_
      refine lv_iload_n hx hb d_M_parameters_77 rfl (lv_at hl 2 rfl) ?_
      refine lv_iload_n hx hb d_M_parameters_78 rfl (lv_at hl 3 rfl) ?_
      obtain ⟨a_79, hx_79, hG⟩ := zb hG
      have hr_79 := zrunV (p := p) (e := e) (below := below) (meth := meth) (As := [.int v2, .int v3]) (rest := [.ref adM]) (st0 := [.int v3, .int v2, .ref adM, .ref adM]) (cells := 0) (slots := 0) X zz hP hD hS hA [0, 1, 2, 3, 4, 5, 6, 7, 8, 9] (by decide) rfl (c_M_parameterFlaw l dC dI cB cI cL H.size adM adM_tape adM_frameAt adM_field adM_draft adM_given adM_low adM_high adM_packet adM_known N sM v2 v3 _ hx_79) zy_M_parameterFlaw zv_M_parameterFlaw (hts (.methodLink R_M 287 y_M_parameterFlaw) zin_M_287) hl rfl rfl d_M_parameters_79 (lv_room (Nat.le_of_ble_eq_true rfl)) rfl rfl ⟨Nat.le_trans (Nat.le_of_ble_eq_true rfl) hRf, Nat.le_trans (Nat.le_of_ble_eq_true rfl) hRl⟩ ⟨Nat.zero_le _, Nat.zero_le _⟩ 0 8 rfl rfl
      refine zcalli (wr := ([] : va_W)) hr_79 hP hD hS hA [0, 1, 2, 3, 4, 5, 6, 7, 8, 9] [] rfl rfl (by decide) (by decide) (fun r_79 u_79 H locs hw_79 hP hD hS => ?_)
      obtain ⟨sM_79, rfl⟩ : ∃ z, z = u_79 := ⟨_, rfl⟩
      subst hw_79
      have hP : va_P (dC, dI) zcl (zwM adM adM_tape adM_frameAt adM_field adM_draft adM_given adM_low adM_high adM_packet adM_known cB cI cL sM_79) H := hP
      have hD : va_D A (zwM adM adM_tape adM_frameAt adM_field adM_draft adM_given adM_low adM_high adM_packet adM_known cB cI cL sM_79) := hD
      have hG : g_M_parameters_c79 N kr sM v2 v3 v4 sM_79 r_79 = some a := hG
      unfold g_M_parameters_c79 at hG
      refine lv_iload hx hb d_M_parameters_82 (lv_at hl 0 rfl) ?_
      obtain ⟨a_84, hx_84, hG⟩ := zb hG
      have hr_84 := zrunV (p := p) (e := e) (below := below) (meth := meth) (As := [.int r_79, .int (zM_at sM)]) (rest := []) (st0 := [.int (zM_at sM), .int r_79, .ref adM]) (cells := 0) (slots := 0) X zz hP hD hS hA [0, 1, 2, 3, 4, 5, 6, 7, 8, 9] (by decide) rfl (c_M_tell l dC dI cB cI cL H.size adM adM_tape adM_frameAt adM_field adM_draft adM_given adM_low adM_high adM_packet adM_known sM_79 r_79 (zM_at sM) _ hx_84) zy_M_tell zv_M_tell (hts (.methodLink R_M 203 y_M_tell) zin_M_203) hl rfl rfl d_M_parameters_84 (lv_room (Nat.le_of_ble_eq_true rfl)) rfl rfl ⟨Nat.le_trans (Nat.le_of_ble_eq_true rfl) hRf, Nat.le_trans (Nat.le_of_ble_eq_true rfl) hRl⟩ ⟨Nat.zero_le _, Nat.zero_le _⟩ 0 8 rfl rfl
      refine zcallv (wr := ([] : va_W)) hr_84 hP hD hS hA [0, 1, 2, 3, 4, 5, 6, 7, 8, 9] [] rfl rfl (by decide) (by decide) (fun u_84 H locs hw_84 hP hD hS => ?_)
      obtain ⟨sM_84, rfl⟩ : ∃ z, z = u_84 := ⟨_, rfl⟩
      subst hw_84
      have hP : va_P (dC, dI) zcl (zwM adM adM_tape adM_frameAt adM_field adM_draft adM_given adM_low adM_high adM_packet adM_known cB cI cL sM_84) H := hP
      have hD : va_D A (zwM adM adM_tape adM_frameAt adM_field adM_draft adM_given adM_low adM_high adM_packet adM_known cB cI cL sM_84) := hD
      have hG : g_M_parameters_c84 N kr sM v2 v3 v4 sM_84 = some a := hG
      unfold g_M_parameters_c84 at hG
      refine lv_aload_n hx hb d_M_parameters_87 rfl (lv_at hl 1 rfl) ?_
      refine lv_iload hx hb d_M_parameters_88 (lv_at hl 0 rfl) ?_
      refine lv_aload_n hx hb d_M_parameters_90 rfl (lv_at hl 1 rfl) ?_
      refine va_get (D := (dC, dI)) (ci := 8) (v := .int (zM_size sM_84)) (C := R_M) (T := F_M) (N := 26) hx hb hts zi_M hown zz.1 hP 0 rfl rfl 2 (by decide) (hts (.fieldLink R_M 57 "WireCodecModel" "size" "I") zin_M_57) (fun _ h9 => h9) rfl d_M_parameters_91 ?_
      obtain ⟨a_94, hx_94, hG⟩ := zb hG
      have hr_94 := zrunV (p := p) (e := e) (below := below) (meth := meth) (As := [.int (zM_at sM), .int (zM_size sM_84)]) (rest := []) (st0 := [.int (zM_size sM_84), .int (zM_at sM), .ref adM]) (cells := 0) (slots := 0) X zz hP hD hS hA [0, 1, 2, 3, 4, 5, 6, 7, 8, 9] (by decide) rfl (c_M_look l dC dI cB cI cL H.size adM adM_tape adM_frameAt adM_field adM_draft adM_given adM_low adM_high adM_packet adM_known sM_84 (zM_at sM) (zM_size sM_84) _ hx_94) zy_M_look zv_M_look (hts (.methodLink R_M 124 y_M_look) zin_M_124) hl rfl rfl d_M_parameters_94 (lv_room (Nat.le_of_ble_eq_true rfl)) rfl rfl ⟨Nat.le_trans (Nat.le_of_ble_eq_true rfl) hRf, Nat.le_trans (Nat.le_of_ble_eq_true rfl) hRl⟩ ⟨Nat.zero_le _, Nat.zero_le _⟩ 0 8 rfl rfl
      refine zcallv (wr := ([] : va_W)) hr_94 hP hD hS hA [0, 1, 2, 3, 4, 5, 6, 7, 8, 9] [] rfl rfl (by decide) (by decide) (fun u_94 H locs hw_94 hP hD hS => ?_)
      obtain ⟨sM_94, rfl⟩ : ∃ z, z = u_94 := ⟨_, rfl⟩
      subst hw_94
      have hP : va_P (dC, dI) zcl (zwM adM adM_tape adM_frameAt adM_field adM_draft adM_given adM_low adM_high adM_packet adM_known cB cI cL sM_94) H := hP
      have hD : va_D A (zwM adM adM_tape adM_frameAt adM_field adM_draft adM_given adM_low adM_high adM_packet adM_known cB cI cL sM_94) := hD
      have hG : g_M_parameters_c94 N kr v2 v3 v4 sM_94 = some a := hG
      unfold g_M_parameters_c94 at hG
      refine lv_aload_n hx hb d_M_parameters_97 rfl (lv_at hl 1 rfl) ?_
      obtain ⟨a_98, hx_98, hG⟩ := zb hG
      have hr_98 := zrunV (p := p) (e := e) (below := below) (meth := meth) (As := []) (rest := []) (st0 := [.ref adM]) (cells := 0) (slots := 0) X zz hP hD hS hA [0, 1, 2, 3, 4, 5, 6, 7, 8, 9] (by decide) rfl (c_M_takeNumber l dC dI cB cI cL H.size adM adM_tape adM_frameAt adM_field adM_draft adM_given adM_low adM_high adM_packet adM_known N sM_94 _ hx_98) zy_M_takeNumber zv_M_takeNumber (hts (.methodLink R_M 128 y_M_takeNumber) zin_M_128) hl rfl rfl d_M_parameters_98 (lv_room (Nat.le_of_ble_eq_true rfl)) rfl rfl ⟨Nat.le_trans (Nat.le_of_ble_eq_true rfl) hRf, Nat.le_trans (Nat.le_of_ble_eq_true rfl) hRl⟩ ⟨Nat.zero_le _, Nat.zero_le _⟩ 0 8 rfl rfl
      refine zcalll (wr := ([] : va_W)) hr_98 hP hD hS hA [0, 1, 2, 3, 4, 5, 6, 7, 8, 9] [] rfl rfl (by decide) (by decide) (fun r_98 u_98 H locs hw_98 hP hD hS => ?_)
      obtain ⟨sM_98, rfl⟩ : ∃ z, z = u_98 := ⟨_, rfl⟩
      subst hw_98
      have hP : va_P (dC, dI) zcl (zwM adM adM_tape adM_frameAt adM_field adM_draft adM_given adM_low adM_high adM_packet adM_known cB cI cL sM_98) H := hP
      have hD : va_D A (zwM adM adM_tape adM_frameAt adM_field adM_draft adM_given adM_low adM_high adM_packet adM_known cB cI cL sM_98) := hD
      have hG : g_M_parameters_c98 N kr v2 v3 v4 sM_98 r_98 = some a := hG
      unfold g_M_parameters_c98 at hG
      refine lv_lstore (lv' := [(6, .long r_98), (5, .int (zM_at sM)), (0, .ref adM), (2, .int v2), (3, .int v3), (4, .int v4)]) hx hb d_M_parameters_101 hl (by decide) rfl (fun ls hl => ?_)
      refine lv_aload_n hx hb d_M_parameters_103 rfl (lv_at hl 2 rfl) ?_
      refine lv_aload_n hx hb d_M_parameters_104 rfl (lv_at hl 2 rfl) ?_
      obtain ⟨a_105, hx_105, hG⟩ := zb hG
      have hr_105 := zrunV (p := p) (e := e) (below := below) (meth := meth) (As := []) (rest := [.ref adM]) (st0 := [.ref adM, .ref adM]) (cells := 0) (slots := 0) X zz hP hD hS hA [0, 1, 2, 3, 4, 5, 6, 7, 8, 9] (by decide) rfl (c_M_takeNumber l dC dI cB cI cL H.size adM adM_tape adM_frameAt adM_field adM_draft adM_given adM_low adM_high adM_packet adM_known N sM_98 _ hx_105) zy_M_takeNumber zv_M_takeNumber (hts (.methodLink R_M 128 y_M_takeNumber) zin_M_128) hl rfl rfl d_M_parameters_105 (lv_room (Nat.le_of_ble_eq_true rfl)) rfl rfl ⟨Nat.le_trans (Nat.le_of_ble_eq_true rfl) hRf, Nat.le_trans (Nat.le_of_ble_eq_true rfl) hRl⟩ ⟨Nat.zero_le _, Nat.zero_le _⟩ 0 8 rfl rfl
      refine zcalll (wr := ([] : va_W)) hr_105 hP hD hS hA [0, 1, 2, 3, 4, 5, 6, 7, 8, 9] [] rfl rfl (by decide) (by decide) (fun r_105 u_105 H locs hw_105 hP hD hS => ?_)
      obtain ⟨sM_105, rfl⟩ : ∃ z, z = u_105 := ⟨_, rfl⟩
      subst hw_105
      have hP : va_P (dC, dI) zcl (zwM adM adM_tape adM_frameAt adM_field adM_draft adM_given adM_low adM_high adM_packet adM_known cB cI cL sM_105) H := hP
      have hD : va_D A (zwM adM adM_tape adM_frameAt adM_field adM_draft adM_given adM_low adM_high adM_packet adM_known cB cI cL sM_105) := hD
      have hG : g_M_parameters_c105 kr v2 v3 v4 r_98 sM_105 r_105 = some a := hG
      unfold g_M_parameters_c105 at hG
      obtain ⟨a_108, hx_108, hG⟩ := zb hG
      have hr_108 := zrunV (p := p) (e := e) (below := below) (meth := meth) (As := [.long r_105]) (rest := []) (st0 := [.long r_105, .ref adM]) (cells := 0) (slots := 0) X zz hP hD hS hA [0, 1, 2, 3, 4, 5, 6, 7, 8, 9] (by decide) rfl (c_M_pass l dC dI cB cI cL H.size adM adM_tape adM_frameAt adM_field adM_draft adM_given adM_low adM_high adM_packet adM_known sM_105 r_105 _ hx_108) zy_M_pass zv_M_pass (hts (.methodLink R_M 141 y_M_pass) zin_M_141) hl rfl rfl d_M_parameters_108 (lv_room (Nat.le_of_ble_eq_true rfl)) rfl rfl ⟨Nat.le_trans (Nat.le_of_ble_eq_true rfl) hRf, Nat.le_trans (Nat.le_of_ble_eq_true rfl) hRl⟩ ⟨Nat.zero_le _, Nat.zero_le _⟩ 0 8 rfl rfl
      refine zcalli (wr := ([] : va_W)) hr_108 hP hD hS hA [0, 1, 2, 3, 4, 5, 6, 7, 8, 9] [] rfl rfl (by decide) (by decide) (fun r_108 u_108 H locs hw_108 hP hD hS => ?_)
      obtain ⟨sM_108, rfl⟩ : ∃ z, z = u_108 := ⟨_, rfl⟩
      subst hw_108
      have hP : va_P (dC, dI) zcl (zwM adM adM_tape adM_frameAt adM_field adM_draft adM_given adM_low adM_high adM_packet adM_known cB cI cL sM_108) H := hP
      have hD : va_D A (zwM adM adM_tape adM_frameAt adM_field adM_draft adM_given adM_low adM_high adM_packet adM_known cB cI cL sM_108) := hD
      have hG : g_M_parameters_c108 kr v2 v3 v4 r_98 sM_108 = some a := hG
      unfold g_M_parameters_c108 at hG
      refine lv_pop hx hb d_M_parameters_111 rfl ?_
      refine lv_aload_n hx hb d_M_parameters_112 rfl (lv_at hl 2 rfl) ?_
      refine va_get (D := (dC, dI)) (ci := 8) (v := .int (zM_fault sM_108)) (C := R_M) (T := F_M) (N := 26) hx hb hts zi_M hown zz.1 hP 0 rfl rfl 3 (by decide) (hts (.fieldLink R_M 91 "WireCodecModel" "fault" "I") zin_M_91) (fun _ h9 => h9) rfl d_M_parameters_113 ?_
      refine lv_if_gt (tgt := 51) hx hb d_M_parameters_116 (by decide) (fun hc => ?_) (fun hc => ?_)
      · have hG := zt hG hc
        exact hrec sM_108 v2 v3 v4 _ hG adM adM_tape adM_frameAt adM_field adM_draft adM_given adM_low adM_high adM_packet adM_known _ _ hP hD hS _ (lv_sub hl [2, 3, 4, 5] rfl)
      · have hG := zf hG hc
        refine lv_lload hx hb d_M_parameters_119 (lv_at hl 0 rfl) ?_
        refine lv_ldc2 (v := (16 : Int64)) hx hb hown (hts (.constantLong R_M 160 (16 : Int64)) zin_M_160) d_M_parameters_121 ?_
        refine W.lcmp hx hb d_M_parameters_124 ?_
        refine lv_if_le (tgt := 131) hx hb d_M_parameters_125 (by decide) (fun hc => ?_) (fun hc => ?_)
        · have hG := zt hG hc
          refine lv_iload_n hx hb d_M_parameters_131 rfl (lv_at hl 4 rfl) ?_
          refine lv_iconst (v := (1 : Int32)) hx hb d_M_parameters_132 (by decide) ?_
          refine lv_lload hx hb d_M_parameters_133 (lv_at hl 0 rfl) ?_
          refine lv_l2i hx hb d_M_parameters_135 rfl ?_
          refine lv_ishl hx hb d_M_parameters_136 ?_
          refine lv_ior hx hb d_M_parameters_137 ?_
          refine lv_istore_n (lv' := [(3, .int (v3 ||| ((1 : Int32) <<< (r_98.toInt32 &&& 31)))), (6, .long r_98), (5, .int (zM_at sM)), (0, .ref adM), (2, .int v2), (4, .int v4)]) hx hb d_M_parameters_138 rfl hl (by decide) rfl (fun ls hl => ?_)
          refine lv_iinc (v := v4 + 1) (lv' := [(4, .int (v4 + 1)), (3, .int (v3 ||| ((1 : Int32) <<< (r_98.toInt32 &&& 31)))), (6, .long r_98), (5, .int (zM_at sM)), (0, .ref adM), (2, .int v2)]) hx hb d_M_parameters_139 hl (k := 5) rfl rfl (by decide) rfl (fun ls hl => ?_)
          refine lv_goto (tgt := 51) hx hb d_M_parameters_142 (by decide) ?_
          exact hrec sM_108 v2 (v3 ||| ((1 : Int32) <<< (r_98.toInt32 &&& 31))) (v4 + 1) _ hG adM adM_tape adM_frameAt adM_field adM_draft adM_given adM_low adM_high adM_packet adM_known _ _ hP hD hS _ (lv_sub hl [4, 5, 1, 0] rfl)
        · have hG := zf hG hc
          refine lv_goto (tgt := 51) hx hb d_M_parameters_128 (by decide) ?_
          exact hrec sM_108 v2 v3 v4 _ hG adM adM_tape adM_frameAt adM_field adM_draft adM_given adM_low adM_high adM_packet adM_known _ _ hP hD hS _ (lv_sub hl [2, 3, 4, 5] rfl)
theorem k_M_parameters_51 {p : Program} {l : Launch} {e : Env} {R : Room} {s : State} {m : MethodId} {args : Array Value} {below : List Frame} {meth : Method} {c : Code} {dC : Nat → ClassId} {dI : Nat → Nat → Nat} {cB cI cL : ClassId} {A : Nat → Prop} (X : zx p s m args meth c R R_M b_M_parameters (some .int) 8 5 126) (hA : ∀ q, s.heap.size ≤ q → A q) (zz : zk dC dI cB cI cL A s)  (N : Nat) : ∀ (k : Nat) (sM : zM) (v2 : Int32) (v3 : Int32) (v4 : Int32) (a : Int32 × zM) (hG : g_M_parameters_51 N k sM v2 v3 v4 = some a) (adM adM_tape adM_frameAt adM_field adM_draft adM_given adM_low adM_high adM_packet adM_known : Nat) (H : Heap) (locs : List Loc) (hP : va_P (dC, dI) zcl (zwM adM adM_tape adM_frameAt adM_field adM_draft adM_given adM_low adM_high adM_packet adM_known cB cI cL sM) H) (hD : va_D A (zwM adM adM_tape adM_frameAt adM_field adM_draft adM_given adM_low adM_high adM_packet adM_known cB cI cL sM)) (hS : va_S A s.heap H locs) (ls : Array Slot) (hl : lv_has ls 8 [(0, .ref adM), (2, .int v2), (3, .int v3), (4, .int v4)]), W p l e R s m args below meth c H locs 0 0 (MQ below (q_M_parameters dC dI cB cI cL A adM adM_tape adM_frameAt adM_field adM_draft adM_given adM_low adM_high adM_packet adM_known a) args s 0 0 A) (F0 m 51 ls []) := by
  intro k
  induction k with
  | zero => intro sM v2 v3 v4 a hG; exact absurd hG (by unfold g_M_parameters_51; simp)
  | succ k ih => intro sM v2 v3 v4 a hG adM adM_tape adM_frameAt adM_field adM_draft adM_given adM_low adM_high adM_packet adM_known H locs hP hD hS ls hl; exact k_M_parameters_51_b _ ih X hA zz N sM v2 v3 v4 a hG adM adM_tape adM_frameAt adM_field adM_draft adM_given adM_low adM_high adM_packet adM_known H locs hP hD hS ls hl
set_option maxRecDepth 100000 in
set_option maxHeartbeats 4000000 in
theorem k_M_parameters_20 {p : Program} {l : Launch} {e : Env} {R : Room} {s : State} {m : MethodId} {args : Array Value} {below : List Frame} {meth : Method} {c : Code} {dC : Nat → ClassId} {dI : Nat → Nat → Nat} {cB cI cL : ClassId} {A : Nat → Prop} (X : zx p s m args meth c R R_M b_M_parameters (some .int) 8 5 126) (hA : ∀ q, s.heap.size ≤ q → A q) (zz : zk dC dI cB cI cL A s)  (N : Nat) (sM : zM) (v1 : Int32) (v2 : Int32) (s0 : Int32) (a : Int32 × zM) (hG : g_M_parameters_20 N sM v1 v2 s0 = some a) (adM adM_tape adM_frameAt adM_field adM_draft adM_given adM_low adM_high adM_packet adM_known : Nat) (H : Heap) (locs : List Loc) (hP : va_P (dC, dI) zcl (zwM adM adM_tape adM_frameAt adM_field adM_draft adM_given adM_low adM_high adM_packet adM_known cB cI cL sM) H) (hD : va_D A (zwM adM adM_tape adM_frameAt adM_field adM_draft adM_given adM_low adM_high adM_packet adM_known cB cI cL sM)) (hS : va_S A s.heap H locs) (ls : Array Slot) (hl : lv_has ls 8 [(0, .ref adM), (1, .int v1), (2, .int v2)]) : W p l e R s m args below meth c H locs 0 0 (MQ below (q_M_parameters dC dI cB cI cL A adM adM_tape adM_frameAt adM_field adM_draft adM_given adM_low adM_high adM_packet adM_known a) args s 0 0 A) (F0 m 20 ls [.int s0, .ref adM]) := by
  obtain ⟨hx, hb, hr, hml, hown, hts, hlocks, hRf, hRl⟩ := id X
  unfold g_M_parameters_20 at hG
  refine lv_iconst (v := (1 : Int32)) hx hb d_M_parameters_20 (by decide) ?_
  obtain ⟨a_21, hx_21, hG⟩ := zb hG
  have hr_21 := zrunV (p := p) (e := e) (below := below) (meth := meth) (As := [.int s0, .int (1 : Int32)]) (rest := []) (st0 := [.int (1 : Int32), .int s0, .ref adM]) (cells := 0) (slots := 0) X zz hP hD hS hA [0, 1, 2, 3, 4, 5, 6, 7, 8, 9] (by decide) rfl (c_M_fails l dC dI cB cI cL H.size adM adM_tape adM_frameAt adM_field adM_draft adM_given adM_low adM_high adM_packet adM_known sM s0 (1 : Int32) _ hx_21) zy_M_fails zv_M_fails (hts (.methodLink R_M 62 y_M_fails) zin_M_62) hl rfl rfl d_M_parameters_21 (lv_room (Nat.le_of_ble_eq_true rfl)) rfl rfl ⟨Nat.le_trans (Nat.le_of_ble_eq_true rfl) hRf, Nat.le_trans (Nat.le_of_ble_eq_true rfl) hRl⟩ ⟨Nat.zero_le _, Nat.zero_le _⟩ 0 8 rfl rfl
  refine zcalli (wr := ([] : va_W)) hr_21 hP hD hS hA [0, 1, 2, 3, 4, 5, 6, 7, 8, 9] [] rfl rfl (by decide) (by decide) (fun r_21 u_21 H locs hw_21 hP hD hS => ?_)
  obtain ⟨sM_21, rfl⟩ : ∃ z, z = u_21 := ⟨_, rfl⟩
  subst hw_21
  have hP : va_P (dC, dI) zcl (zwM adM adM_tape adM_frameAt adM_field adM_draft adM_given adM_low adM_high adM_packet adM_known cB cI cL sM_21) H := hP
  have hD : va_D A (zwM adM adM_tape adM_frameAt adM_field adM_draft adM_given adM_low adM_high adM_packet adM_known cB cI cL sM_21) := hD
  have hG : g_M_parameters_c21 N v1 v2 sM_21 r_21 = some a := hG
  unfold g_M_parameters_c21 at hG
  refine lv_if_eq (tgt := 29) hx hb d_M_parameters_24 (by decide) (fun hc => ?_) (fun hc => ?_)
  · have hG := zt hG hc
    refine lv_aload_n hx hb d_M_parameters_29 rfl (lv_at hl 0 rfl) ?_
    obtain ⟨a_30, hx_30, hG⟩ := zb hG
    have hr_30 := zrunV (p := p) (e := e) (below := below) (meth := meth) (As := []) (rest := []) (st0 := [.ref adM]) (cells := 0) (slots := 0) X zz hP hD hS hA [0, 1, 2, 3, 4, 5, 6, 7, 8, 9] (by decide) rfl (c_M_begin l dC dI cB cI cL H.size adM adM_tape adM_frameAt adM_field adM_draft adM_given adM_low adM_high adM_packet adM_known sM_21 _ hx_30) zy_M_begin zv_M_begin (hts (.methodLink R_M 100 y_M_begin) zin_M_100) hl rfl rfl d_M_parameters_30 (lv_room (Nat.le_of_ble_eq_true rfl)) rfl rfl ⟨Nat.le_trans (Nat.le_of_ble_eq_true rfl) hRf, Nat.le_trans (Nat.le_of_ble_eq_true rfl) hRl⟩ ⟨Nat.zero_le _, Nat.zero_le _⟩ 0 8 rfl rfl
    refine zcallv (wr := ([] : va_W)) hr_30 hP hD hS hA [0, 1, 2, 3, 4, 5, 6, 7, 8, 9] [] rfl rfl (by decide) (by decide) (fun u_30 H locs hw_30 hP hD hS => ?_)
    obtain ⟨sM_30, rfl⟩ : ∃ z, z = u_30 := ⟨_, rfl⟩
    subst hw_30
    have hP : va_P (dC, dI) zcl (zwM adM adM_tape adM_frameAt adM_field adM_draft adM_given adM_low adM_high adM_packet adM_known cB cI cL sM_30) H := hP
    have hD : va_D A (zwM adM adM_tape adM_frameAt adM_field adM_draft adM_given adM_low adM_high adM_packet adM_known cB cI cL sM_30) := hD
    have hG : g_M_parameters_c30 N v1 v2 sM_30 = some a := hG
    unfold g_M_parameters_c30 at hG
    refine lv_aload_n hx hb d_M_parameters_33 rfl (lv_at hl 0 rfl) ?_
    obtain ⟨a_34, hx_34, hG⟩ := zb hG
    have hr_34 := zrunV (p := p) (e := e) (below := below) (meth := meth) (As := []) (rest := []) (st0 := [.ref adM]) (cells := 0) (slots := 0) X zz hP hD hS hA [0, 1, 2, 3, 4, 5, 6, 7, 8, 9] (by decide) rfl (c_M_forgetParameters l dC dI cB cI cL H.size adM adM_tape adM_frameAt adM_field adM_draft adM_given adM_low adM_high adM_packet adM_known N sM_30 _ hx_34) zy_M_forgetParameters zv_M_forgetParameters (hts (.methodLink R_M 103 y_M_forgetParameters) zin_M_103) hl rfl rfl d_M_parameters_34 (lv_room (Nat.le_of_ble_eq_true rfl)) rfl rfl ⟨Nat.le_trans (Nat.le_of_ble_eq_true rfl) hRf, Nat.le_trans (Nat.le_of_ble_eq_true rfl) hRl⟩ ⟨Nat.zero_le _, Nat.zero_le _⟩ 0 8 rfl rfl
    refine zcallv (wr := ([] : va_W)) hr_34 hP hD hS hA [0, 1, 2, 3, 4, 5, 6, 7, 8, 9] [] rfl rfl (by decide) (by decide) (fun u_34 H locs hw_34 hP hD hS => ?_)
    obtain ⟨sM_34, rfl⟩ : ∃ z, z = u_34 := ⟨_, rfl⟩
    subst hw_34
    have hP : va_P (dC, dI) zcl (zwM adM adM_tape adM_frameAt adM_field adM_draft adM_given adM_low adM_high adM_packet adM_known cB cI cL sM_34) H := hP
    have hD : va_D A (zwM adM adM_tape adM_frameAt adM_field adM_draft adM_given adM_low adM_high adM_packet adM_known cB cI cL sM_34) := hD
    have hG : g_M_parameters_c34 N v1 v2 sM_34 = some a := hG
    unfold g_M_parameters_c34 at hG
    refine lv_iconst (v := (0 : Int32)) hx hb d_M_parameters_37 (by decide) ?_
    refine lv_istore_n (lv' := [(3, .int (0 : Int32)), (0, .ref adM), (1, .int v1), (2, .int v2)]) hx hb d_M_parameters_38 rfl hl (by decide) rfl (fun ls hl => ?_)
    refine lv_iconst (v := (0 : Int32)) hx hb d_M_parameters_39 (by decide) ?_
    refine lv_istore (lv' := [(4, .int (0 : Int32)), (3, .int (0 : Int32)), (0, .ref adM), (1, .int v1), (2, .int v2)]) hx hb d_M_parameters_40 hl (by decide) rfl (fun ls hl => ?_)
    refine lv_aload_n hx hb d_M_parameters_42 rfl (lv_at hl 2 rfl) ?_
    refine lv_iload_n hx hb d_M_parameters_43 rfl (lv_at hl 3 rfl) ?_
    refine lv_aload_n hx hb d_M_parameters_44 rfl (lv_at hl 2 rfl) ?_
    refine va_get (D := (dC, dI)) (ci := 8) (v := .int (zM_size sM_34)) (C := R_M) (T := F_M) (N := 26) hx hb hts zi_M hown zz.1 hP 0 rfl rfl 2 (by decide) (hts (.fieldLink R_M 57 "WireCodecModel" "size" "I") zin_M_57) (fun _ h9 => h9) rfl d_M_parameters_45 ?_
    obtain ⟨a_48, hx_48, hG⟩ := zb hG
    have hr_48 := zrunV (p := p) (e := e) (below := below) (meth := meth) (As := [.int v1, .int (zM_size sM_34)]) (rest := []) (st0 := [.int (zM_size sM_34), .int v1, .ref adM]) (cells := 0) (slots := 0) X zz hP hD hS hA [0, 1, 2, 3, 4, 5, 6, 7, 8, 9] (by decide) rfl (c_M_look l dC dI cB cI cL H.size adM adM_tape adM_frameAt adM_field adM_draft adM_given adM_low adM_high adM_packet adM_known sM_34 v1 (zM_size sM_34) _ hx_48) zy_M_look zv_M_look (hts (.methodLink R_M 124 y_M_look) zin_M_124) hl rfl rfl d_M_parameters_48 (lv_room (Nat.le_of_ble_eq_true rfl)) rfl rfl ⟨Nat.le_trans (Nat.le_of_ble_eq_true rfl) hRf, Nat.le_trans (Nat.le_of_ble_eq_true rfl) hRl⟩ ⟨Nat.zero_le _, Nat.zero_le _⟩ 0 8 rfl rfl
    refine zcallv (wr := ([] : va_W)) hr_48 hP hD hS hA [0, 1, 2, 3, 4, 5, 6, 7, 8, 9] [] rfl rfl (by decide) (by decide) (fun u_48 H locs hw_48 hP hD hS => ?_)
    obtain ⟨sM_48, rfl⟩ : ∃ z, z = u_48 := ⟨_, rfl⟩
    subst hw_48
    have hP : va_P (dC, dI) zcl (zwM adM adM_tape adM_frameAt adM_field adM_draft adM_given adM_low adM_high adM_packet adM_known cB cI cL sM_48) H := hP
    have hD : va_D A (zwM adM adM_tape adM_frameAt adM_field adM_draft adM_given adM_low adM_high adM_packet adM_known cB cI cL sM_48) := hD
    have hG : g_M_parameters_c48 N v2 sM_48 = some a := hG
    unfold g_M_parameters_c48 at hG
    exact k_M_parameters_51 X hA zz N N sM_48 v2 (0 : Int32) (0 : Int32) _ hG adM adM_tape adM_frameAt adM_field adM_draft adM_given adM_low adM_high adM_packet adM_known _ _ hP hD hS _ (lv_sub hl [2, 4, 1, 0] rfl)
  · have hG := zf hG hc
    refine lv_iconst (v := (0 : Int32)) hx hb d_M_parameters_27 (by decide) ?_
    exact W.iret (v := (0 : Int32)) hx hb hr (fun t9 ht9 hW9 => ⟨⟨(0 : Int32), (sM_21), rfl, Option.some.inj hG, by rw [ht9]; exact hP, hD⟩, hS.F ht9⟩) hS.2.2 d_M_parameters_28
set_option maxRecDepth 100000 in
set_option maxHeartbeats 4000000 in
theorem k_M_parameters_0 {p : Program} {l : Launch} {e : Env} {R : Room} {s : State} {m : MethodId} {args : Array Value} {below : List Frame} {meth : Method} {c : Code} {dC : Nat → ClassId} {dI : Nat → Nat → Nat} {cB cI cL : ClassId} {A : Nat → Prop} (X : zx p s m args meth c R R_M b_M_parameters (some .int) 8 5 126) (hA : ∀ q, s.heap.size ≤ q → A q) (zz : zk dC dI cB cI cL A s)  (N : Nat) (sM : zM) (v1 : Int32) (v2 : Int32) (a : Int32 × zM) (hG : g_M_parameters N sM v1 v2 = some a) (adM adM_tape adM_frameAt adM_field adM_draft adM_given adM_low adM_high adM_packet adM_known : Nat) (H : Heap) (locs : List Loc) (hP : va_P (dC, dI) zcl (zwM adM adM_tape adM_frameAt adM_field adM_draft adM_given adM_low adM_high adM_packet adM_known cB cI cL sM) H) (hD : va_D A (zwM adM adM_tape adM_frameAt adM_field adM_draft adM_given adM_low adM_high adM_packet adM_known cB cI cL sM)) (hS : va_S A s.heap H locs) (ls : Array Slot) (hl : lv_has ls 8 [(0, .ref adM), (1, .int v1), (2, .int v2)]) : W p l e R s m args below meth c H locs 0 0 (MQ below (q_M_parameters dC dI cB cI cL A adM adM_tape adM_frameAt adM_field adM_draft adM_given adM_low adM_high adM_packet adM_known a) args s 0 0 A) (F0 m 0 ls []) := by
  obtain ⟨hx, hb, hr, hml, hown, hts, hlocks, hRf, hRl⟩ := id X
  unfold g_M_parameters at hG
  refine lv_aload_n hx hb d_M_parameters_0 rfl (lv_at hl 0 rfl) ?_
  refine lv_iload_n hx hb d_M_parameters_1 rfl (lv_at hl 1 rfl) ?_
  refine lv_i2l hx hb d_M_parameters_2 rfl ?_
  refine lv_lconst (v := (0 : Int64)) hx hb d_M_parameters_3 (by decide) ?_
  refine lv_aload_n hx hb d_M_parameters_4 rfl (lv_at hl 0 rfl) ?_
  refine va_get (D := (dC, dI)) (ci := 8) (v := .int (zM_size sM)) (C := R_M) (T := F_M) (N := 26) hx hb hts zi_M hown zz.1 hP 0 rfl rfl 2 (by decide) (hts (.fieldLink R_M 57 "WireCodecModel" "size" "I") zin_M_57) (fun _ h9 => h9) rfl d_M_parameters_5 ?_
  refine lv_i2l hx hb d_M_parameters_8 rfl ?_
  obtain ⟨a_9, hx_9, hG⟩ := zb hG
  have hr_9 := zrunS (p := p) (e := e) (below := below) (meth := meth) (As := [.long v1.toInt64, .long (0 : Int64), .long ((zM_size sM).toInt64)]) (rest := [.ref adM]) (st0 := [.long ((zM_size sM).toInt64), .long (0 : Int64), .long v1.toInt64, .ref adM]) (cells := 0) (slots := 0) X zz hP hD hS hA [] (by decide) rfl (c_M_within l dC dI cB cI cL H.size v1.toInt64 (0 : Int64) ((zM_size sM).toInt64) _ hx_9) zy_M_within zv_M_within (hts (.methodLink R_M 53 y_M_within) zin_M_53) hl rfl rfl d_M_parameters_9 (lv_room (Nat.le_of_ble_eq_true rfl)) rfl rfl ⟨Nat.le_trans (Nat.le_of_ble_eq_true rfl) hRf, Nat.le_trans (Nat.le_of_ble_eq_true rfl) hRl⟩ ⟨Nat.zero_le _, Nat.zero_le _⟩
  refine zcalli (wr := (zwM adM adM_tape adM_frameAt adM_field adM_draft adM_given adM_low adM_high adM_packet adM_known cB cI cL sM)) hr_9 hP hD hS hA [] [0, 1, 2, 3, 4, 5, 6, 7, 8, 9] rfl rfl (by decide) (by decide) (fun r_9 u_9 H locs hw_9 hP hD hS => ?_)
  subst hw_9
  have hP : va_P (dC, dI) zcl (zwM adM adM_tape adM_frameAt adM_field adM_draft adM_given adM_low adM_high adM_packet adM_known cB cI cL sM) H := hP
  have hD : va_D A (zwM adM adM_tape adM_frameAt adM_field adM_draft adM_given adM_low adM_high adM_packet adM_known cB cI cL sM) := hD
  have hG : g_M_parameters_c9 N sM v1 v2 r_9 = some a := hG
  unfold g_M_parameters_c9 at hG
  refine lv_if_ne (tgt := 19) hx hb d_M_parameters_12 (by decide) (fun hc => ?_) (fun hc => ?_)
  · have hG := zf hG hc
    refine lv_iconst (v := (0 : Int32)) hx hb d_M_parameters_19 (by decide) ?_
    exact k_M_parameters_20 X hA zz N sM v1 v2 (0 : Int32) _ hG adM adM_tape adM_frameAt adM_field adM_draft adM_given adM_low adM_high adM_packet adM_known _ _ hP hD hS _ (lv_sub hl [0, 1, 2] rfl)
  · have hG := zt hG hc
    refine lv_iconst (v := (1 : Int32)) hx hb d_M_parameters_15 (by decide) ?_
    refine lv_goto (tgt := 20) hx hb d_M_parameters_16 (by decide) ?_
    exact k_M_parameters_20 X hA zz N sM v1 v2 (1 : Int32) _ hG adM adM_tape adM_frameAt adM_field adM_draft adM_given adM_low adM_high adM_packet adM_known _ _ hP hD hS _ (lv_sub hl [0, 1, 2] rfl)
set_option maxRecDepth 100000 in
set_option maxHeartbeats 4000000 in
theorem c_M_parameters (l : Launch) (dC : Nat → ClassId) (dI : Nat → Nat → Nat) (cB cI cL : ClassId) (sz : Nat) (adM adM_tape adM_frameAt adM_field adM_draft adM_given adM_low adM_high adM_packet adM_known : Nat) (N : Nat) (sM : zM) (v1 : Int32) (v2 : Int32) (a : Int32 × zM) (hG : g_M_parameters N sM v1 v2 = some a) : Met l y_M_parameters (zw y_M_parameters b_M_parameters 8 (some .int)) ({ frames := 5, cells := 0, slots := 0, locals := 126 }) (va_Pc [.ref adM, .int v1, .int v2] (zpre dC dI cB cI cL sz (zwM adM adM_tape adM_frameAt adM_field adM_draft adM_given adM_low adM_high adM_packet adM_known cB cI cL sM))) (q_M_parameters dC dI cB cI cL (va_A (zwM adM adM_tape adM_frameAt adM_field adM_draft adM_given adM_low adM_high adM_packet adM_known cB cI cL sM) sz) adM adM_tape adM_frameAt adM_field adM_draft adM_given adM_low adM_high adM_packet adM_known a) 0 0 (va_A (zwM adM adM_tape adM_frameAt adM_field adM_draft adM_given adM_low adM_high adM_packet adM_known cB cI cL sM) sz) := by
  refine Met.ofW (cc := b_M_parameters) (maxL := 8) (ret := (some .int)) (by decide) rfl ?_
  intro p e s m args below meth c s₁ B hml hv
  obtain ⟨rfl, hsz, hP, zz, hD0⟩ := hv
  subst hsz
  have X := zx_of (F := 5) (L := 126) B hml (Nat.le_refl _) (Nat.le_refl _)
  have hD := hD0.self (sz := s.heap.size)
  have hA : ∀ q : Nat, s.heap.size ≤ q → va_A (zwM adM adM_tape adM_frameAt adM_field adM_draft adM_given adM_low adM_high adM_packet adM_known cB cI cL sM) s.heap.size q := fun q h => Or.inr h
  have hl := lv_entry ([.ref adM, .int v1, .int v2]) (n := 8) (Nat.le_of_ble_eq_true rfl)
  rw [lg_entry_eq]
  generalize (lg_sl ([.ref adM, .int v1, .int v2]) ++ List.replicate (8 - (lg_sl ([.ref adM, .int v1, .int v2])).length) Slot.unset).toArray = ls at hl ⊢
  exact k_M_parameters_0 X hA zz N sM v1 v2 a hG adM adM_tape adM_frameAt adM_field adM_draft adM_given adM_low adM_high adM_packet adM_known _ _ hP hD va_S.rf ls hl
noncomputable def g_M_parameter_35 (sM : zM) (s0 : Int64) : Option (Int64 × zM) := some (s0, sM)
noncomputable def g_M_parameter_c19 (v1 : Int32) (sM_19 : zM) (r_19 : Int32) : Option (Int64 × zM) := if r_19 = (0 : Int32) then (zg (vp_in v1 17) (some ((zM_known sM_19) v1.toNatClampNeg, sM_19))) else (g_M_parameter_35 sM_19 (0 : Int64))
noncomputable def g_M_parameter_18 (sM : zM) (v1 : Int32) (s0 : Int32) : Option (Int64 × zM) := (g_M_fails sM s0 (1 : Int32)).bind (fun a => g_M_parameter_c19 v1 a.2 a.1)
noncomputable def g_M_parameter_c7 (sM : zM) (v1 : Int32) (r_7 : Int32) : Option (Int64 × zM) := if r_7 = (0 : Int32) then (g_M_parameter_18 sM v1 (1 : Int32)) else (g_M_parameter_18 sM v1 (0 : Int32))
noncomputable def g_M_parameter (sM : zM) (v1 : Int32) : Option (Int64 × zM) := (g_M_within v1.toInt64 (0 : Int64) (16 : Int64)).bind (fun a => g_M_parameter_c7 sM v1 a)
def q_M_parameter (dC : Nat → ClassId) (dI : Nat → Nat → Nat) (cB cI cL : ClassId) (A : Nat → Prop) (adM : Nat) (adM_tape : Nat) (adM_frameAt : Nat) (adM_field : Nat) (adM_draft : Nat) (adM_given : Nat) (adM_low : Nat) (adM_high : Nat) (adM_packet : Nat) (adM_known : Nat) (a : Int64 × zM) : Array Value → State → Outcome → State → Prop := va_Ql (fun (r : Int64) (u : zM) => (r, u) = a) (fun u U => va_P (dC, dI) zcl (zwM adM adM_tape adM_frameAt adM_field adM_draft adM_given adM_low adM_high adM_packet adM_known cB cI cL u) U.heap ∧ va_D A (zwM adM adM_tape adM_frameAt adM_field adM_draft adM_given adM_low adM_high adM_packet adM_known cB cI cL u)) A
set_option maxRecDepth 100000 in
set_option maxHeartbeats 4000000 in
theorem k_M_parameter_35 {p : Program} {l : Launch} {e : Env} {R : Room} {s : State} {m : MethodId} {args : Array Value} {below : List Frame} {meth : Method} {c : Code} {dC : Nat → ClassId} {dI : Nat → Nat → Nat} {cB cI cL : ClassId} {A : Nat → Prop} (X : zx p s m args meth c R R_M b_M_parameter (some .long) 2 1 25) (hA : ∀ q, s.heap.size ≤ q → A q) (zz : zk dC dI cB cI cL A s)  (sM : zM) (s0 : Int64) (a : Int64 × zM) (hG : g_M_parameter_35 sM s0 = some a) (adM adM_tape adM_frameAt adM_field adM_draft adM_given adM_low adM_high adM_packet adM_known : Nat) (H : Heap) (locs : List Loc) (hP : va_P (dC, dI) zcl (zwM adM adM_tape adM_frameAt adM_field adM_draft adM_given adM_low adM_high adM_packet adM_known cB cI cL sM) H) (hD : va_D A (zwM adM adM_tape adM_frameAt adM_field adM_draft adM_given adM_low adM_high adM_packet adM_known cB cI cL sM)) (hS : va_S A s.heap H locs) (ls : Array Slot) (hl : lv_has ls 2 []) : W p l e R s m args below meth c H locs 0 0 (MQ below (q_M_parameter dC dI cB cI cL A adM adM_tape adM_frameAt adM_field adM_draft adM_given adM_low adM_high adM_packet adM_known a) args s 0 0 A) (F0 m 35 ls [.long s0]) := by
  obtain ⟨hx, hb, hr, hml, hown, hts, hlocks, hRf, hRl⟩ := id X
  unfold g_M_parameter_35 at hG
  exact W.lret (v := s0) hx hb hr (fun t9 ht9 hW9 => ⟨⟨s0, (sM), rfl, Option.some.inj hG, by rw [ht9]; exact hP, hD⟩, hS.F ht9⟩) hS.2.2 d_M_parameter_35
set_option maxRecDepth 100000 in
set_option maxHeartbeats 4000000 in
theorem k_M_parameter_18 {p : Program} {l : Launch} {e : Env} {R : Room} {s : State} {m : MethodId} {args : Array Value} {below : List Frame} {meth : Method} {c : Code} {dC : Nat → ClassId} {dI : Nat → Nat → Nat} {cB cI cL : ClassId} {A : Nat → Prop} (X : zx p s m args meth c R R_M b_M_parameter (some .long) 2 1 25) (hA : ∀ q, s.heap.size ≤ q → A q) (zz : zk dC dI cB cI cL A s)  (sM : zM) (v1 : Int32) (s0 : Int32) (a : Int64 × zM) (hG : g_M_parameter_18 sM v1 s0 = some a) (adM adM_tape adM_frameAt adM_field adM_draft adM_given adM_low adM_high adM_packet adM_known : Nat) (H : Heap) (locs : List Loc) (hP : va_P (dC, dI) zcl (zwM adM adM_tape adM_frameAt adM_field adM_draft adM_given adM_low adM_high adM_packet adM_known cB cI cL sM) H) (hD : va_D A (zwM adM adM_tape adM_frameAt adM_field adM_draft adM_given adM_low adM_high adM_packet adM_known cB cI cL sM)) (hS : va_S A s.heap H locs) (ls : Array Slot) (hl : lv_has ls 2 [(0, .ref adM), (1, .int v1)]) : W p l e R s m args below meth c H locs 0 0 (MQ below (q_M_parameter dC dI cB cI cL A adM adM_tape adM_frameAt adM_field adM_draft adM_given adM_low adM_high adM_packet adM_known a) args s 0 0 A) (F0 m 18 ls [.int s0, .ref adM]) := by
  obtain ⟨hx, hb, hr, hml, hown, hts, hlocks, hRf, hRl⟩ := id X
  unfold g_M_parameter_18 at hG
  refine lv_iconst (v := (1 : Int32)) hx hb d_M_parameter_18 (by decide) ?_
  obtain ⟨a_19, hx_19, hG⟩ := zb hG
  have hr_19 := zrunV (p := p) (e := e) (below := below) (meth := meth) (As := [.int s0, .int (1 : Int32)]) (rest := []) (st0 := [.int (1 : Int32), .int s0, .ref adM]) (cells := 0) (slots := 0) X zz hP hD hS hA [0, 1, 2, 3, 4, 5, 6, 7, 8, 9] (by decide) rfl (c_M_fails l dC dI cB cI cL H.size adM adM_tape adM_frameAt adM_field adM_draft adM_given adM_low adM_high adM_packet adM_known sM s0 (1 : Int32) _ hx_19) zy_M_fails zv_M_fails (hts (.methodLink R_M 62 y_M_fails) zin_M_62) hl rfl rfl d_M_parameter_19 (lv_room (Nat.le_of_ble_eq_true rfl)) rfl rfl ⟨Nat.le_trans (Nat.le_of_ble_eq_true rfl) hRf, Nat.le_trans (Nat.le_of_ble_eq_true rfl) hRl⟩ ⟨Nat.zero_le _, Nat.zero_le _⟩ 0 8 rfl rfl
  refine zcalli (wr := ([] : va_W)) hr_19 hP hD hS hA [0, 1, 2, 3, 4, 5, 6, 7, 8, 9] [] rfl rfl (by decide) (by decide) (fun r_19 u_19 H locs hw_19 hP hD hS => ?_)
  obtain ⟨sM_19, rfl⟩ : ∃ z, z = u_19 := ⟨_, rfl⟩
  subst hw_19
  have hP : va_P (dC, dI) zcl (zwM adM adM_tape adM_frameAt adM_field adM_draft adM_given adM_low adM_high adM_packet adM_known cB cI cL sM_19) H := hP
  have hD : va_D A (zwM adM adM_tape adM_frameAt adM_field adM_draft adM_given adM_low adM_high adM_packet adM_known cB cI cL sM_19) := hD
  have hG : g_M_parameter_c19 v1 sM_19 r_19 = some a := hG
  unfold g_M_parameter_c19 at hG
  refine lv_if_eq (tgt := 29) hx hb d_M_parameter_22 (by decide) (fun hc => ?_) (fun hc => ?_)
  · have hG := zt hG hc
    refine lv_aload_n hx hb d_M_parameter_29 rfl (lv_at hl 0 rfl) ?_
    refine va_get (D := (dC, dI)) (ci := 8) (v := .ref adM_known) (C := R_M) (T := F_M) (N := 26) hx hb hts zi_M hown zz.1 hP 0 rfl rfl 25 (by decide) (hts (.fieldLink R_M 42 "WireCodecModel" "known" "[J") zin_M_42) (fun _ h9 => h9) rfl d_M_parameter_30 ?_
    refine lv_iload_n hx hb d_M_parameter_33 rfl (lv_at hl 1 rfl) ?_
    obtain ⟨hin, hG⟩ := zgd hG
    refine va_lald hx hb zz.1 hP 9 2 rfl rfl hin d_M_parameter_34 ?_
    exact W.lret (v := (zM_known sM_19) v1.toNatClampNeg) hx hb hr (fun t9 ht9 hW9 => ⟨⟨(zM_known sM_19) v1.toNatClampNeg, (sM_19), rfl, Option.some.inj hG, by rw [ht9]; exact hP, hD⟩, hS.F ht9⟩) hS.2.2 d_M_parameter_35
  · have hG := zf hG hc
    refine lv_lconst (v := (0 : Int64)) hx hb d_M_parameter_25 (by decide) ?_
    refine lv_goto (tgt := 35) hx hb d_M_parameter_26 (by decide) ?_
    exact k_M_parameter_35 X hA zz sM_19 (0 : Int64) _ hG adM adM_tape adM_frameAt adM_field adM_draft adM_given adM_low adM_high adM_packet adM_known _ _ hP hD hS _ (lv_sub hl [] rfl)
set_option maxRecDepth 100000 in
set_option maxHeartbeats 4000000 in
theorem k_M_parameter_0 {p : Program} {l : Launch} {e : Env} {R : Room} {s : State} {m : MethodId} {args : Array Value} {below : List Frame} {meth : Method} {c : Code} {dC : Nat → ClassId} {dI : Nat → Nat → Nat} {cB cI cL : ClassId} {A : Nat → Prop} (X : zx p s m args meth c R R_M b_M_parameter (some .long) 2 1 25) (hA : ∀ q, s.heap.size ≤ q → A q) (zz : zk dC dI cB cI cL A s)  (sM : zM) (v1 : Int32) (a : Int64 × zM) (hG : g_M_parameter sM v1 = some a) (adM adM_tape adM_frameAt adM_field adM_draft adM_given adM_low adM_high adM_packet adM_known : Nat) (H : Heap) (locs : List Loc) (hP : va_P (dC, dI) zcl (zwM adM adM_tape adM_frameAt adM_field adM_draft adM_given adM_low adM_high adM_packet adM_known cB cI cL sM) H) (hD : va_D A (zwM adM adM_tape adM_frameAt adM_field adM_draft adM_given adM_low adM_high adM_packet adM_known cB cI cL sM)) (hS : va_S A s.heap H locs) (ls : Array Slot) (hl : lv_has ls 2 [(0, .ref adM), (1, .int v1)]) : W p l e R s m args below meth c H locs 0 0 (MQ below (q_M_parameter dC dI cB cI cL A adM adM_tape adM_frameAt adM_field adM_draft adM_given adM_low adM_high adM_packet adM_known a) args s 0 0 A) (F0 m 0 ls []) := by
  obtain ⟨hx, hb, hr, hml, hown, hts, hlocks, hRf, hRl⟩ := id X
  unfold g_M_parameter at hG
  refine lv_aload_n hx hb d_M_parameter_0 rfl (lv_at hl 0 rfl) ?_
  refine lv_iload_n hx hb d_M_parameter_1 rfl (lv_at hl 1 rfl) ?_
  refine lv_i2l hx hb d_M_parameter_2 rfl ?_
  refine lv_lconst (v := (0 : Int64)) hx hb d_M_parameter_3 (by decide) ?_
  refine lv_ldc2 (v := (16 : Int64)) hx hb hown (hts (.constantLong R_M 160 (16 : Int64)) zin_M_160) d_M_parameter_4 ?_
  obtain ⟨a_7, hx_7, hG⟩ := zb hG
  have hr_7 := zrunS (p := p) (e := e) (below := below) (meth := meth) (As := [.long v1.toInt64, .long (0 : Int64), .long (16 : Int64)]) (rest := [.ref adM]) (st0 := [.long (16 : Int64), .long (0 : Int64), .long v1.toInt64, .ref adM]) (cells := 0) (slots := 0) X zz hP hD hS hA [] (by decide) rfl (c_M_within l dC dI cB cI cL H.size v1.toInt64 (0 : Int64) (16 : Int64) _ hx_7) zy_M_within zv_M_within (hts (.methodLink R_M 53 y_M_within) zin_M_53) hl rfl rfl d_M_parameter_7 (lv_room (Nat.le_of_ble_eq_true rfl)) rfl rfl ⟨Nat.le_trans (Nat.le_of_ble_eq_true rfl) hRf, Nat.le_trans (Nat.le_of_ble_eq_true rfl) hRl⟩ ⟨Nat.zero_le _, Nat.zero_le _⟩
  refine zcalli (wr := (zwM adM adM_tape adM_frameAt adM_field adM_draft adM_given adM_low adM_high adM_packet adM_known cB cI cL sM)) hr_7 hP hD hS hA [] [0, 1, 2, 3, 4, 5, 6, 7, 8, 9] rfl rfl (by decide) (by decide) (fun r_7 u_7 H locs hw_7 hP hD hS => ?_)
  subst hw_7
  have hP : va_P (dC, dI) zcl (zwM adM adM_tape adM_frameAt adM_field adM_draft adM_given adM_low adM_high adM_packet adM_known cB cI cL sM) H := hP
  have hD : va_D A (zwM adM adM_tape adM_frameAt adM_field adM_draft adM_given adM_low adM_high adM_packet adM_known cB cI cL sM) := hD
  have hG : g_M_parameter_c7 sM v1 r_7 = some a := hG
  unfold g_M_parameter_c7 at hG
  refine lv_if_ne (tgt := 17) hx hb d_M_parameter_10 (by decide) (fun hc => ?_) (fun hc => ?_)
  · have hG := zf hG hc
    refine lv_iconst (v := (0 : Int32)) hx hb d_M_parameter_17 (by decide) ?_
    exact k_M_parameter_18 X hA zz sM v1 (0 : Int32) _ hG adM adM_tape adM_frameAt adM_field adM_draft adM_given adM_low adM_high adM_packet adM_known _ _ hP hD hS _ (lv_sub hl [0, 1] rfl)
  · have hG := zt hG hc
    refine lv_iconst (v := (1 : Int32)) hx hb d_M_parameter_13 (by decide) ?_
    refine lv_goto (tgt := 18) hx hb d_M_parameter_14 (by decide) ?_
    exact k_M_parameter_18 X hA zz sM v1 (1 : Int32) _ hG adM adM_tape adM_frameAt adM_field adM_draft adM_given adM_low adM_high adM_packet adM_known _ _ hP hD hS _ (lv_sub hl [0, 1] rfl)
set_option maxRecDepth 100000 in
set_option maxHeartbeats 4000000 in
theorem c_M_parameter (l : Launch) (dC : Nat → ClassId) (dI : Nat → Nat → Nat) (cB cI cL : ClassId) (sz : Nat) (adM adM_tape adM_frameAt adM_field adM_draft adM_given adM_low adM_high adM_packet adM_known : Nat) (sM : zM) (v1 : Int32) (a : Int64 × zM) (hG : g_M_parameter sM v1 = some a) : Met l y_M_parameter (zw y_M_parameter b_M_parameter 2 (some .long)) ({ frames := 1, cells := 0, slots := 0, locals := 25 }) (va_Pc [.ref adM, .int v1] (zpre dC dI cB cI cL sz (zwM adM adM_tape adM_frameAt adM_field adM_draft adM_given adM_low adM_high adM_packet adM_known cB cI cL sM))) (q_M_parameter dC dI cB cI cL (va_A (zwM adM adM_tape adM_frameAt adM_field adM_draft adM_given adM_low adM_high adM_packet adM_known cB cI cL sM) sz) adM adM_tape adM_frameAt adM_field adM_draft adM_given adM_low adM_high adM_packet adM_known a) 0 0 (va_A (zwM adM adM_tape adM_frameAt adM_field adM_draft adM_given adM_low adM_high adM_packet adM_known cB cI cL sM) sz) := by
  refine Met.ofW (cc := b_M_parameter) (maxL := 2) (ret := (some .long)) (by decide) rfl ?_
  intro p e s m args below meth c s₁ B hml hv
  obtain ⟨rfl, hsz, hP, zz, hD0⟩ := hv
  subst hsz
  have X := zx_of (F := 1) (L := 25) B hml (Nat.le_refl _) (Nat.le_refl _)
  have hD := hD0.self (sz := s.heap.size)
  have hA : ∀ q : Nat, s.heap.size ≤ q → va_A (zwM adM adM_tape adM_frameAt adM_field adM_draft adM_given adM_low adM_high adM_packet adM_known cB cI cL sM) s.heap.size q := fun q h => Or.inr h
  have hl := lv_entry ([.ref adM, .int v1]) (n := 2) (Nat.le_of_ble_eq_true rfl)
  rw [lg_entry_eq]
  generalize (lg_sl ([.ref adM, .int v1]) ++ List.replicate (2 - (lg_sl ([.ref adM, .int v1])).length) Slot.unset).toArray = ls at hl ⊢
  exact k_M_parameter_0 X hA zz sM v1 a hG adM adM_tape adM_frameAt adM_field adM_draft adM_given adM_low adM_high adM_packet adM_known _ _ hP hD va_S.rf ls hl
noncomputable def g_M_forget_c5 (sM_5 : zM) : Option (zM) := some (sM_5)
noncomputable def g_M_forget_c1 (N : Nat) (sM_1 : zM) : Option (zM) := (g_M_forgetParameters N sM_1).bind (fun a => g_M_forget_c5 a)
noncomputable def g_M_forget (N : Nat) (sM : zM) : Option (zM) := (g_M_begin sM).bind (fun a => g_M_forget_c1 N a)
def q_M_forget (dC : Nat → ClassId) (dI : Nat → Nat → Nat) (cB cI cL : ClassId) (A : Nat → Prop) (adM : Nat) (adM_tape : Nat) (adM_frameAt : Nat) (adM_field : Nat) (adM_draft : Nat) (adM_given : Nat) (adM_low : Nat) (adM_high : Nat) (adM_packet : Nat) (adM_known : Nat) (a : zM) : Array Value → State → Outcome → State → Prop := va_Qv (fun (u : zM) => (u) = a) (fun u U => va_P (dC, dI) zcl (zwM adM adM_tape adM_frameAt adM_field adM_draft adM_given adM_low adM_high adM_packet adM_known cB cI cL u) U.heap ∧ va_D A (zwM adM adM_tape adM_frameAt adM_field adM_draft adM_given adM_low adM_high adM_packet adM_known cB cI cL u)) A
set_option maxRecDepth 100000 in
set_option maxHeartbeats 4000000 in
theorem k_M_forget_0 {p : Program} {l : Launch} {e : Env} {R : Room} {s : State} {m : MethodId} {args : Array Value} {below : List Frame} {meth : Method} {c : Code} {dC : Nat → ClassId} {dI : Nat → Nat → Nat} {cB cI cL : ClassId} {A : Nat → Prop} (X : zx p s m args meth c R R_M b_M_forget none 1 2 41) (hA : ∀ q, s.heap.size ≤ q → A q) (zz : zk dC dI cB cI cL A s)  (N : Nat) (sM : zM) (a : zM) (hG : g_M_forget N sM = some a) (adM adM_tape adM_frameAt adM_field adM_draft adM_given adM_low adM_high adM_packet adM_known : Nat) (H : Heap) (locs : List Loc) (hP : va_P (dC, dI) zcl (zwM adM adM_tape adM_frameAt adM_field adM_draft adM_given adM_low adM_high adM_packet adM_known cB cI cL sM) H) (hD : va_D A (zwM adM adM_tape adM_frameAt adM_field adM_draft adM_given adM_low adM_high adM_packet adM_known cB cI cL sM)) (hS : va_S A s.heap H locs) (ls : Array Slot) (hl : lv_has ls 1 [(0, .ref adM)]) : W p l e R s m args below meth c H locs 0 0 (MQ below (q_M_forget dC dI cB cI cL A adM adM_tape adM_frameAt adM_field adM_draft adM_given adM_low adM_high adM_packet adM_known a) args s 0 0 A) (F0 m 0 ls []) := by
  obtain ⟨hx, hb, hr, hml, hown, hts, hlocks, hRf, hRl⟩ := id X
  unfold g_M_forget at hG
  refine lv_aload_n hx hb d_M_forget_0 rfl (lv_at hl 0 rfl) ?_
  obtain ⟨a_1, hx_1, hG⟩ := zb hG
  have hr_1 := zrunV (p := p) (e := e) (below := below) (meth := meth) (As := []) (rest := []) (st0 := [.ref adM]) (cells := 0) (slots := 0) X zz hP hD hS hA [0, 1, 2, 3, 4, 5, 6, 7, 8, 9] (by decide) rfl (c_M_begin l dC dI cB cI cL H.size adM adM_tape adM_frameAt adM_field adM_draft adM_given adM_low adM_high adM_packet adM_known sM _ hx_1) zy_M_begin zv_M_begin (hts (.methodLink R_M 100 y_M_begin) zin_M_100) hl rfl rfl d_M_forget_1 (lv_room (Nat.le_of_ble_eq_true rfl)) rfl rfl ⟨Nat.le_trans (Nat.le_of_ble_eq_true rfl) hRf, Nat.le_trans (Nat.le_of_ble_eq_true rfl) hRl⟩ ⟨Nat.zero_le _, Nat.zero_le _⟩ 0 8 rfl rfl
  refine zcallv (wr := ([] : va_W)) hr_1 hP hD hS hA [0, 1, 2, 3, 4, 5, 6, 7, 8, 9] [] rfl rfl (by decide) (by decide) (fun u_1 H locs hw_1 hP hD hS => ?_)
  obtain ⟨sM_1, rfl⟩ : ∃ z, z = u_1 := ⟨_, rfl⟩
  subst hw_1
  have hP : va_P (dC, dI) zcl (zwM adM adM_tape adM_frameAt adM_field adM_draft adM_given adM_low adM_high adM_packet adM_known cB cI cL sM_1) H := hP
  have hD : va_D A (zwM adM adM_tape adM_frameAt adM_field adM_draft adM_given adM_low adM_high adM_packet adM_known cB cI cL sM_1) := hD
  have hG : g_M_forget_c1 N sM_1 = some a := hG
  unfold g_M_forget_c1 at hG
  refine lv_aload_n hx hb d_M_forget_4 rfl (lv_at hl 0 rfl) ?_
  obtain ⟨a_5, hx_5, hG⟩ := zb hG
  have hr_5 := zrunV (p := p) (e := e) (below := below) (meth := meth) (As := []) (rest := []) (st0 := [.ref adM]) (cells := 0) (slots := 0) X zz hP hD hS hA [0, 1, 2, 3, 4, 5, 6, 7, 8, 9] (by decide) rfl (c_M_forgetParameters l dC dI cB cI cL H.size adM adM_tape adM_frameAt adM_field adM_draft adM_given adM_low adM_high adM_packet adM_known N sM_1 _ hx_5) zy_M_forgetParameters zv_M_forgetParameters (hts (.methodLink R_M 103 y_M_forgetParameters) zin_M_103) hl rfl rfl d_M_forget_5 (lv_room (Nat.le_of_ble_eq_true rfl)) rfl rfl ⟨Nat.le_trans (Nat.le_of_ble_eq_true rfl) hRf, Nat.le_trans (Nat.le_of_ble_eq_true rfl) hRl⟩ ⟨Nat.zero_le _, Nat.zero_le _⟩ 0 8 rfl rfl
  refine zcallv (wr := ([] : va_W)) hr_5 hP hD hS hA [0, 1, 2, 3, 4, 5, 6, 7, 8, 9] [] rfl rfl (by decide) (by decide) (fun u_5 H locs hw_5 hP hD hS => ?_)
  obtain ⟨sM_5, rfl⟩ : ∃ z, z = u_5 := ⟨_, rfl⟩
  subst hw_5
  have hP : va_P (dC, dI) zcl (zwM adM adM_tape adM_frameAt adM_field adM_draft adM_given adM_low adM_high adM_packet adM_known cB cI cL sM_5) H := hP
  have hD : va_D A (zwM adM adM_tape adM_frameAt adM_field adM_draft adM_given adM_low adM_high adM_packet adM_known cB cI cL sM_5) := hD
  have hG : g_M_forget_c5 sM_5 = some a := hG
  unfold g_M_forget_c5 at hG
  exact W.vret hx hb hr (fun t9 ht9 hW9 => ⟨⟨(sM_5), rfl, Option.some.inj hG, by rw [ht9]; exact hP, hD⟩, hS.F ht9⟩) hS.2.2 d_M_forget_8
set_option maxRecDepth 100000 in
set_option maxHeartbeats 4000000 in
theorem c_M_forget (l : Launch) (dC : Nat → ClassId) (dI : Nat → Nat → Nat) (cB cI cL : ClassId) (sz : Nat) (adM adM_tape adM_frameAt adM_field adM_draft adM_given adM_low adM_high adM_packet adM_known : Nat) (N : Nat) (sM : zM) (a : zM) (hG : g_M_forget N sM = some a) : Met l y_M_forget (zw y_M_forget b_M_forget 1 none) ({ frames := 2, cells := 0, slots := 0, locals := 41 }) (va_Pc [.ref adM] (zpre dC dI cB cI cL sz (zwM adM adM_tape adM_frameAt adM_field adM_draft adM_given adM_low adM_high adM_packet adM_known cB cI cL sM))) (q_M_forget dC dI cB cI cL (va_A (zwM adM adM_tape adM_frameAt adM_field adM_draft adM_given adM_low adM_high adM_packet adM_known cB cI cL sM) sz) adM adM_tape adM_frameAt adM_field adM_draft adM_given adM_low adM_high adM_packet adM_known a) 0 0 (va_A (zwM adM adM_tape adM_frameAt adM_field adM_draft adM_given adM_low adM_high adM_packet adM_known cB cI cL sM) sz) := by
  refine Met.ofW (cc := b_M_forget) (maxL := 1) (ret := none) (by decide) rfl ?_
  intro p e s m args below meth c s₁ B hml hv
  obtain ⟨rfl, hsz, hP, zz, hD0⟩ := hv
  subst hsz
  have X := zx_of (F := 2) (L := 41) B hml (Nat.le_refl _) (Nat.le_refl _)
  have hD := hD0.self (sz := s.heap.size)
  have hA : ∀ q : Nat, s.heap.size ≤ q → va_A (zwM adM adM_tape adM_frameAt adM_field adM_draft adM_given adM_low adM_high adM_packet adM_known cB cI cL sM) s.heap.size q := fun q h => Or.inr h
  have hl := lv_entry ([.ref adM]) (n := 1) (Nat.le_of_ble_eq_true rfl)
  rw [lg_entry_eq]
  generalize (lg_sl ([.ref adM]) ++ List.replicate (1 - (lg_sl ([.ref adM])).length) Slot.unset).toArray = ls at hl ⊢
  exact k_M_forget_0 X hA zz N sM a hG adM adM_tape adM_frameAt adM_field adM_draft adM_given adM_low adM_high adM_packet adM_known _ _ hP hD va_S.rf ls hl
noncomputable def g_M_clear_c16 (sM_2 : zM) (sM_16 : zM) : Option (Int32 × zM) := some (zM_size sM_2, sM_16)
noncomputable def g_M_clear_w12 (N : Nat) (sM_2 : zM) (sM_12 : zM) : Option (Int32 × zM) := (g_M_forget N sM_12).bind (fun a => g_M_clear_c16 sM_2 a)
noncomputable def g_M_clear_w2 (N : Nat) (sM_2 : zM) : Option (Int32 × zM) := g_M_clear_w12 N sM_2 (zM_size' sM_2 (0 : Int32))
noncomputable def g_M_clear (N : Nat) (sM : zM) : Option (Int32 × zM) := g_M_clear_w2 N (zM_thrown' sM (0 : Int32))
def q_M_clear (dC : Nat → ClassId) (dI : Nat → Nat → Nat) (cB cI cL : ClassId) (A : Nat → Prop) (adM : Nat) (adM_tape : Nat) (adM_frameAt : Nat) (adM_field : Nat) (adM_draft : Nat) (adM_given : Nat) (adM_low : Nat) (adM_high : Nat) (adM_packet : Nat) (adM_known : Nat) (a : Int32 × zM) : Array Value → State → Outcome → State → Prop := va_Qi (fun (r : Int32) (u : zM) => (r, u) = a) (fun u U => va_P (dC, dI) zcl (zwM adM adM_tape adM_frameAt adM_field adM_draft adM_given adM_low adM_high adM_packet adM_known cB cI cL u) U.heap ∧ va_D A (zwM adM adM_tape adM_frameAt adM_field adM_draft adM_given adM_low adM_high adM_packet adM_known cB cI cL u)) A
set_option maxRecDepth 100000 in
set_option maxHeartbeats 4000000 in
theorem k_M_clear_0 {p : Program} {l : Launch} {e : Env} {R : Room} {s : State} {m : MethodId} {args : Array Value} {below : List Frame} {meth : Method} {c : Code} {dC : Nat → ClassId} {dI : Nat → Nat → Nat} {cB cI cL : ClassId} {A : Nat → Prop} (X : zx p s m args meth c R R_M b_M_clear (some .int) 2 3 61) (hA : ∀ q, s.heap.size ≤ q → A q) (zz : zk dC dI cB cI cL A s)  (N : Nat) (sM : zM) (a : Int32 × zM) (hG : g_M_clear N sM = some a) (adM adM_tape adM_frameAt adM_field adM_draft adM_given adM_low adM_high adM_packet adM_known : Nat) (H : Heap) (locs : List Loc) (hP : va_P (dC, dI) zcl (zwM adM adM_tape adM_frameAt adM_field adM_draft adM_given adM_low adM_high adM_packet adM_known cB cI cL sM) H) (hD : va_D A (zwM adM adM_tape adM_frameAt adM_field adM_draft adM_given adM_low adM_high adM_packet adM_known cB cI cL sM)) (hS : va_S A s.heap H locs) (ls : Array Slot) (hl : lv_has ls 2 [(0, .ref adM)]) : W p l e R s m args below meth c H locs 0 0 (MQ below (q_M_clear dC dI cB cI cL A adM adM_tape adM_frameAt adM_field adM_draft adM_given adM_low adM_high adM_packet adM_known a) args s 0 0 A) (F0 m 0 ls []) := by
  obtain ⟨hx, hb, hr, hml, hown, hts, hlocks, hRf, hRl⟩ := id X
  unfold g_M_clear at hG
  refine lv_aload_n hx hb d_M_clear_0 rfl (lv_at hl 0 rfl) ?_
  refine lv_iconst (v := (0 : Int32)) hx hb d_M_clear_1 (by decide) ?_
  refine va_put (D := (dC, dI)) (ci := 8) (v := .int (0 : Int32)) (ty := .int) (C := R_M) (T := F_M) (N := 26) hx hb hts zi_M zty_M zty_M_ok znm_M hown zz.1 hP hD hS 0 rfl rfl 0 (by decide) (hts (.fieldLink R_M 48 "WireCodecModel" "thrown" "I") zin_M_48) (fun _ h9 => h9) rfl (by decide +kernel) rfl rfl (Nat.le_of_ble_eq_true rfl) d_M_clear_2 (fun H locs hP hD hS => ?_)
  have hP := zp_M_thrown hP
  have hD := zd_M_thrown hD
  have hG : g_M_clear_w2 N (zM_thrown' sM (0 : Int32)) = some a := hG
  generalize zM_thrown' sM (0 : Int32) = sM_2 at hP hD hG
  unfold g_M_clear_w2 at hG
  refine lv_aload_n hx hb d_M_clear_5 rfl (lv_at hl 0 rfl) ?_
  refine va_get (D := (dC, dI)) (ci := 8) (v := .int (zM_size sM_2)) (C := R_M) (T := F_M) (N := 26) hx hb hts zi_M hown zz.1 hP 0 rfl rfl 2 (by decide) (hts (.fieldLink R_M 57 "WireCodecModel" "size" "I") zin_M_57) (fun _ h9 => h9) rfl d_M_clear_6 ?_
  refine lv_istore_n (lv' := [(1, .int (zM_size sM_2)), (0, .ref adM)]) hx hb d_M_clear_9 rfl hl (by decide) rfl (fun ls hl => ?_)
  refine lv_aload_n hx hb d_M_clear_10 rfl (lv_at hl 1 rfl) ?_
  refine lv_iconst (v := (0 : Int32)) hx hb d_M_clear_11 (by decide) ?_
  refine va_put (D := (dC, dI)) (ci := 8) (v := .int (0 : Int32)) (ty := .int) (C := R_M) (T := F_M) (N := 26) hx hb hts zi_M zty_M zty_M_ok znm_M hown zz.1 hP hD hS 0 rfl rfl 2 (by decide) (hts (.fieldLink R_M 57 "WireCodecModel" "size" "I") zin_M_57) (fun _ h9 => h9) rfl (by decide +kernel) rfl rfl (Nat.le_of_ble_eq_true rfl) d_M_clear_12 (fun H locs hP hD hS => ?_)
  have hP := zp_M_size hP
  have hD := zd_M_size hD
  have hG : g_M_clear_w12 N sM_2 (zM_size' sM_2 (0 : Int32)) = some a := hG
  generalize zM_size' sM_2 (0 : Int32) = sM_12 at hP hD hG
  unfold g_M_clear_w12 at hG
  refine lv_aload_n hx hb d_M_clear_15 rfl (lv_at hl 1 rfl) ?_
  obtain ⟨a_16, hx_16, hG⟩ := zb hG
  have hr_16 := zrunV (p := p) (e := e) (below := below) (meth := meth) (As := []) (rest := []) (st0 := [.ref adM]) (cells := 0) (slots := 0) X zz hP hD hS hA [0, 1, 2, 3, 4, 5, 6, 7, 8, 9] (by decide) rfl (c_M_forget l dC dI cB cI cL H.size adM adM_tape adM_frameAt adM_field adM_draft adM_given adM_low adM_high adM_packet adM_known N sM_12 _ hx_16) zy_M_forget zv_M_forget (hts (.methodLink R_M 45 y_M_forget) zin_M_45) hl rfl rfl d_M_clear_16 (lv_room (Nat.le_of_ble_eq_true rfl)) rfl rfl ⟨Nat.le_trans (Nat.le_of_ble_eq_true rfl) hRf, Nat.le_trans (Nat.le_of_ble_eq_true rfl) hRl⟩ ⟨Nat.zero_le _, Nat.zero_le _⟩ 0 8 rfl rfl
  refine zcallv (wr := ([] : va_W)) hr_16 hP hD hS hA [0, 1, 2, 3, 4, 5, 6, 7, 8, 9] [] rfl rfl (by decide) (by decide) (fun u_16 H locs hw_16 hP hD hS => ?_)
  obtain ⟨sM_16, rfl⟩ : ∃ z, z = u_16 := ⟨_, rfl⟩
  subst hw_16
  have hP : va_P (dC, dI) zcl (zwM adM adM_tape adM_frameAt adM_field adM_draft adM_given adM_low adM_high adM_packet adM_known cB cI cL sM_16) H := hP
  have hD : va_D A (zwM adM adM_tape adM_frameAt adM_field adM_draft adM_given adM_low adM_high adM_packet adM_known cB cI cL sM_16) := hD
  have hG : g_M_clear_c16 sM_2 sM_16 = some a := hG
  unfold g_M_clear_c16 at hG
  refine lv_iload_n hx hb d_M_clear_19 rfl (lv_at hl 0 rfl) ?_
  exact W.iret (v := zM_size sM_2) hx hb hr (fun t9 ht9 hW9 => ⟨⟨zM_size sM_2, (sM_16), rfl, Option.some.inj hG, by rw [ht9]; exact hP, hD⟩, hS.F ht9⟩) hS.2.2 d_M_clear_20
set_option maxRecDepth 100000 in
set_option maxHeartbeats 4000000 in
theorem c_M_clear (l : Launch) (dC : Nat → ClassId) (dI : Nat → Nat → Nat) (cB cI cL : ClassId) (sz : Nat) (adM adM_tape adM_frameAt adM_field adM_draft adM_given adM_low adM_high adM_packet adM_known : Nat) (N : Nat) (sM : zM) (a : Int32 × zM) (hG : g_M_clear N sM = some a) : Met l y_M_clear (zw y_M_clear b_M_clear 2 (some .int)) ({ frames := 3, cells := 0, slots := 0, locals := 61 }) (va_Pc [.ref adM] (zpre dC dI cB cI cL sz (zwM adM adM_tape adM_frameAt adM_field adM_draft adM_given adM_low adM_high adM_packet adM_known cB cI cL sM))) (q_M_clear dC dI cB cI cL (va_A (zwM adM adM_tape adM_frameAt adM_field adM_draft adM_given adM_low adM_high adM_packet adM_known cB cI cL sM) sz) adM adM_tape adM_frameAt adM_field adM_draft adM_given adM_low adM_high adM_packet adM_known a) 0 0 (va_A (zwM adM adM_tape adM_frameAt adM_field adM_draft adM_given adM_low adM_high adM_packet adM_known cB cI cL sM) sz) := by
  refine Met.ofW (cc := b_M_clear) (maxL := 2) (ret := (some .int)) (by decide) rfl ?_
  intro p e s m args below meth c s₁ B hml hv
  obtain ⟨rfl, hsz, hP, zz, hD0⟩ := hv
  subst hsz
  have X := zx_of (F := 3) (L := 61) B hml (Nat.le_refl _) (Nat.le_refl _)
  have hD := hD0.self (sz := s.heap.size)
  have hA : ∀ q : Nat, s.heap.size ≤ q → va_A (zwM adM adM_tape adM_frameAt adM_field adM_draft adM_given adM_low adM_high adM_packet adM_known cB cI cL sM) s.heap.size q := fun q h => Or.inr h
  have hl := lv_entry ([.ref adM]) (n := 2) (Nat.le_of_ble_eq_true rfl)
  rw [lg_entry_eq]
  generalize (lg_sl ([.ref adM]) ++ List.replicate (2 - (lg_sl ([.ref adM])).length) Slot.unset).toArray = ls at hl ⊢
  exact k_M_clear_0 X hA zz N sM a hG adM adM_tape adM_frameAt adM_field adM_draft adM_given adM_low adM_high adM_packet adM_known _ _ hP hD va_S.rf ls hl
noncomputable def g_M_takeFields_62 (N : Nat) (kr : zM → Int32 → Option (zM)) (sM : zM) (v2 : Int32) : Option (zM) := kr sM (v2 / (10 : Int32))
noncomputable def g_M_takeFields_w61 (N : Nat) (kr : zM → Int32 → Option (zM)) (v2 : Int32) (sM_61 : zM) : Option (zM) := g_M_takeFields_62 N kr sM_61 v2
noncomputable def g_M_takeFields_c58 (N : Nat) (kr : zM → Int32 → Option (zM)) (v2 : Int32) (sM_58 : zM) (r_58 : Int64) : Option (zM) := zg (vp_in ((v2 - v2 / (10 : Int32) * (10 : Int32)) - (1 : Int32)) 12) (g_M_takeFields_w61 N kr v2 (zM_field' sM_58 (vp_updL (zM_field sM_58) (((v2 - v2 / (10 : Int32) * (10 : Int32)) - (1 : Int32)).toNatClampNeg) r_58)))
noncomputable def g_M_takeFields_c44 (N : Nat) (kr : zM → Int32 → Option (zM)) (v2 : Int32) (sM_44 : zM) : Option (zM) := g_M_takeFields_62 N kr sM_44 v2
noncomputable def g_M_takeFields_c41 (N : Nat) (kr : zM → Int32 → Option (zM)) (v2 : Int32) (sM_41 : zM) (r_41 : Int64) : Option (zM) := (g_M_takeData sM_41 r_41).bind (fun a => g_M_takeFields_c44 N kr v2 a)
noncomputable def g_M_takeFields_w30 (N : Nat) (kr : zM → Int32 → Option (zM)) (v2 : Int32) (sM_30 : zM) : Option (zM) := g_M_takeFields_62 N kr sM_30 v2
noncomputable def g_M_takeFields_c27 (N : Nat) (kr : zM → Int32 → Option (zM)) (v2 : Int32) (sM_27 : zM) (r_27 : Int64) : Option (zM) := zg (vp_in (0 : Int32) 12) (g_M_takeFields_w30 N kr v2 (zM_field' sM_27 (vp_updL (zM_field sM_27) ((0 : Int32).toNatClampNeg) r_27)))
noncomputable def g_M_takeFields_5_b (N : Nat) (kr : zM → Int32 → Option (zM)) (sM : zM) (v2 : Int32) : Option (zM) := if v2 ≤ (0 : Int32) then (some (sM)) else (if (v2 - v2 / (10 : Int32) * (10 : Int32)) = (5 : Int32) then ((g_M_take N sM (8 : Int32)).bind (fun a => g_M_takeFields_c27 N kr v2 a.2 a.1)) else (if (v2 - v2 / (10 : Int32) * (10 : Int32)) = (4 : Int32) then ((g_M_takeNumber N sM).bind (fun a => g_M_takeFields_c41 N kr v2 a.2 a.1)) else ((g_M_takeNumber N sM).bind (fun a => g_M_takeFields_c58 N kr v2 a.2 a.1))))
noncomputable def g_M_takeFields_5 (N : Nat) : Nat → zM → Int32 → Option (zM)
  | 0 => fun _ _ => none
  | k + 1 => fun sM v2 => g_M_takeFields_5_b N (g_M_takeFields_5 N k) sM v2
noncomputable def g_M_takeFields_c1 (N : Nat) (sM : zM) (r_1 : Int32) : Option (zM) := g_M_takeFields_5 N N sM r_1
noncomputable def g_M_takeFields (N : Nat) (sM : zM) (v1 : Int32) : Option (zM) := (g_M_fields v1).bind (fun a => g_M_takeFields_c1 N sM a)
def q_M_takeFields (dC : Nat → ClassId) (dI : Nat → Nat → Nat) (cB cI cL : ClassId) (A : Nat → Prop) (adM : Nat) (adM_tape : Nat) (adM_frameAt : Nat) (adM_field : Nat) (adM_draft : Nat) (adM_given : Nat) (adM_low : Nat) (adM_high : Nat) (adM_packet : Nat) (adM_known : Nat) (a : zM) : Array Value → State → Outcome → State → Prop := va_Qv (fun (u : zM) => (u) = a) (fun u U => va_P (dC, dI) zcl (zwM adM adM_tape adM_frameAt adM_field adM_draft adM_given adM_low adM_high adM_packet adM_known cB cI cL u) U.heap ∧ va_D A (zwM adM adM_tape adM_frameAt adM_field adM_draft adM_given adM_low adM_high adM_packet adM_known cB cI cL u)) A
set_option maxRecDepth 100000 in
set_option maxHeartbeats 4000000 in
theorem k_M_takeFields_62 {p : Program} {l : Launch} {e : Env} {R : Room} {s : State} {m : MethodId} {args : Array Value} {below : List Frame} {meth : Method} {c : Code} {dC : Nat → ClassId} {dI : Nat → Nat → Nat} {cB cI cL : ClassId} {A : Nat → Prop} (kr : zM → Int32 → Option (zM)) (hrec : ∀ (sM : zM) (v2 : Int32) (a : zM), kr sM v2 = some a → ∀ (adM adM_tape adM_frameAt adM_field adM_draft adM_given adM_low adM_high adM_packet adM_known : Nat) (H : Heap) (locs : List Loc), va_P (dC, dI) zcl (zwM adM adM_tape adM_frameAt adM_field adM_draft adM_given adM_low adM_high adM_packet adM_known cB cI cL sM) H → va_D A (zwM adM adM_tape adM_frameAt adM_field adM_draft adM_given adM_low adM_high adM_packet adM_known cB cI cL sM) → va_S A s.heap H locs → ∀ ls : Array Slot, lv_has ls 4 [(0, .ref adM), (2, .int v2)] → W p l e R s m args below meth c H locs 0 0 (MQ below (q_M_takeFields dC dI cB cI cL A adM adM_tape adM_frameAt adM_field adM_draft adM_given adM_low adM_high adM_packet adM_known a) args s 0 0 A) (F0 m 5 ls [])) (X : zx p s m args meth c R R_M b_M_takeFields none 4 3 68) (hA : ∀ q, s.heap.size ≤ q → A q) (zz : zk dC dI cB cI cL A s)  (N : Nat) (sM : zM) (v2 : Int32) (a : zM) (hG : g_M_takeFields_62 N kr sM v2 = some a) (adM adM_tape adM_frameAt adM_field adM_draft adM_given adM_low adM_high adM_packet adM_known : Nat) (H : Heap) (locs : List Loc) (hP : va_P (dC, dI) zcl (zwM adM adM_tape adM_frameAt adM_field adM_draft adM_given adM_low adM_high adM_packet adM_known cB cI cL sM) H) (hD : va_D A (zwM adM adM_tape adM_frameAt adM_field adM_draft adM_given adM_low adM_high adM_packet adM_known cB cI cL sM)) (hS : va_S A s.heap H locs) (ls : Array Slot) (hl : lv_has ls 4 [(0, .ref adM), (2, .int v2)]) : W p l e R s m args below meth c H locs 0 0 (MQ below (q_M_takeFields dC dI cB cI cL A adM adM_tape adM_frameAt adM_field adM_draft adM_given adM_low adM_high adM_packet adM_known a) args s 0 0 A) (F0 m 62 ls []) := by
  obtain ⟨hx, hb, hr, hml, hown, hts, hlocks, hRf, hRl⟩ := id X
  unfold g_M_takeFields_62 at hG
  refine lv_iload_n hx hb d_M_takeFields_62 rfl (lv_at hl 1 rfl) ?_
  refine lv_bipush (v := (10 : Int32)) hx hb d_M_takeFields_63 (by decide) ?_
  refine lv_idiv hx hb d_M_takeFields_65 (by decide) ?_
  refine lv_istore_n (lv' := [(2, .int (v2 / (10 : Int32))), (0, .ref adM)]) hx hb d_M_takeFields_66 rfl hl (by decide) rfl (fun ls hl => ?_)
  refine lv_goto (tgt := 5) hx hb d_M_takeFields_67 (by decide) ?_
  exact hrec sM (v2 / (10 : Int32)) _ hG adM adM_tape adM_frameAt adM_field adM_draft adM_given adM_low adM_high adM_packet adM_known _ _ hP hD hS _ (lv_sub hl [1, 0] rfl)
set_option maxRecDepth 100000 in
set_option maxHeartbeats 4000000 in
theorem k_M_takeFields_5_b {p : Program} {l : Launch} {e : Env} {R : Room} {s : State} {m : MethodId} {args : Array Value} {below : List Frame} {meth : Method} {c : Code} {dC : Nat → ClassId} {dI : Nat → Nat → Nat} {cB cI cL : ClassId} {A : Nat → Prop} (kr : zM → Int32 → Option (zM)) (hrec : ∀ (sM : zM) (v2 : Int32) (a : zM), kr sM v2 = some a → ∀ (adM adM_tape adM_frameAt adM_field adM_draft adM_given adM_low adM_high adM_packet adM_known : Nat) (H : Heap) (locs : List Loc), va_P (dC, dI) zcl (zwM adM adM_tape adM_frameAt adM_field adM_draft adM_given adM_low adM_high adM_packet adM_known cB cI cL sM) H → va_D A (zwM adM adM_tape adM_frameAt adM_field adM_draft adM_given adM_low adM_high adM_packet adM_known cB cI cL sM) → va_S A s.heap H locs → ∀ ls : Array Slot, lv_has ls 4 [(0, .ref adM), (2, .int v2)] → W p l e R s m args below meth c H locs 0 0 (MQ below (q_M_takeFields dC dI cB cI cL A adM adM_tape adM_frameAt adM_field adM_draft adM_given adM_low adM_high adM_packet adM_known a) args s 0 0 A) (F0 m 5 ls [])) (X : zx p s m args meth c R R_M b_M_takeFields none 4 3 68) (hA : ∀ q, s.heap.size ≤ q → A q) (zz : zk dC dI cB cI cL A s)  (N : Nat) (sM : zM) (v2 : Int32) (a : zM) (hG : g_M_takeFields_5_b N kr sM v2 = some a) (adM adM_tape adM_frameAt adM_field adM_draft adM_given adM_low adM_high adM_packet adM_known : Nat) (H : Heap) (locs : List Loc) (hP : va_P (dC, dI) zcl (zwM adM adM_tape adM_frameAt adM_field adM_draft adM_given adM_low adM_high adM_packet adM_known cB cI cL sM) H) (hD : va_D A (zwM adM adM_tape adM_frameAt adM_field adM_draft adM_given adM_low adM_high adM_packet adM_known cB cI cL sM)) (hS : va_S A s.heap H locs) (ls : Array Slot) (hl : lv_has ls 4 [(0, .ref adM), (2, .int v2)]) : W p l e R s m args below meth c H locs 0 0 (MQ below (q_M_takeFields dC dI cB cI cL A adM adM_tape adM_frameAt adM_field adM_draft adM_given adM_low adM_high adM_packet adM_known a) args s 0 0 A) (F0 m 5 ls []) := by
  obtain ⟨hx, hb, hr, hml, hown, hts, hlocks, hRf, hRl⟩ := id X
  unfold g_M_takeFields_5_b at hG
  refine lv_iload_n hx hb d_M_takeFields_5 rfl (lv_at hl 1 rfl) ?_
  refine lv_if_le (tgt := 70) hx hb d_M_takeFields_6 (by decide) (fun hc => ?_) (fun hc => ?_)
  · have hG := zt hG hc
    exact W.vret hx hb hr (fun t9 ht9 hW9 => ⟨⟨(sM), rfl, Option.some.inj hG, by rw [ht9]; exact hP, hD⟩, hS.F ht9⟩) hS.2.2 d_M_takeFields_70
  · have hG := zf hG hc
    refine lv_iload_n hx hb d_M_takeFields_9 rfl (lv_at hl 1 rfl) ?_
    refine lv_bipush (v := (10 : Int32)) hx hb d_M_takeFields_10 (by decide) ?_
    refine lv_irem hx hb d_M_takeFields_12 (by decide) ?_
    refine lv_istore_n (lv' := [(3, .int (v2 - v2 / (10 : Int32) * (10 : Int32))), (0, .ref adM), (2, .int v2)]) hx hb d_M_takeFields_13 rfl hl (by decide) rfl (fun ls hl => ?_)
    refine lv_iload_n hx hb d_M_takeFields_14 rfl (lv_at hl 0 rfl) ?_
    refine lv_iconst (v := (5 : Int32)) hx hb d_M_takeFields_15 (by decide) ?_
    refine lv_icmp_ne (tgt := 34) hx hb d_M_takeFields_16 (by decide) (fun hc => ?_) (fun hc => ?_)
    · have hG := zf hG hc
      refine lv_iload_n hx hb d_M_takeFields_34 rfl (lv_at hl 0 rfl) ?_
      refine lv_iconst (v := (4 : Int32)) hx hb d_M_takeFields_35 (by decide) ?_
      refine lv_icmp_ne (tgt := 50) hx hb d_M_takeFields_36 (by decide) (fun hc => ?_) (fun hc => ?_)
      · have hG := zf hG hc
        refine lv_aload_n hx hb d_M_takeFields_50 rfl (lv_at hl 1 rfl) ?_
        refine va_get (D := (dC, dI)) (ci := 8) (v := .ref adM_field) (C := R_M) (T := F_M) (N := 26) hx hb hts zi_M hown zz.1 hP 0 rfl rfl 8 (by decide) (hts (.fieldLink R_M 22 "WireCodecModel" "field" "[J") zin_M_22) (fun _ h9 => h9) rfl d_M_takeFields_51 ?_
        refine lv_iload_n hx hb d_M_takeFields_54 rfl (lv_at hl 0 rfl) ?_
        refine lv_iconst (v := (1 : Int32)) hx hb d_M_takeFields_55 (by decide) ?_
        refine lv_isub hx hb d_M_takeFields_56 ?_
        refine lv_aload_n hx hb d_M_takeFields_57 rfl (lv_at hl 1 rfl) ?_
        obtain ⟨a_58, hx_58, hG⟩ := zb hG
        have hr_58 := zrunV (p := p) (e := e) (below := below) (meth := meth) (As := []) (rest := [.int ((v2 - v2 / (10 : Int32) * (10 : Int32)) - (1 : Int32)), .ref adM_field]) (st0 := [.ref adM, .int ((v2 - v2 / (10 : Int32) * (10 : Int32)) - (1 : Int32)), .ref adM_field]) (cells := 0) (slots := 0) X zz hP hD hS hA [0, 1, 2, 3, 4, 5, 6, 7, 8, 9] (by decide) rfl (c_M_takeNumber l dC dI cB cI cL H.size adM adM_tape adM_frameAt adM_field adM_draft adM_given adM_low adM_high adM_packet adM_known N sM _ hx_58) zy_M_takeNumber zv_M_takeNumber (hts (.methodLink R_M 128 y_M_takeNumber) zin_M_128) hl rfl rfl d_M_takeFields_58 (lv_room (Nat.le_of_ble_eq_true rfl)) rfl rfl ⟨Nat.le_trans (Nat.le_of_ble_eq_true rfl) hRf, Nat.le_trans (Nat.le_of_ble_eq_true rfl) hRl⟩ ⟨Nat.zero_le _, Nat.zero_le _⟩ 0 8 rfl rfl
        refine zcalll (wr := ([] : va_W)) hr_58 hP hD hS hA [0, 1, 2, 3, 4, 5, 6, 7, 8, 9] [] rfl rfl (by decide) (by decide) (fun r_58 u_58 H locs hw_58 hP hD hS => ?_)
        obtain ⟨sM_58, rfl⟩ : ∃ z, z = u_58 := ⟨_, rfl⟩
        subst hw_58
        have hP : va_P (dC, dI) zcl (zwM adM adM_tape adM_frameAt adM_field adM_draft adM_given adM_low adM_high adM_packet adM_known cB cI cL sM_58) H := hP
        have hD : va_D A (zwM adM adM_tape adM_frameAt adM_field adM_draft adM_given adM_low adM_high adM_packet adM_known cB cI cL sM_58) := hD
        have hG : g_M_takeFields_c58 N kr v2 sM_58 r_58 = some a := hG
        unfold g_M_takeFields_c58 at hG
        obtain ⟨hin, hG⟩ := zgd hG
        refine va_last hx hb zz.1 hP hD hS 3 2 rfl rfl hin d_M_takeFields_61 (fun H locs hP hD hS => ?_)
        have hP := zp_M_field hP
        have hD := zd_M_field hD
        have hG : g_M_takeFields_w61 N kr v2 (zM_field' sM_58 (vp_updL (zM_field sM_58) (((v2 - v2 / (10 : Int32) * (10 : Int32)) - (1 : Int32)).toNatClampNeg) r_58)) = some a := hG
        generalize zM_field' sM_58 (vp_updL (zM_field sM_58) (((v2 - v2 / (10 : Int32) * (10 : Int32)) - (1 : Int32)).toNatClampNeg) r_58) = sM_61 at hP hD hG
        unfold g_M_takeFields_w61 at hG
        exact k_M_takeFields_62 kr hrec X hA zz N sM_61 v2 _ hG adM adM_tape adM_frameAt adM_field adM_draft adM_given adM_low adM_high adM_packet adM_known _ _ hP hD hS _ (lv_sub hl [1, 2] rfl)
      · have hG := zt hG hc
        refine lv_aload_n hx hb d_M_takeFields_39 rfl (lv_at hl 1 rfl) ?_
        refine lv_aload_n hx hb d_M_takeFields_40 rfl (lv_at hl 1 rfl) ?_
        obtain ⟨a_41, hx_41, hG⟩ := zb hG
        have hr_41 := zrunV (p := p) (e := e) (below := below) (meth := meth) (As := []) (rest := [.ref adM]) (st0 := [.ref adM, .ref adM]) (cells := 0) (slots := 0) X zz hP hD hS hA [0, 1, 2, 3, 4, 5, 6, 7, 8, 9] (by decide) rfl (c_M_takeNumber l dC dI cB cI cL H.size adM adM_tape adM_frameAt adM_field adM_draft adM_given adM_low adM_high adM_packet adM_known N sM _ hx_41) zy_M_takeNumber zv_M_takeNumber (hts (.methodLink R_M 128 y_M_takeNumber) zin_M_128) hl rfl rfl d_M_takeFields_41 (lv_room (Nat.le_of_ble_eq_true rfl)) rfl rfl ⟨Nat.le_trans (Nat.le_of_ble_eq_true rfl) hRf, Nat.le_trans (Nat.le_of_ble_eq_true rfl) hRl⟩ ⟨Nat.zero_le _, Nat.zero_le _⟩ 0 8 rfl rfl
        refine zcalll (wr := ([] : va_W)) hr_41 hP hD hS hA [0, 1, 2, 3, 4, 5, 6, 7, 8, 9] [] rfl rfl (by decide) (by decide) (fun r_41 u_41 H locs hw_41 hP hD hS => ?_)
        obtain ⟨sM_41, rfl⟩ : ∃ z, z = u_41 := ⟨_, rfl⟩
        subst hw_41
        have hP : va_P (dC, dI) zcl (zwM adM adM_tape adM_frameAt adM_field adM_draft adM_given adM_low adM_high adM_packet adM_known cB cI cL sM_41) H := hP
        have hD : va_D A (zwM adM adM_tape adM_frameAt adM_field adM_draft adM_given adM_low adM_high adM_packet adM_known cB cI cL sM_41) := hD
        have hG : g_M_takeFields_c41 N kr v2 sM_41 r_41 = some a := hG
        unfold g_M_takeFields_c41 at hG
        obtain ⟨a_44, hx_44, hG⟩ := zb hG
        have hr_44 := zrunV (p := p) (e := e) (below := below) (meth := meth) (As := [.long r_41]) (rest := []) (st0 := [.long r_41, .ref adM]) (cells := 0) (slots := 0) X zz hP hD hS hA [0, 1, 2, 3, 4, 5, 6, 7, 8, 9] (by decide) rfl (c_M_takeData l dC dI cB cI cL H.size adM adM_tape adM_frameAt adM_field adM_draft adM_given adM_low adM_high adM_packet adM_known sM_41 r_41 _ hx_44) zy_M_takeData zv_M_takeData (hts (.methodLink R_M 137 y_M_takeData) zin_M_137) hl rfl rfl d_M_takeFields_44 (lv_room (Nat.le_of_ble_eq_true rfl)) rfl rfl ⟨Nat.le_trans (Nat.le_of_ble_eq_true rfl) hRf, Nat.le_trans (Nat.le_of_ble_eq_true rfl) hRl⟩ ⟨Nat.zero_le _, Nat.zero_le _⟩ 0 8 rfl rfl
        refine zcallv (wr := ([] : va_W)) hr_44 hP hD hS hA [0, 1, 2, 3, 4, 5, 6, 7, 8, 9] [] rfl rfl (by decide) (by decide) (fun u_44 H locs hw_44 hP hD hS => ?_)
        obtain ⟨sM_44, rfl⟩ : ∃ z, z = u_44 := ⟨_, rfl⟩
        subst hw_44
        have hP : va_P (dC, dI) zcl (zwM adM adM_tape adM_frameAt adM_field adM_draft adM_given adM_low adM_high adM_packet adM_known cB cI cL sM_44) H := hP
        have hD : va_D A (zwM adM adM_tape adM_frameAt adM_field adM_draft adM_given adM_low adM_high adM_packet adM_known cB cI cL sM_44) := hD
        have hG : g_M_takeFields_c44 N kr v2 sM_44 = some a := hG
        unfold g_M_takeFields_c44 at hG
        refine lv_goto (tgt := 62) hx hb d_M_takeFields_47 (by decide) ?_
        exact k_M_takeFields_62 kr hrec X hA zz N sM_44 v2 _ hG adM adM_tape adM_frameAt adM_field adM_draft adM_given adM_low adM_high adM_packet adM_known _ _ hP hD hS _ (lv_sub hl [1, 2] rfl)
    · have hG := zt hG hc
      refine lv_aload_n hx hb d_M_takeFields_19 rfl (lv_at hl 1 rfl) ?_
      refine va_get (D := (dC, dI)) (ci := 8) (v := .ref adM_field) (C := R_M) (T := F_M) (N := 26) hx hb hts zi_M hown zz.1 hP 0 rfl rfl 8 (by decide) (hts (.fieldLink R_M 22 "WireCodecModel" "field" "[J") zin_M_22) (fun _ h9 => h9) rfl d_M_takeFields_20 ?_
      refine lv_iconst (v := (0 : Int32)) hx hb d_M_takeFields_23 (by decide) ?_
      refine lv_aload_n hx hb d_M_takeFields_24 rfl (lv_at hl 1 rfl) ?_
      refine lv_bipush (v := (8 : Int32)) hx hb d_M_takeFields_25 (by decide) ?_
      obtain ⟨a_27, hx_27, hG⟩ := zb hG
      have hr_27 := zrunV (p := p) (e := e) (below := below) (meth := meth) (As := [.int (8 : Int32)]) (rest := [.int (0 : Int32), .ref adM_field]) (st0 := [.int (8 : Int32), .ref adM, .int (0 : Int32), .ref adM_field]) (cells := 0) (slots := 0) X zz hP hD hS hA [0, 1, 2, 3, 4, 5, 6, 7, 8, 9] (by decide) rfl (c_M_take l dC dI cB cI cL H.size adM adM_tape adM_frameAt adM_field adM_draft adM_given adM_low adM_high adM_packet adM_known N sM (8 : Int32) _ hx_27) zy_M_take zv_M_take (hts (.methodLink R_M 120 y_M_take) zin_M_120) hl rfl rfl d_M_takeFields_27 (lv_room (Nat.le_of_ble_eq_true rfl)) rfl rfl ⟨Nat.le_trans (Nat.le_of_ble_eq_true rfl) hRf, Nat.le_trans (Nat.le_of_ble_eq_true rfl) hRl⟩ ⟨Nat.zero_le _, Nat.zero_le _⟩ 0 8 rfl rfl
      refine zcalll (wr := ([] : va_W)) hr_27 hP hD hS hA [0, 1, 2, 3, 4, 5, 6, 7, 8, 9] [] rfl rfl (by decide) (by decide) (fun r_27 u_27 H locs hw_27 hP hD hS => ?_)
      obtain ⟨sM_27, rfl⟩ : ∃ z, z = u_27 := ⟨_, rfl⟩
      subst hw_27
      have hP : va_P (dC, dI) zcl (zwM adM adM_tape adM_frameAt adM_field adM_draft adM_given adM_low adM_high adM_packet adM_known cB cI cL sM_27) H := hP
      have hD : va_D A (zwM adM adM_tape adM_frameAt adM_field adM_draft adM_given adM_low adM_high adM_packet adM_known cB cI cL sM_27) := hD
      have hG : g_M_takeFields_c27 N kr v2 sM_27 r_27 = some a := hG
      unfold g_M_takeFields_c27 at hG
      obtain ⟨hin, hG⟩ := zgd hG
      refine va_last hx hb zz.1 hP hD hS 3 2 rfl rfl hin d_M_takeFields_30 (fun H locs hP hD hS => ?_)
      have hP := zp_M_field hP
      have hD := zd_M_field hD
      have hG : g_M_takeFields_w30 N kr v2 (zM_field' sM_27 (vp_updL (zM_field sM_27) ((0 : Int32).toNatClampNeg) r_27)) = some a := hG
      generalize zM_field' sM_27 (vp_updL (zM_field sM_27) ((0 : Int32).toNatClampNeg) r_27) = sM_30 at hP hD hG
      unfold g_M_takeFields_w30 at hG
      refine lv_goto (tgt := 62) hx hb d_M_takeFields_31 (by decide) ?_
      exact k_M_takeFields_62 kr hrec X hA zz N sM_30 v2 _ hG adM adM_tape adM_frameAt adM_field adM_draft adM_given adM_low adM_high adM_packet adM_known _ _ hP hD hS _ (lv_sub hl [1, 2] rfl)
theorem k_M_takeFields_5 {p : Program} {l : Launch} {e : Env} {R : Room} {s : State} {m : MethodId} {args : Array Value} {below : List Frame} {meth : Method} {c : Code} {dC : Nat → ClassId} {dI : Nat → Nat → Nat} {cB cI cL : ClassId} {A : Nat → Prop} (X : zx p s m args meth c R R_M b_M_takeFields none 4 3 68) (hA : ∀ q, s.heap.size ≤ q → A q) (zz : zk dC dI cB cI cL A s)  (N : Nat) : ∀ (k : Nat) (sM : zM) (v2 : Int32) (a : zM) (hG : g_M_takeFields_5 N k sM v2 = some a) (adM adM_tape adM_frameAt adM_field adM_draft adM_given adM_low adM_high adM_packet adM_known : Nat) (H : Heap) (locs : List Loc) (hP : va_P (dC, dI) zcl (zwM adM adM_tape adM_frameAt adM_field adM_draft adM_given adM_low adM_high adM_packet adM_known cB cI cL sM) H) (hD : va_D A (zwM adM adM_tape adM_frameAt adM_field adM_draft adM_given adM_low adM_high adM_packet adM_known cB cI cL sM)) (hS : va_S A s.heap H locs) (ls : Array Slot) (hl : lv_has ls 4 [(0, .ref adM), (2, .int v2)]), W p l e R s m args below meth c H locs 0 0 (MQ below (q_M_takeFields dC dI cB cI cL A adM adM_tape adM_frameAt adM_field adM_draft adM_given adM_low adM_high adM_packet adM_known a) args s 0 0 A) (F0 m 5 ls []) := by
  intro k
  induction k with
  | zero => intro sM v2 a hG; exact absurd hG (by unfold g_M_takeFields_5; simp)
  | succ k ih => intro sM v2 a hG adM adM_tape adM_frameAt adM_field adM_draft adM_given adM_low adM_high adM_packet adM_known H locs hP hD hS ls hl; exact k_M_takeFields_5_b _ ih X hA zz N sM v2 a hG adM adM_tape adM_frameAt adM_field adM_draft adM_given adM_low adM_high adM_packet adM_known H locs hP hD hS ls hl
set_option maxRecDepth 100000 in
set_option maxHeartbeats 4000000 in
theorem k_M_takeFields_0 {p : Program} {l : Launch} {e : Env} {R : Room} {s : State} {m : MethodId} {args : Array Value} {below : List Frame} {meth : Method} {c : Code} {dC : Nat → ClassId} {dI : Nat → Nat → Nat} {cB cI cL : ClassId} {A : Nat → Prop} (X : zx p s m args meth c R R_M b_M_takeFields none 4 3 68) (hA : ∀ q, s.heap.size ≤ q → A q) (zz : zk dC dI cB cI cL A s)  (N : Nat) (sM : zM) (v1 : Int32) (a : zM) (hG : g_M_takeFields N sM v1 = some a) (adM adM_tape adM_frameAt adM_field adM_draft adM_given adM_low adM_high adM_packet adM_known : Nat) (H : Heap) (locs : List Loc) (hP : va_P (dC, dI) zcl (zwM adM adM_tape adM_frameAt adM_field adM_draft adM_given adM_low adM_high adM_packet adM_known cB cI cL sM) H) (hD : va_D A (zwM adM adM_tape adM_frameAt adM_field adM_draft adM_given adM_low adM_high adM_packet adM_known cB cI cL sM)) (hS : va_S A s.heap H locs) (ls : Array Slot) (hl : lv_has ls 4 [(0, .ref adM), (1, .int v1)]) : W p l e R s m args below meth c H locs 0 0 (MQ below (q_M_takeFields dC dI cB cI cL A adM adM_tape adM_frameAt adM_field adM_draft adM_given adM_low adM_high adM_packet adM_known a) args s 0 0 A) (F0 m 0 ls []) := by
  obtain ⟨hx, hb, hr, hml, hown, hts, hlocks, hRf, hRl⟩ := id X
  unfold g_M_takeFields at hG
  refine lv_iload_n hx hb d_M_takeFields_0 rfl (lv_at hl 1 rfl) ?_
  obtain ⟨a_1, hx_1, hG⟩ := zb hG
  have hr_1 := zrunS (p := p) (e := e) (below := below) (meth := meth) (As := [.int v1]) (rest := []) (st0 := [.int v1]) (cells := 0) (slots := 0) X zz hP hD hS hA [] (by decide) rfl (c_M_fields l dC dI cB cI cL H.size v1 _ hx_1) zy_M_fields zv_M_fields (hts (.methodLink R_M 134 y_M_fields) zin_M_134) hl rfl rfl d_M_takeFields_1 (lv_room (Nat.le_of_ble_eq_true rfl)) rfl rfl ⟨Nat.le_trans (Nat.le_of_ble_eq_true rfl) hRf, Nat.le_trans (Nat.le_of_ble_eq_true rfl) hRl⟩ ⟨Nat.zero_le _, Nat.zero_le _⟩
  refine zcalli (wr := (zwM adM adM_tape adM_frameAt adM_field adM_draft adM_given adM_low adM_high adM_packet adM_known cB cI cL sM)) hr_1 hP hD hS hA [] [0, 1, 2, 3, 4, 5, 6, 7, 8, 9] rfl rfl (by decide) (by decide) (fun r_1 u_1 H locs hw_1 hP hD hS => ?_)
  subst hw_1
  have hP : va_P (dC, dI) zcl (zwM adM adM_tape adM_frameAt adM_field adM_draft adM_given adM_low adM_high adM_packet adM_known cB cI cL sM) H := hP
  have hD : va_D A (zwM adM adM_tape adM_frameAt adM_field adM_draft adM_given adM_low adM_high adM_packet adM_known cB cI cL sM) := hD
  have hG : g_M_takeFields_c1 N sM r_1 = some a := hG
  unfold g_M_takeFields_c1 at hG
  refine lv_istore_n (lv' := [(2, .int r_1), (0, .ref adM), (1, .int v1)]) hx hb d_M_takeFields_4 rfl hl (by decide) rfl (fun ls hl => ?_)
  exact k_M_takeFields_5 X hA zz N N sM r_1 _ hG adM adM_tape adM_frameAt adM_field adM_draft adM_given adM_low adM_high adM_packet adM_known _ _ hP hD hS _ (lv_sub hl [1, 0] rfl)
set_option maxRecDepth 100000 in
set_option maxHeartbeats 4000000 in
theorem c_M_takeFields (l : Launch) (dC : Nat → ClassId) (dI : Nat → Nat → Nat) (cB cI cL : ClassId) (sz : Nat) (adM adM_tape adM_frameAt adM_field adM_draft adM_given adM_low adM_high adM_packet adM_known : Nat) (N : Nat) (sM : zM) (v1 : Int32) (a : zM) (hG : g_M_takeFields N sM v1 = some a) : Met l y_M_takeFields (zw y_M_takeFields b_M_takeFields 4 none) ({ frames := 3, cells := 0, slots := 0, locals := 68 }) (va_Pc [.ref adM, .int v1] (zpre dC dI cB cI cL sz (zwM adM adM_tape adM_frameAt adM_field adM_draft adM_given adM_low adM_high adM_packet adM_known cB cI cL sM))) (q_M_takeFields dC dI cB cI cL (va_A (zwM adM adM_tape adM_frameAt adM_field adM_draft adM_given adM_low adM_high adM_packet adM_known cB cI cL sM) sz) adM adM_tape adM_frameAt adM_field adM_draft adM_given adM_low adM_high adM_packet adM_known a) 0 0 (va_A (zwM adM adM_tape adM_frameAt adM_field adM_draft adM_given adM_low adM_high adM_packet adM_known cB cI cL sM) sz) := by
  refine Met.ofW (cc := b_M_takeFields) (maxL := 4) (ret := none) (by decide) rfl ?_
  intro p e s m args below meth c s₁ B hml hv
  obtain ⟨rfl, hsz, hP, zz, hD0⟩ := hv
  subst hsz
  have X := zx_of (F := 3) (L := 68) B hml (Nat.le_refl _) (Nat.le_refl _)
  have hD := hD0.self (sz := s.heap.size)
  have hA : ∀ q : Nat, s.heap.size ≤ q → va_A (zwM adM adM_tape adM_frameAt adM_field adM_draft adM_given adM_low adM_high adM_packet adM_known cB cI cL sM) s.heap.size q := fun q h => Or.inr h
  have hl := lv_entry ([.ref adM, .int v1]) (n := 4) (Nat.le_of_ble_eq_true rfl)
  rw [lg_entry_eq]
  generalize (lg_sl ([.ref adM, .int v1]) ++ List.replicate (4 - (lg_sl ([.ref adM, .int v1])).length) Slot.unset).toArray = ls at hl ⊢
  exact k_M_takeFields_0 X hA zz N sM v1 a hG adM adM_tape adM_frameAt adM_field adM_draft adM_given adM_low adM_high adM_packet adM_known _ _ hP hD va_S.rf ls hl
noncomputable def g_M_takeName_w23 (sM_23 : zM) : Option (zM) := some (sM_23)
noncomputable def g_M_takeName_c20 (sM_20 : zM) (r_20 : Int32) : Option (zM) := g_M_takeName_w23 (zM_secretAt' sM_20 r_20)
noncomputable def g_M_takeName_c12 (sM_12 : zM) : Option (zM) := (g_M_pass sM_12 (16 : Int64)).bind (fun a => g_M_takeName_c20 a.2 a.1)
noncomputable def g_M_takeName_c9 (sM_9 : zM) (r_9 : Int64) : Option (zM) := (g_M_takeData sM_9 r_9).bind (fun a => g_M_takeName_c12 a)
noncomputable def g_M_takeName_c3 (N : Nat) (sM_3 : zM) : Option (zM) := (g_M_take N sM_3 (1 : Int32)).bind (fun a => g_M_takeName_c9 a.2 a.1)
noncomputable def g_M_takeName (N : Nat) (sM : zM) : Option (zM) := (g_M_takeFields N sM (24 : Int32)).bind (fun a => g_M_takeName_c3 N a)
def q_M_takeName (dC : Nat → ClassId) (dI : Nat → Nat → Nat) (cB cI cL : ClassId) (A : Nat → Prop) (adM : Nat) (adM_tape : Nat) (adM_frameAt : Nat) (adM_field : Nat) (adM_draft : Nat) (adM_given : Nat) (adM_low : Nat) (adM_high : Nat) (adM_packet : Nat) (adM_known : Nat) (a : zM) : Array Value → State → Outcome → State → Prop := va_Qv (fun (u : zM) => (u) = a) (fun u U => va_P (dC, dI) zcl (zwM adM adM_tape adM_frameAt adM_field adM_draft adM_given adM_low adM_high adM_packet adM_known cB cI cL u) U.heap ∧ va_D A (zwM adM adM_tape adM_frameAt adM_field adM_draft adM_given adM_low adM_high adM_packet adM_known cB cI cL u)) A
set_option maxRecDepth 100000 in
set_option maxHeartbeats 4000000 in
theorem k_M_takeName_0 {p : Program} {l : Launch} {e : Env} {R : Room} {s : State} {m : MethodId} {args : Array Value} {below : List Frame} {meth : Method} {c : Code} {dC : Nat → ClassId} {dI : Nat → Nat → Nat} {cB cI cL : ClassId} {A : Nat → Prop} (X : zx p s m args meth c R R_M b_M_takeName none 1 4 91) (hA : ∀ q, s.heap.size ≤ q → A q) (zz : zk dC dI cB cI cL A s)  (N : Nat) (sM : zM) (a : zM) (hG : g_M_takeName N sM = some a) (adM adM_tape adM_frameAt adM_field adM_draft adM_given adM_low adM_high adM_packet adM_known : Nat) (H : Heap) (locs : List Loc) (hP : va_P (dC, dI) zcl (zwM adM adM_tape adM_frameAt adM_field adM_draft adM_given adM_low adM_high adM_packet adM_known cB cI cL sM) H) (hD : va_D A (zwM adM adM_tape adM_frameAt adM_field adM_draft adM_given adM_low adM_high adM_packet adM_known cB cI cL sM)) (hS : va_S A s.heap H locs) (ls : Array Slot) (hl : lv_has ls 1 [(0, .ref adM)]) : W p l e R s m args below meth c H locs 0 0 (MQ below (q_M_takeName dC dI cB cI cL A adM adM_tape adM_frameAt adM_field adM_draft adM_given adM_low adM_high adM_packet adM_known a) args s 0 0 A) (F0 m 0 ls []) := by
  obtain ⟨hx, hb, hr, hml, hown, hts, hlocks, hRf, hRl⟩ := id X
  unfold g_M_takeName at hG
  refine lv_aload_n hx hb d_M_takeName_0 rfl (lv_at hl 0 rfl) ?_
  refine lv_bipush (v := (24 : Int32)) hx hb d_M_takeName_1 (by decide) ?_
  obtain ⟨a_3, hx_3, hG⟩ := zb hG
  have hr_3 := zrunV (p := p) (e := e) (below := below) (meth := meth) (As := [.int (24 : Int32)]) (rest := []) (st0 := [.int (24 : Int32), .ref adM]) (cells := 0) (slots := 0) X zz hP hD hS hA [0, 1, 2, 3, 4, 5, 6, 7, 8, 9] (by decide) rfl (c_M_takeFields l dC dI cB cI cL H.size adM adM_tape adM_frameAt adM_field adM_draft adM_given adM_low adM_high adM_packet adM_known N sM (24 : Int32) _ hx_3) zy_M_takeFields zv_M_takeFields (hts (.methodLink R_M 156 y_M_takeFields) zin_M_156) hl rfl rfl d_M_takeName_3 (lv_room (Nat.le_of_ble_eq_true rfl)) rfl rfl ⟨Nat.le_trans (Nat.le_of_ble_eq_true rfl) hRf, Nat.le_trans (Nat.le_of_ble_eq_true rfl) hRl⟩ ⟨Nat.zero_le _, Nat.zero_le _⟩ 0 8 rfl rfl
  refine zcallv (wr := ([] : va_W)) hr_3 hP hD hS hA [0, 1, 2, 3, 4, 5, 6, 7, 8, 9] [] rfl rfl (by decide) (by decide) (fun u_3 H locs hw_3 hP hD hS => ?_)
  obtain ⟨sM_3, rfl⟩ : ∃ z, z = u_3 := ⟨_, rfl⟩
  subst hw_3
  have hP : va_P (dC, dI) zcl (zwM adM adM_tape adM_frameAt adM_field adM_draft adM_given adM_low adM_high adM_packet adM_known cB cI cL sM_3) H := hP
  have hD : va_D A (zwM adM adM_tape adM_frameAt adM_field adM_draft adM_given adM_low adM_high adM_packet adM_known cB cI cL sM_3) := hD
  have hG : g_M_takeName_c3 N sM_3 = some a := hG
  unfold g_M_takeName_c3 at hG
  refine lv_aload_n hx hb d_M_takeName_6 rfl (lv_at hl 0 rfl) ?_
  refine lv_aload_n hx hb d_M_takeName_7 rfl (lv_at hl 0 rfl) ?_
  refine lv_iconst (v := (1 : Int32)) hx hb d_M_takeName_8 (by decide) ?_
  obtain ⟨a_9, hx_9, hG⟩ := zb hG
  have hr_9 := zrunV (p := p) (e := e) (below := below) (meth := meth) (As := [.int (1 : Int32)]) (rest := [.ref adM]) (st0 := [.int (1 : Int32), .ref adM, .ref adM]) (cells := 0) (slots := 0) X zz hP hD hS hA [0, 1, 2, 3, 4, 5, 6, 7, 8, 9] (by decide) rfl (c_M_take l dC dI cB cI cL H.size adM adM_tape adM_frameAt adM_field adM_draft adM_given adM_low adM_high adM_packet adM_known N sM_3 (1 : Int32) _ hx_9) zy_M_take zv_M_take (hts (.methodLink R_M 120 y_M_take) zin_M_120) hl rfl rfl d_M_takeName_9 (lv_room (Nat.le_of_ble_eq_true rfl)) rfl rfl ⟨Nat.le_trans (Nat.le_of_ble_eq_true rfl) hRf, Nat.le_trans (Nat.le_of_ble_eq_true rfl) hRl⟩ ⟨Nat.zero_le _, Nat.zero_le _⟩ 0 8 rfl rfl
  refine zcalll (wr := ([] : va_W)) hr_9 hP hD hS hA [0, 1, 2, 3, 4, 5, 6, 7, 8, 9] [] rfl rfl (by decide) (by decide) (fun r_9 u_9 H locs hw_9 hP hD hS => ?_)
  obtain ⟨sM_9, rfl⟩ : ∃ z, z = u_9 := ⟨_, rfl⟩
  subst hw_9
  have hP : va_P (dC, dI) zcl (zwM adM adM_tape adM_frameAt adM_field adM_draft adM_given adM_low adM_high adM_packet adM_known cB cI cL sM_9) H := hP
  have hD : va_D A (zwM adM adM_tape adM_frameAt adM_field adM_draft adM_given adM_low adM_high adM_packet adM_known cB cI cL sM_9) := hD
  have hG : g_M_takeName_c9 sM_9 r_9 = some a := hG
  unfold g_M_takeName_c9 at hG
  obtain ⟨a_12, hx_12, hG⟩ := zb hG
  have hr_12 := zrunV (p := p) (e := e) (below := below) (meth := meth) (As := [.long r_9]) (rest := []) (st0 := [.long r_9, .ref adM]) (cells := 0) (slots := 0) X zz hP hD hS hA [0, 1, 2, 3, 4, 5, 6, 7, 8, 9] (by decide) rfl (c_M_takeData l dC dI cB cI cL H.size adM adM_tape adM_frameAt adM_field adM_draft adM_given adM_low adM_high adM_packet adM_known sM_9 r_9 _ hx_12) zy_M_takeData zv_M_takeData (hts (.methodLink R_M 137 y_M_takeData) zin_M_137) hl rfl rfl d_M_takeName_12 (lv_room (Nat.le_of_ble_eq_true rfl)) rfl rfl ⟨Nat.le_trans (Nat.le_of_ble_eq_true rfl) hRf, Nat.le_trans (Nat.le_of_ble_eq_true rfl) hRl⟩ ⟨Nat.zero_le _, Nat.zero_le _⟩ 0 8 rfl rfl
  refine zcallv (wr := ([] : va_W)) hr_12 hP hD hS hA [0, 1, 2, 3, 4, 5, 6, 7, 8, 9] [] rfl rfl (by decide) (by decide) (fun u_12 H locs hw_12 hP hD hS => ?_)
  obtain ⟨sM_12, rfl⟩ : ∃ z, z = u_12 := ⟨_, rfl⟩
  subst hw_12
  have hP : va_P (dC, dI) zcl (zwM adM adM_tape adM_frameAt adM_field adM_draft adM_given adM_low adM_high adM_packet adM_known cB cI cL sM_12) H := hP
  have hD : va_D A (zwM adM adM_tape adM_frameAt adM_field adM_draft adM_given adM_low adM_high adM_packet adM_known cB cI cL sM_12) := hD
  have hG : g_M_takeName_c12 sM_12 = some a := hG
  unfold g_M_takeName_c12 at hG
  refine lv_aload_n hx hb d_M_takeName_15 rfl (lv_at hl 0 rfl) ?_
  refine lv_aload_n hx hb d_M_takeName_16 rfl (lv_at hl 0 rfl) ?_
  refine lv_ldc2 (v := (16 : Int64)) hx hb hown (hts (.constantLong R_M 160 (16 : Int64)) zin_M_160) d_M_takeName_17 ?_
  obtain ⟨a_20, hx_20, hG⟩ := zb hG
  have hr_20 := zrunV (p := p) (e := e) (below := below) (meth := meth) (As := [.long (16 : Int64)]) (rest := [.ref adM]) (st0 := [.long (16 : Int64), .ref adM, .ref adM]) (cells := 0) (slots := 0) X zz hP hD hS hA [0, 1, 2, 3, 4, 5, 6, 7, 8, 9] (by decide) rfl (c_M_pass l dC dI cB cI cL H.size adM adM_tape adM_frameAt adM_field adM_draft adM_given adM_low adM_high adM_packet adM_known sM_12 (16 : Int64) _ hx_20) zy_M_pass zv_M_pass (hts (.methodLink R_M 141 y_M_pass) zin_M_141) hl rfl rfl d_M_takeName_20 (lv_room (Nat.le_of_ble_eq_true rfl)) rfl rfl ⟨Nat.le_trans (Nat.le_of_ble_eq_true rfl) hRf, Nat.le_trans (Nat.le_of_ble_eq_true rfl) hRl⟩ ⟨Nat.zero_le _, Nat.zero_le _⟩ 0 8 rfl rfl
  refine zcalli (wr := ([] : va_W)) hr_20 hP hD hS hA [0, 1, 2, 3, 4, 5, 6, 7, 8, 9] [] rfl rfl (by decide) (by decide) (fun r_20 u_20 H locs hw_20 hP hD hS => ?_)
  obtain ⟨sM_20, rfl⟩ : ∃ z, z = u_20 := ⟨_, rfl⟩
  subst hw_20
  have hP : va_P (dC, dI) zcl (zwM adM adM_tape adM_frameAt adM_field adM_draft adM_given adM_low adM_high adM_packet adM_known cB cI cL sM_20) H := hP
  have hD : va_D A (zwM adM adM_tape adM_frameAt adM_field adM_draft adM_given adM_low adM_high adM_packet adM_known cB cI cL sM_20) := hD
  have hG : g_M_takeName_c20 sM_20 r_20 = some a := hG
  unfold g_M_takeName_c20 at hG
  refine va_put (D := (dC, dI)) (ci := 8) (v := .int r_20) (ty := .int) (C := R_M) (T := F_M) (N := 26) hx hb hts zi_M zty_M zty_M_ok znm_M hown zz.1 hP hD hS 0 rfl rfl 11 (by decide) (hts (.fieldLink R_M 162 "WireCodecModel" "secretAt" "I") zin_M_162) (fun _ h9 => h9) rfl (by decide +kernel) rfl rfl (Nat.le_of_ble_eq_true rfl) d_M_takeName_23 (fun H locs hP hD hS => ?_)
  have hP := zp_M_secretAt hP
  have hD := zd_M_secretAt hD
  have hG : g_M_takeName_w23 (zM_secretAt' sM_20 r_20) = some a := hG
  generalize zM_secretAt' sM_20 r_20 = sM_23 at hP hD hG
  unfold g_M_takeName_w23 at hG
  exact W.vret hx hb hr (fun t9 ht9 hW9 => ⟨⟨(sM_23), rfl, Option.some.inj hG, by rw [ht9]; exact hP, hD⟩, hS.F ht9⟩) hS.2.2 d_M_takeName_26
set_option maxRecDepth 100000 in
set_option maxHeartbeats 4000000 in
theorem c_M_takeName (l : Launch) (dC : Nat → ClassId) (dI : Nat → Nat → Nat) (cB cI cL : ClassId) (sz : Nat) (adM adM_tape adM_frameAt adM_field adM_draft adM_given adM_low adM_high adM_packet adM_known : Nat) (N : Nat) (sM : zM) (a : zM) (hG : g_M_takeName N sM = some a) : Met l y_M_takeName (zw y_M_takeName b_M_takeName 1 none) ({ frames := 4, cells := 0, slots := 0, locals := 91 }) (va_Pc [.ref adM] (zpre dC dI cB cI cL sz (zwM adM adM_tape adM_frameAt adM_field adM_draft adM_given adM_low adM_high adM_packet adM_known cB cI cL sM))) (q_M_takeName dC dI cB cI cL (va_A (zwM adM adM_tape adM_frameAt adM_field adM_draft adM_given adM_low adM_high adM_packet adM_known cB cI cL sM) sz) adM adM_tape adM_frameAt adM_field adM_draft adM_given adM_low adM_high adM_packet adM_known a) 0 0 (va_A (zwM adM adM_tape adM_frameAt adM_field adM_draft adM_given adM_low adM_high adM_packet adM_known cB cI cL sM) sz) := by
  refine Met.ofW (cc := b_M_takeName) (maxL := 1) (ret := none) (by decide) rfl ?_
  intro p e s m args below meth c s₁ B hml hv
  obtain ⟨rfl, hsz, hP, zz, hD0⟩ := hv
  subst hsz
  have X := zx_of (F := 4) (L := 91) B hml (Nat.le_refl _) (Nat.le_refl _)
  have hD := hD0.self (sz := s.heap.size)
  have hA : ∀ q : Nat, s.heap.size ≤ q → va_A (zwM adM adM_tape adM_frameAt adM_field adM_draft adM_given adM_low adM_high adM_packet adM_known cB cI cL sM) s.heap.size q := fun q h => Or.inr h
  have hl := lv_entry ([.ref adM]) (n := 1) (Nat.le_of_ble_eq_true rfl)
  rw [lg_entry_eq]
  generalize (lg_sl ([.ref adM]) ++ List.replicate (1 - (lg_sl ([.ref adM])).length) Slot.unset).toArray = ls at hl ⊢
  exact k_M_takeName_0 X hA zz N sM a hG adM adM_tape adM_frameAt adM_field adM_draft adM_given adM_low adM_high adM_packet adM_known _ _ hP hD va_S.rf ls hl
noncomputable def g_M_parse_112 (N : Nat) (sM : zM) : Option (zM) := some (sM)
noncomputable def g_M_parse_c109 (N : Nat) (sM_109 : zM) : Option (zM) := g_M_parse_112 N sM_109
noncomputable def g_M_parse_c101 (N : Nat) (sM_101 : zM) : Option (zM) := g_M_parse_112 N sM_101
noncomputable def g_M_parse_c88 (N : Nat) (sM_88 : zM) : Option (zM) := g_M_parse_112 N sM_88
noncomputable def g_M_parse_c85 (N : Nat) (sM_41 : zM) (r_85 : Int32) : Option (zM) := (g_M_takeStream N sM_41 r_85).bind (fun a => g_M_parse_c88 N a)
noncomputable def g_M_parse_c70 (N : Nat) (sM_70 : zM) : Option (zM) := g_M_parse_112 N sM_70
noncomputable def g_M_parse_c62 (N : Nat) (v1 : Int32) (sM_41 : zM) (r_46 : Int32) (r_62 : Int32) : Option (zM) := if r_62 = (0 : Int32) then (if r_46 = (8 : Int32) then ((g_M_byteAt sM_41 v1).bind (fun a => g_M_parse_c85 N sM_41 a)) else (if r_46 = (24 : Int32) then ((g_M_takeName N sM_41).bind (fun a => g_M_parse_c101 N a)) else ((g_M_takeFields N sM_41 r_46).bind (fun a => g_M_parse_c109 N a)))) else ((g_M_takeAck N sM_41 r_46).bind (fun a => g_M_parse_c70 N a))
noncomputable def g_M_parse_c55 (N : Nat) (sM_55 : zM) : Option (zM) := g_M_parse_112 N sM_55
noncomputable def g_M_parse_c46 (N : Nat) (v1 : Int32) (sM_41 : zM) (r_46 : Int32) : Option (zM) := if r_46 = (0 : Int32) then ((g_M_takePadding N sM_41).bind (fun a => g_M_parse_c55 N a)) else ((g_M_isAck r_46).bind (fun a => g_M_parse_c62 N v1 sM_41 r_46 a))
noncomputable def g_M_parse_w41 (N : Nat) (v1 : Int32) (sM_41 : zM) : Option (zM) := (g_M_kindAt sM_41 v1).bind (fun a => g_M_parse_c46 N v1 sM_41 a)
noncomputable def g_M_parse_w36 (N : Nat) (v1 : Int32) (sM_36 : zM) : Option (zM) := g_M_parse_w41 N v1 (zM_ranges' sM_36 (0 : Int32))
noncomputable def g_M_parse_w31 (N : Nat) (v1 : Int32) (sM_31 : zM) : Option (zM) := g_M_parse_w36 N v1 (zM_dataSize' sM_31 (0 : Int32))
noncomputable def g_M_parse_w22 (kr : zM → Int32 → Int32 → Option (zM)) (v1 : Int32) (v3 : Int32) (sM_22 : zM) : Option (zM) := kr sM_22 v1 (v3 + 1)
noncomputable def g_M_parse_10_b (N : Nat) (kr : zM → Int32 → Int32 → Option (zM)) (sM : zM) (v1 : Int32) (v3 : Int32) : Option (zM) := if (12 : Int32) ≤ v3 then (g_M_parse_w31 N v1 (zM_dataAt' sM (0 : Int32))) else (zg (vp_in v3 12) (g_M_parse_w22 kr v1 v3 (zM_field' sM (vp_updL (zM_field sM) v3.toNatClampNeg (0 : Int64)))))
noncomputable def g_M_parse_10 (N : Nat) : Nat → zM → Int32 → Int32 → Option (zM)
  | 0 => fun _ _ _ => none
  | k + 1 => fun sM v1 v3 => g_M_parse_10_b N (g_M_parse_10 N k) sM v1 v3
noncomputable def g_M_parse_c5 (N : Nat) (v1 : Int32) (sM_5 : zM) : Option (zM) := g_M_parse_10 N N sM_5 v1 (0 : Int32)
noncomputable def g_M_parse (N : Nat) (sM : zM) (v1 : Int32) (v2 : Int32) : Option (zM) := (g_M_look sM (v1 + (1 : Int32)) v2).bind (fun a => g_M_parse_c5 N v1 a)
def q_M_parse (dC : Nat → ClassId) (dI : Nat → Nat → Nat) (cB cI cL : ClassId) (A : Nat → Prop) (adM : Nat) (adM_tape : Nat) (adM_frameAt : Nat) (adM_field : Nat) (adM_draft : Nat) (adM_given : Nat) (adM_low : Nat) (adM_high : Nat) (adM_packet : Nat) (adM_known : Nat) (a : zM) : Array Value → State → Outcome → State → Prop := va_Qv (fun (u : zM) => (u) = a) (fun u U => va_P (dC, dI) zcl (zwM adM adM_tape adM_frameAt adM_field adM_draft adM_given adM_low adM_high adM_packet adM_known cB cI cL u) U.heap ∧ va_D A (zwM adM adM_tape adM_frameAt adM_field adM_draft adM_given adM_low adM_high adM_packet adM_known cB cI cL u)) A
set_option maxRecDepth 100000 in
set_option maxHeartbeats 4000000 in
theorem k_M_parse_112 {p : Program} {l : Launch} {e : Env} {R : Room} {s : State} {m : MethodId} {args : Array Value} {below : List Frame} {meth : Method} {c : Code} {dC : Nat → ClassId} {dI : Nat → Nat → Nat} {cB cI cL : ClassId} {A : Nat → Prop} (X : zx p s m args meth c R R_M b_M_parse none 4 5 111) (hA : ∀ q, s.heap.size ≤ q → A q) (zz : zk dC dI cB cI cL A s)  (N : Nat) (sM : zM) (a : zM) (hG : g_M_parse_112 N sM = some a) (adM adM_tape adM_frameAt adM_field adM_draft adM_given adM_low adM_high adM_packet adM_known : Nat) (H : Heap) (locs : List Loc) (hP : va_P (dC, dI) zcl (zwM adM adM_tape adM_frameAt adM_field adM_draft adM_given adM_low adM_high adM_packet adM_known cB cI cL sM) H) (hD : va_D A (zwM adM adM_tape adM_frameAt adM_field adM_draft adM_given adM_low adM_high adM_packet adM_known cB cI cL sM)) (hS : va_S A s.heap H locs) (ls : Array Slot) (hl : lv_has ls 4 []) : W p l e R s m args below meth c H locs 0 0 (MQ below (q_M_parse dC dI cB cI cL A adM adM_tape adM_frameAt adM_field adM_draft adM_given adM_low adM_high adM_packet adM_known a) args s 0 0 A) (F0 m 112 ls []) := by
  obtain ⟨hx, hb, hr, hml, hown, hts, hlocks, hRf, hRl⟩ := id X
  unfold g_M_parse_112 at hG
  exact W.vret hx hb hr (fun t9 ht9 hW9 => ⟨⟨(sM), rfl, Option.some.inj hG, by rw [ht9]; exact hP, hD⟩, hS.F ht9⟩) hS.2.2 d_M_parse_112
set_option maxRecDepth 100000 in
set_option maxHeartbeats 4000000 in
theorem k_M_parse_10_b {p : Program} {l : Launch} {e : Env} {R : Room} {s : State} {m : MethodId} {args : Array Value} {below : List Frame} {meth : Method} {c : Code} {dC : Nat → ClassId} {dI : Nat → Nat → Nat} {cB cI cL : ClassId} {A : Nat → Prop} (kr : zM → Int32 → Int32 → Option (zM)) (hrec : ∀ (sM : zM) (v1 : Int32) (v3 : Int32) (a : zM), kr sM v1 v3 = some a → ∀ (adM adM_tape adM_frameAt adM_field adM_draft adM_given adM_low adM_high adM_packet adM_known : Nat) (H : Heap) (locs : List Loc), va_P (dC, dI) zcl (zwM adM adM_tape adM_frameAt adM_field adM_draft adM_given adM_low adM_high adM_packet adM_known cB cI cL sM) H → va_D A (zwM adM adM_tape adM_frameAt adM_field adM_draft adM_given adM_low adM_high adM_packet adM_known cB cI cL sM) → va_S A s.heap H locs → ∀ ls : Array Slot, lv_has ls 4 [(0, .ref adM), (1, .int v1), (3, .int v3)] → W p l e R s m args below meth c H locs 0 0 (MQ below (q_M_parse dC dI cB cI cL A adM adM_tape adM_frameAt adM_field adM_draft adM_given adM_low adM_high adM_packet adM_known a) args s 0 0 A) (F0 m 10 ls [])) (X : zx p s m args meth c R R_M b_M_parse none 4 5 111) (hA : ∀ q, s.heap.size ≤ q → A q) (zz : zk dC dI cB cI cL A s)  (N : Nat) (sM : zM) (v1 : Int32) (v3 : Int32) (a : zM) (hG : g_M_parse_10_b N kr sM v1 v3 = some a) (adM adM_tape adM_frameAt adM_field adM_draft adM_given adM_low adM_high adM_packet adM_known : Nat) (H : Heap) (locs : List Loc) (hP : va_P (dC, dI) zcl (zwM adM adM_tape adM_frameAt adM_field adM_draft adM_given adM_low adM_high adM_packet adM_known cB cI cL sM) H) (hD : va_D A (zwM adM adM_tape adM_frameAt adM_field adM_draft adM_given adM_low adM_high adM_packet adM_known cB cI cL sM)) (hS : va_S A s.heap H locs) (ls : Array Slot) (hl : lv_has ls 4 [(0, .ref adM), (1, .int v1), (3, .int v3)]) : W p l e R s m args below meth c H locs 0 0 (MQ below (q_M_parse dC dI cB cI cL A adM adM_tape adM_frameAt adM_field adM_draft adM_given adM_low adM_high adM_packet adM_known a) args s 0 0 A) (F0 m 10 ls []) := by
  obtain ⟨hx, hb, hr, hml, hown, hts, hlocks, hRf, hRl⟩ := id X
  unfold g_M_parse_10_b at hG
  refine lv_iload_n hx hb d_M_parse_10 rfl (lv_at hl 2 rfl) ?_
  refine lv_bipush (v := (12 : Int32)) hx hb d_M_parse_11 (by decide) ?_
  refine lv_icmp_ge (tgt := 29) hx hb d_M_parse_13 (by decide) (fun hc => ?_) (fun hc => ?_)
  · have hG := zt hG hc
    refine lv_aload_n hx hb d_M_parse_29 rfl (lv_at hl 0 rfl) ?_
    refine lv_iconst (v := (0 : Int32)) hx hb d_M_parse_30 (by decide) ?_
    refine va_put (D := (dC, dI)) (ci := 8) (v := .int (0 : Int32)) (ty := .int) (C := R_M) (T := F_M) (N := 26) hx hb hts zi_M zty_M zty_M_ok znm_M hown zz.1 hP hD hS 0 rfl rfl 9 (by decide) (hts (.fieldLink R_M 144 "WireCodecModel" "dataAt" "I") zin_M_144) (fun _ h9 => h9) rfl (by decide +kernel) rfl rfl (Nat.le_of_ble_eq_true rfl) d_M_parse_31 (fun H locs hP hD hS => ?_)
    have hP := zp_M_dataAt hP
    have hD := zd_M_dataAt hD
    have hG : g_M_parse_w31 N v1 (zM_dataAt' sM (0 : Int32)) = some a := hG
    generalize zM_dataAt' sM (0 : Int32) = sM_31 at hP hD hG
    unfold g_M_parse_w31 at hG
    refine lv_aload_n hx hb d_M_parse_34 rfl (lv_at hl 0 rfl) ?_
    refine lv_iconst (v := (0 : Int32)) hx hb d_M_parse_35 (by decide) ?_
    refine va_put (D := (dC, dI)) (ci := 8) (v := .int (0 : Int32)) (ty := .int) (C := R_M) (T := F_M) (N := 26) hx hb hts zi_M zty_M zty_M_ok znm_M hown zz.1 hP hD hS 0 rfl rfl 10 (by decide) (hts (.fieldLink R_M 147 "WireCodecModel" "dataSize" "I") zin_M_147) (fun _ h9 => h9) rfl (by decide +kernel) rfl rfl (Nat.le_of_ble_eq_true rfl) d_M_parse_36 (fun H locs hP hD hS => ?_)
    have hP := zp_M_dataSize hP
    have hD := zd_M_dataSize hD
    have hG : g_M_parse_w36 N v1 (zM_dataSize' sM_31 (0 : Int32)) = some a := hG
    generalize zM_dataSize' sM_31 (0 : Int32) = sM_36 at hP hD hG
    unfold g_M_parse_w36 at hG
    refine lv_aload_n hx hb d_M_parse_39 rfl (lv_at hl 0 rfl) ?_
    refine lv_iconst (v := (0 : Int32)) hx hb d_M_parse_40 (by decide) ?_
    refine va_put (D := (dC, dI)) (ci := 8) (v := .int (0 : Int32)) (ty := .int) (C := R_M) (T := F_M) (N := 26) hx hb hts zi_M zty_M zty_M_ok znm_M hown zz.1 hP hD hS 0 rfl rfl 12 (by decide) (hts (.fieldLink R_M 153 "WireCodecModel" "ranges" "I") zin_M_153) (fun _ h9 => h9) rfl (by decide +kernel) rfl rfl (Nat.le_of_ble_eq_true rfl) d_M_parse_41 (fun H locs hP hD hS => ?_)
    have hP := zp_M_ranges hP
    have hD := zd_M_ranges hD
    have hG : g_M_parse_w41 N v1 (zM_ranges' sM_36 (0 : Int32)) = some a := hG
    generalize zM_ranges' sM_36 (0 : Int32) = sM_41 at hP hD hG
    unfold g_M_parse_w41 at hG
    refine lv_aload_n hx hb d_M_parse_44 rfl (lv_at hl 0 rfl) ?_
    refine lv_iload_n hx hb d_M_parse_45 rfl (lv_at hl 1 rfl) ?_
    obtain ⟨a_46, hx_46, hG⟩ := zb hG
    have hr_46 := zrunV (p := p) (e := e) (below := below) (meth := meth) (As := [.int v1]) (rest := []) (st0 := [.int v1, .ref adM]) (cells := 0) (slots := 0) X zz hP hD hS hA [0, 1, 2, 3, 4, 5, 6, 7, 8, 9] (by decide) rfl (c_M_kindAt l dC dI cB cI cL H.size adM adM_tape adM_frameAt adM_field adM_draft adM_given adM_low adM_high adM_packet adM_known sM_41 v1 _ hx_46) zy_M_kindAt zv_M_kindAt (hts (.methodLink R_M 165 y_M_kindAt) zin_M_165) hl rfl rfl d_M_parse_46 (lv_room (Nat.le_of_ble_eq_true rfl)) rfl rfl ⟨Nat.le_trans (Nat.le_of_ble_eq_true rfl) hRf, Nat.le_trans (Nat.le_of_ble_eq_true rfl) hRl⟩ ⟨Nat.zero_le _, Nat.zero_le _⟩ 0 8 rfl rfl
    refine zcalli (wr := ([] : va_W)) hr_46 hP hD hS hA [0, 1, 2, 3, 4, 5, 6, 7, 8, 9] [] rfl rfl (by decide) (by decide) (fun r_46 u_46 H locs hw_46 hP hD hS => ?_)
    subst hw_46
    have hP : va_P (dC, dI) zcl (zwM adM adM_tape adM_frameAt adM_field adM_draft adM_given adM_low adM_high adM_packet adM_known cB cI cL sM_41) H := hP
    have hD : va_D A (zwM adM adM_tape adM_frameAt adM_field adM_draft adM_given adM_low adM_high adM_packet adM_known cB cI cL sM_41) := hD
    have hG : g_M_parse_c46 N v1 sM_41 r_46 = some a := hG
    unfold g_M_parse_c46 at hG
    refine lv_istore_n (lv' := [(3, .int r_46), (0, .ref adM), (1, .int v1)]) hx hb d_M_parse_49 rfl hl (by decide) rfl (fun ls hl => ?_)
    refine lv_iload_n hx hb d_M_parse_50 rfl (lv_at hl 0 rfl) ?_
    refine lv_if_ne (tgt := 61) hx hb d_M_parse_51 (by decide) (fun hc => ?_) (fun hc => ?_)
    · have hG := zf hG hc
      refine lv_iload_n hx hb d_M_parse_61 rfl (lv_at hl 0 rfl) ?_
      obtain ⟨a_62, hx_62, hG⟩ := zb hG
      have hr_62 := zrunS (p := p) (e := e) (below := below) (meth := meth) (As := [.int r_46]) (rest := []) (st0 := [.int r_46]) (cells := 0) (slots := 0) X zz hP hD hS hA [] (by decide) rfl (c_M_isAck l dC dI cB cI cL H.size r_46 _ hx_62) zy_M_isAck zv_M_isAck (hts (.methodLink R_M 171 y_M_isAck) zin_M_171) hl rfl rfl d_M_parse_62 (lv_room (Nat.le_of_ble_eq_true rfl)) rfl rfl ⟨Nat.le_trans (Nat.le_of_ble_eq_true rfl) hRf, Nat.le_trans (Nat.le_of_ble_eq_true rfl) hRl⟩ ⟨Nat.zero_le _, Nat.zero_le _⟩
      refine zcalli (wr := (zwM adM adM_tape adM_frameAt adM_field adM_draft adM_given adM_low adM_high adM_packet adM_known cB cI cL sM_41)) hr_62 hP hD hS hA [] [0, 1, 2, 3, 4, 5, 6, 7, 8, 9] rfl rfl (by decide) (by decide) (fun r_62 u_62 H locs hw_62 hP hD hS => ?_)
      subst hw_62
      have hP : va_P (dC, dI) zcl (zwM adM adM_tape adM_frameAt adM_field adM_draft adM_given adM_low adM_high adM_packet adM_known cB cI cL sM_41) H := hP
      have hD : va_D A (zwM adM adM_tape adM_frameAt adM_field adM_draft adM_given adM_low adM_high adM_packet adM_known cB cI cL sM_41) := hD
      have hG : g_M_parse_c62 N v1 sM_41 r_46 r_62 = some a := hG
      unfold g_M_parse_c62 at hG
      refine lv_if_eq (tgt := 76) hx hb d_M_parse_65 (by decide) (fun hc => ?_) (fun hc => ?_)
      · have hG := zt hG hc
        refine lv_iload_n hx hb d_M_parse_76 rfl (lv_at hl 0 rfl) ?_
        refine lv_bipush (v := (8 : Int32)) hx hb d_M_parse_77 (by decide) ?_
        refine lv_icmp_ne (tgt := 94) hx hb d_M_parse_79 (by decide) (fun hc => ?_) (fun hc => ?_)
        · have hG := zf hG hc
          refine lv_iload_n hx hb d_M_parse_94 rfl (lv_at hl 0 rfl) ?_
          refine lv_bipush (v := (24 : Int32)) hx hb d_M_parse_95 (by decide) ?_
          refine lv_icmp_ne (tgt := 107) hx hb d_M_parse_97 (by decide) (fun hc => ?_) (fun hc => ?_)
          · have hG := zf hG hc
            refine lv_aload_n hx hb d_M_parse_107 rfl (lv_at hl 1 rfl) ?_
            refine lv_iload_n hx hb d_M_parse_108 rfl (lv_at hl 0 rfl) ?_
            obtain ⟨a_109, hx_109, hG⟩ := zb hG
            have hr_109 := zrunV (p := p) (e := e) (below := below) (meth := meth) (As := [.int r_46]) (rest := []) (st0 := [.int r_46, .ref adM]) (cells := 0) (slots := 0) X zz hP hD hS hA [0, 1, 2, 3, 4, 5, 6, 7, 8, 9] (by decide) rfl (c_M_takeFields l dC dI cB cI cL H.size adM adM_tape adM_frameAt adM_field adM_draft adM_given adM_low adM_high adM_packet adM_known N sM_41 r_46 _ hx_109) zy_M_takeFields zv_M_takeFields (hts (.methodLink R_M 156 y_M_takeFields) zin_M_156) hl rfl rfl d_M_parse_109 (lv_room (Nat.le_of_ble_eq_true rfl)) rfl rfl ⟨Nat.le_trans (Nat.le_of_ble_eq_true rfl) hRf, Nat.le_trans (Nat.le_of_ble_eq_true rfl) hRl⟩ ⟨Nat.zero_le _, Nat.zero_le _⟩ 0 8 rfl rfl
            refine zcallv (wr := ([] : va_W)) hr_109 hP hD hS hA [0, 1, 2, 3, 4, 5, 6, 7, 8, 9] [] rfl rfl (by decide) (by decide) (fun u_109 H locs hw_109 hP hD hS => ?_)
            obtain ⟨sM_109, rfl⟩ : ∃ z, z = u_109 := ⟨_, rfl⟩
            subst hw_109
            have hP : va_P (dC, dI) zcl (zwM adM adM_tape adM_frameAt adM_field adM_draft adM_given adM_low adM_high adM_packet adM_known cB cI cL sM_109) H := hP
            have hD : va_D A (zwM adM adM_tape adM_frameAt adM_field adM_draft adM_given adM_low adM_high adM_packet adM_known cB cI cL sM_109) := hD
            have hG : g_M_parse_c109 N sM_109 = some a := hG
            unfold g_M_parse_c109 at hG
            exact k_M_parse_112 X hA zz N sM_109 _ hG adM adM_tape adM_frameAt adM_field adM_draft adM_given adM_low adM_high adM_packet adM_known _ _ hP hD hS _ (lv_sub hl [] rfl)
          · have hG := zt hG hc
            refine lv_aload_n hx hb d_M_parse_100 rfl (lv_at hl 1 rfl) ?_
            obtain ⟨a_101, hx_101, hG⟩ := zb hG
            have hr_101 := zrunV (p := p) (e := e) (below := below) (meth := meth) (As := []) (rest := []) (st0 := [.ref adM]) (cells := 0) (slots := 0) X zz hP hD hS hA [0, 1, 2, 3, 4, 5, 6, 7, 8, 9] (by decide) rfl (c_M_takeName l dC dI cB cI cL H.size adM adM_tape adM_frameAt adM_field adM_draft adM_given adM_low adM_high adM_packet adM_known N sM_41 _ hx_101) zy_M_takeName zv_M_takeName (hts (.methodLink R_M 181 y_M_takeName) zin_M_181) hl rfl rfl d_M_parse_101 (lv_room (Nat.le_of_ble_eq_true rfl)) rfl rfl ⟨Nat.le_trans (Nat.le_of_ble_eq_true rfl) hRf, Nat.le_trans (Nat.le_of_ble_eq_true rfl) hRl⟩ ⟨Nat.zero_le _, Nat.zero_le _⟩ 0 8 rfl rfl
            refine zcallv (wr := ([] : va_W)) hr_101 hP hD hS hA [0, 1, 2, 3, 4, 5, 6, 7, 8, 9] [] rfl rfl (by decide) (by decide) (fun u_101 H locs hw_101 hP hD hS => ?_)
            obtain ⟨sM_101, rfl⟩ : ∃ z, z = u_101 := ⟨_, rfl⟩
            subst hw_101
            have hP : va_P (dC, dI) zcl (zwM adM adM_tape adM_frameAt adM_field adM_draft adM_given adM_low adM_high adM_packet adM_known cB cI cL sM_101) H := hP
            have hD : va_D A (zwM adM adM_tape adM_frameAt adM_field adM_draft adM_given adM_low adM_high adM_packet adM_known cB cI cL sM_101) := hD
            have hG : g_M_parse_c101 N sM_101 = some a := hG
            unfold g_M_parse_c101 at hG
            refine lv_goto (tgt := 112) hx hb d_M_parse_104 (by decide) ?_
            exact k_M_parse_112 X hA zz N sM_101 _ hG adM adM_tape adM_frameAt adM_field adM_draft adM_given adM_low adM_high adM_packet adM_known _ _ hP hD hS _ (lv_sub hl [] rfl)
        · have hG := zt hG hc
          refine lv_aload_n hx hb d_M_parse_82 rfl (lv_at hl 1 rfl) ?_
          refine lv_aload_n hx hb d_M_parse_83 rfl (lv_at hl 1 rfl) ?_
          refine lv_iload_n hx hb d_M_parse_84 rfl (lv_at hl 2 rfl) ?_
          obtain ⟨a_85, hx_85, hG⟩ := zb hG
          have hr_85 := zrunV (p := p) (e := e) (below := below) (meth := meth) (As := [.int v1]) (rest := [.ref adM]) (st0 := [.int v1, .ref adM, .ref adM]) (cells := 0) (slots := 0) X zz hP hD hS hA [0, 1, 2, 3, 4, 5, 6, 7, 8, 9] (by decide) rfl (c_M_byteAt l dC dI cB cI cL H.size adM adM_tape adM_frameAt adM_field adM_draft adM_given adM_low adM_high adM_packet adM_known sM_41 v1 _ hx_85) zy_M_byteAt zv_M_byteAt (hts (.methodLink R_M 106 y_M_byteAt) zin_M_106) hl rfl rfl d_M_parse_85 (lv_room (Nat.le_of_ble_eq_true rfl)) rfl rfl ⟨Nat.le_trans (Nat.le_of_ble_eq_true rfl) hRf, Nat.le_trans (Nat.le_of_ble_eq_true rfl) hRl⟩ ⟨Nat.zero_le _, Nat.zero_le _⟩ 0 8 rfl rfl
          refine zcalli (wr := ([] : va_W)) hr_85 hP hD hS hA [0, 1, 2, 3, 4, 5, 6, 7, 8, 9] [] rfl rfl (by decide) (by decide) (fun r_85 u_85 H locs hw_85 hP hD hS => ?_)
          subst hw_85
          have hP : va_P (dC, dI) zcl (zwM adM adM_tape adM_frameAt adM_field adM_draft adM_given adM_low adM_high adM_packet adM_known cB cI cL sM_41) H := hP
          have hD : va_D A (zwM adM adM_tape adM_frameAt adM_field adM_draft adM_given adM_low adM_high adM_packet adM_known cB cI cL sM_41) := hD
          have hG : g_M_parse_c85 N sM_41 r_85 = some a := hG
          unfold g_M_parse_c85 at hG
          obtain ⟨a_88, hx_88, hG⟩ := zb hG
          have hr_88 := zrunV (p := p) (e := e) (below := below) (meth := meth) (As := [.int r_85]) (rest := []) (st0 := [.int r_85, .ref adM]) (cells := 0) (slots := 0) X zz hP hD hS hA [0, 1, 2, 3, 4, 5, 6, 7, 8, 9] (by decide) rfl (c_M_takeStream l dC dI cB cI cL H.size adM adM_tape adM_frameAt adM_field adM_draft adM_given adM_low adM_high adM_packet adM_known N sM_41 r_85 _ hx_88) zy_M_takeStream zv_M_takeStream (hts (.methodLink R_M 178 y_M_takeStream) zin_M_178) hl rfl rfl d_M_parse_88 (lv_room (Nat.le_of_ble_eq_true rfl)) rfl rfl ⟨Nat.le_trans (Nat.le_of_ble_eq_true rfl) hRf, Nat.le_trans (Nat.le_of_ble_eq_true rfl) hRl⟩ ⟨Nat.zero_le _, Nat.zero_le _⟩ 0 8 rfl rfl
          refine zcallv (wr := ([] : va_W)) hr_88 hP hD hS hA [0, 1, 2, 3, 4, 5, 6, 7, 8, 9] [] rfl rfl (by decide) (by decide) (fun u_88 H locs hw_88 hP hD hS => ?_)
          obtain ⟨sM_88, rfl⟩ : ∃ z, z = u_88 := ⟨_, rfl⟩
          subst hw_88
          have hP : va_P (dC, dI) zcl (zwM adM adM_tape adM_frameAt adM_field adM_draft adM_given adM_low adM_high adM_packet adM_known cB cI cL sM_88) H := hP
          have hD : va_D A (zwM adM adM_tape adM_frameAt adM_field adM_draft adM_given adM_low adM_high adM_packet adM_known cB cI cL sM_88) := hD
          have hG : g_M_parse_c88 N sM_88 = some a := hG
          unfold g_M_parse_c88 at hG
          refine lv_goto (tgt := 112) hx hb d_M_parse_91 (by decide) ?_
          exact k_M_parse_112 X hA zz N sM_88 _ hG adM adM_tape adM_frameAt adM_field adM_draft adM_given adM_low adM_high adM_packet adM_known _ _ hP hD hS _ (lv_sub hl [] rfl)
      · have hG := zf hG hc
        refine lv_aload_n hx hb d_M_parse_68 rfl (lv_at hl 1 rfl) ?_
        refine lv_iload_n hx hb d_M_parse_69 rfl (lv_at hl 0 rfl) ?_
        obtain ⟨a_70, hx_70, hG⟩ := zb hG
        have hr_70 := zrunV (p := p) (e := e) (below := below) (meth := meth) (As := [.int r_46]) (rest := []) (st0 := [.int r_46, .ref adM]) (cells := 0) (slots := 0) X zz hP hD hS hA [0, 1, 2, 3, 4, 5, 6, 7, 8, 9] (by decide) rfl (c_M_takeAck l dC dI cB cI cL H.size adM adM_tape adM_frameAt adM_field adM_draft adM_given adM_low adM_high adM_packet adM_known N sM_41 r_46 _ hx_70) zy_M_takeAck zv_M_takeAck (hts (.methodLink R_M 175 y_M_takeAck) zin_M_175) hl rfl rfl d_M_parse_70 (lv_room (Nat.le_of_ble_eq_true rfl)) rfl rfl ⟨Nat.le_trans (Nat.le_of_ble_eq_true rfl) hRf, Nat.le_trans (Nat.le_of_ble_eq_true rfl) hRl⟩ ⟨Nat.zero_le _, Nat.zero_le _⟩ 0 8 rfl rfl
        refine zcallv (wr := ([] : va_W)) hr_70 hP hD hS hA [0, 1, 2, 3, 4, 5, 6, 7, 8, 9] [] rfl rfl (by decide) (by decide) (fun u_70 H locs hw_70 hP hD hS => ?_)
        obtain ⟨sM_70, rfl⟩ : ∃ z, z = u_70 := ⟨_, rfl⟩
        subst hw_70
        have hP : va_P (dC, dI) zcl (zwM adM adM_tape adM_frameAt adM_field adM_draft adM_given adM_low adM_high adM_packet adM_known cB cI cL sM_70) H := hP
        have hD : va_D A (zwM adM adM_tape adM_frameAt adM_field adM_draft adM_given adM_low adM_high adM_packet adM_known cB cI cL sM_70) := hD
        have hG : g_M_parse_c70 N sM_70 = some a := hG
        unfold g_M_parse_c70 at hG
        refine lv_goto (tgt := 112) hx hb d_M_parse_73 (by decide) ?_
        exact k_M_parse_112 X hA zz N sM_70 _ hG adM adM_tape adM_frameAt adM_field adM_draft adM_given adM_low adM_high adM_packet adM_known _ _ hP hD hS _ (lv_sub hl [] rfl)
    · have hG := zt hG hc
      refine lv_aload_n hx hb d_M_parse_54 rfl (lv_at hl 1 rfl) ?_
      obtain ⟨a_55, hx_55, hG⟩ := zb hG
      have hr_55 := zrunV (p := p) (e := e) (below := below) (meth := meth) (As := []) (rest := []) (st0 := [.ref adM]) (cells := 0) (slots := 0) X zz hP hD hS hA [0, 1, 2, 3, 4, 5, 6, 7, 8, 9] (by decide) rfl (c_M_takePadding l dC dI cB cI cL H.size adM adM_tape adM_frameAt adM_field adM_draft adM_given adM_low adM_high adM_packet adM_known N sM_41 _ hx_55) zy_M_takePadding zv_M_takePadding (hts (.methodLink R_M 168 y_M_takePadding) zin_M_168) hl rfl rfl d_M_parse_55 (lv_room (Nat.le_of_ble_eq_true rfl)) rfl rfl ⟨Nat.le_trans (Nat.le_of_ble_eq_true rfl) hRf, Nat.le_trans (Nat.le_of_ble_eq_true rfl) hRl⟩ ⟨Nat.zero_le _, Nat.zero_le _⟩ 0 8 rfl rfl
      refine zcallv (wr := ([] : va_W)) hr_55 hP hD hS hA [0, 1, 2, 3, 4, 5, 6, 7, 8, 9] [] rfl rfl (by decide) (by decide) (fun u_55 H locs hw_55 hP hD hS => ?_)
      obtain ⟨sM_55, rfl⟩ : ∃ z, z = u_55 := ⟨_, rfl⟩
      subst hw_55
      have hP : va_P (dC, dI) zcl (zwM adM adM_tape adM_frameAt adM_field adM_draft adM_given adM_low adM_high adM_packet adM_known cB cI cL sM_55) H := hP
      have hD : va_D A (zwM adM adM_tape adM_frameAt adM_field adM_draft adM_given adM_low adM_high adM_packet adM_known cB cI cL sM_55) := hD
      have hG : g_M_parse_c55 N sM_55 = some a := hG
      unfold g_M_parse_c55 at hG
      refine lv_goto (tgt := 112) hx hb d_M_parse_58 (by decide) ?_
      exact k_M_parse_112 X hA zz N sM_55 _ hG adM adM_tape adM_frameAt adM_field adM_draft adM_given adM_low adM_high adM_packet adM_known _ _ hP hD hS _ (lv_sub hl [] rfl)
  · have hG := zf hG hc
    refine lv_aload_n hx hb d_M_parse_16 rfl (lv_at hl 0 rfl) ?_
    refine va_get (D := (dC, dI)) (ci := 8) (v := .ref adM_field) (C := R_M) (T := F_M) (N := 26) hx hb hts zi_M hown zz.1 hP 0 rfl rfl 8 (by decide) (hts (.fieldLink R_M 22 "WireCodecModel" "field" "[J") zin_M_22) (fun _ h9 => h9) rfl d_M_parse_17 ?_
    refine lv_iload_n hx hb d_M_parse_20 rfl (lv_at hl 2 rfl) ?_
    refine lv_lconst (v := (0 : Int64)) hx hb d_M_parse_21 (by decide) ?_
    obtain ⟨hin, hG⟩ := zgd hG
    refine va_last hx hb zz.1 hP hD hS 3 2 rfl rfl hin d_M_parse_22 (fun H locs hP hD hS => ?_)
    have hP := zp_M_field hP
    have hD := zd_M_field hD
    have hG : g_M_parse_w22 kr v1 v3 (zM_field' sM (vp_updL (zM_field sM) v3.toNatClampNeg (0 : Int64))) = some a := hG
    generalize zM_field' sM (vp_updL (zM_field sM) v3.toNatClampNeg (0 : Int64)) = sM_22 at hP hD hG
    unfold g_M_parse_w22 at hG
    refine lv_iinc (v := v3 + 1) (lv' := [(3, .int (v3 + 1)), (0, .ref adM), (1, .int v1)]) hx hb d_M_parse_23 hl (k := 2) rfl rfl (by decide) rfl (fun ls hl => ?_)
    refine lv_goto (tgt := 10) hx hb d_M_parse_26 (by decide) ?_
    exact hrec sM_22 v1 (v3 + 1) _ hG adM adM_tape adM_frameAt adM_field adM_draft adM_given adM_low adM_high adM_packet adM_known _ _ hP hD hS _ (lv_sub hl [1, 2, 0] rfl)
theorem k_M_parse_10 {p : Program} {l : Launch} {e : Env} {R : Room} {s : State} {m : MethodId} {args : Array Value} {below : List Frame} {meth : Method} {c : Code} {dC : Nat → ClassId} {dI : Nat → Nat → Nat} {cB cI cL : ClassId} {A : Nat → Prop} (X : zx p s m args meth c R R_M b_M_parse none 4 5 111) (hA : ∀ q, s.heap.size ≤ q → A q) (zz : zk dC dI cB cI cL A s)  (N : Nat) : ∀ (k : Nat) (sM : zM) (v1 : Int32) (v3 : Int32) (a : zM) (hG : g_M_parse_10 N k sM v1 v3 = some a) (adM adM_tape adM_frameAt adM_field adM_draft adM_given adM_low adM_high adM_packet adM_known : Nat) (H : Heap) (locs : List Loc) (hP : va_P (dC, dI) zcl (zwM adM adM_tape adM_frameAt adM_field adM_draft adM_given adM_low adM_high adM_packet adM_known cB cI cL sM) H) (hD : va_D A (zwM adM adM_tape adM_frameAt adM_field adM_draft adM_given adM_low adM_high adM_packet adM_known cB cI cL sM)) (hS : va_S A s.heap H locs) (ls : Array Slot) (hl : lv_has ls 4 [(0, .ref adM), (1, .int v1), (3, .int v3)]), W p l e R s m args below meth c H locs 0 0 (MQ below (q_M_parse dC dI cB cI cL A adM adM_tape adM_frameAt adM_field adM_draft adM_given adM_low adM_high adM_packet adM_known a) args s 0 0 A) (F0 m 10 ls []) := by
  intro k
  induction k with
  | zero => intro sM v1 v3 a hG; exact absurd hG (by unfold g_M_parse_10; simp)
  | succ k ih => intro sM v1 v3 a hG adM adM_tape adM_frameAt adM_field adM_draft adM_given adM_low adM_high adM_packet adM_known H locs hP hD hS ls hl; exact k_M_parse_10_b _ ih X hA zz N sM v1 v3 a hG adM adM_tape adM_frameAt adM_field adM_draft adM_given adM_low adM_high adM_packet adM_known H locs hP hD hS ls hl
set_option maxRecDepth 100000 in
set_option maxHeartbeats 4000000 in
theorem k_M_parse_0 {p : Program} {l : Launch} {e : Env} {R : Room} {s : State} {m : MethodId} {args : Array Value} {below : List Frame} {meth : Method} {c : Code} {dC : Nat → ClassId} {dI : Nat → Nat → Nat} {cB cI cL : ClassId} {A : Nat → Prop} (X : zx p s m args meth c R R_M b_M_parse none 4 5 111) (hA : ∀ q, s.heap.size ≤ q → A q) (zz : zk dC dI cB cI cL A s)  (N : Nat) (sM : zM) (v1 : Int32) (v2 : Int32) (a : zM) (hG : g_M_parse N sM v1 v2 = some a) (adM adM_tape adM_frameAt adM_field adM_draft adM_given adM_low adM_high adM_packet adM_known : Nat) (H : Heap) (locs : List Loc) (hP : va_P (dC, dI) zcl (zwM adM adM_tape adM_frameAt adM_field adM_draft adM_given adM_low adM_high adM_packet adM_known cB cI cL sM) H) (hD : va_D A (zwM adM adM_tape adM_frameAt adM_field adM_draft adM_given adM_low adM_high adM_packet adM_known cB cI cL sM)) (hS : va_S A s.heap H locs) (ls : Array Slot) (hl : lv_has ls 4 [(0, .ref adM), (1, .int v1), (2, .int v2)]) : W p l e R s m args below meth c H locs 0 0 (MQ below (q_M_parse dC dI cB cI cL A adM adM_tape adM_frameAt adM_field adM_draft adM_given adM_low adM_high adM_packet adM_known a) args s 0 0 A) (F0 m 0 ls []) := by
  obtain ⟨hx, hb, hr, hml, hown, hts, hlocks, hRf, hRl⟩ := id X
  unfold g_M_parse at hG
  refine lv_aload_n hx hb d_M_parse_0 rfl (lv_at hl 0 rfl) ?_
  refine lv_iload_n hx hb d_M_parse_1 rfl (lv_at hl 1 rfl) ?_
  refine lv_iconst (v := (1 : Int32)) hx hb d_M_parse_2 (by decide) ?_
  refine lv_iadd hx hb d_M_parse_3 ?_
  refine lv_iload_n hx hb d_M_parse_4 rfl (lv_at hl 2 rfl) ?_
  obtain ⟨a_5, hx_5, hG⟩ := zb hG
  have hr_5 := zrunV (p := p) (e := e) (below := below) (meth := meth) (As := [.int (v1 + (1 : Int32)), .int v2]) (rest := []) (st0 := [.int v2, .int (v1 + (1 : Int32)), .ref adM]) (cells := 0) (slots := 0) X zz hP hD hS hA [0, 1, 2, 3, 4, 5, 6, 7, 8, 9] (by decide) rfl (c_M_look l dC dI cB cI cL H.size adM adM_tape adM_frameAt adM_field adM_draft adM_given adM_low adM_high adM_packet adM_known sM (v1 + (1 : Int32)) v2 _ hx_5) zy_M_look zv_M_look (hts (.methodLink R_M 124 y_M_look) zin_M_124) hl rfl rfl d_M_parse_5 (lv_room (Nat.le_of_ble_eq_true rfl)) rfl rfl ⟨Nat.le_trans (Nat.le_of_ble_eq_true rfl) hRf, Nat.le_trans (Nat.le_of_ble_eq_true rfl) hRl⟩ ⟨Nat.zero_le _, Nat.zero_le _⟩ 0 8 rfl rfl
  refine zcallv (wr := ([] : va_W)) hr_5 hP hD hS hA [0, 1, 2, 3, 4, 5, 6, 7, 8, 9] [] rfl rfl (by decide) (by decide) (fun u_5 H locs hw_5 hP hD hS => ?_)
  obtain ⟨sM_5, rfl⟩ : ∃ z, z = u_5 := ⟨_, rfl⟩
  subst hw_5
  have hP : va_P (dC, dI) zcl (zwM adM adM_tape adM_frameAt adM_field adM_draft adM_given adM_low adM_high adM_packet adM_known cB cI cL sM_5) H := hP
  have hD : va_D A (zwM adM adM_tape adM_frameAt adM_field adM_draft adM_given adM_low adM_high adM_packet adM_known cB cI cL sM_5) := hD
  have hG : g_M_parse_c5 N v1 sM_5 = some a := hG
  unfold g_M_parse_c5 at hG
  refine lv_iconst (v := (0 : Int32)) hx hb d_M_parse_8 (by decide) ?_
  refine lv_istore_n (lv' := [(3, .int (0 : Int32)), (0, .ref adM), (1, .int v1), (2, .int v2)]) hx hb d_M_parse_9 rfl hl (by decide) rfl (fun ls hl => ?_)
  exact k_M_parse_10 X hA zz N N sM_5 v1 (0 : Int32) _ hG adM adM_tape adM_frameAt adM_field adM_draft adM_given adM_low adM_high adM_packet adM_known _ _ hP hD hS _ (lv_sub hl [1, 2, 0] rfl)
set_option maxRecDepth 100000 in
set_option maxHeartbeats 4000000 in
theorem c_M_parse (l : Launch) (dC : Nat → ClassId) (dI : Nat → Nat → Nat) (cB cI cL : ClassId) (sz : Nat) (adM adM_tape adM_frameAt adM_field adM_draft adM_given adM_low adM_high adM_packet adM_known : Nat) (N : Nat) (sM : zM) (v1 : Int32) (v2 : Int32) (a : zM) (hG : g_M_parse N sM v1 v2 = some a) : Met l y_M_parse (zw y_M_parse b_M_parse 4 none) ({ frames := 5, cells := 0, slots := 0, locals := 111 }) (va_Pc [.ref adM, .int v1, .int v2] (zpre dC dI cB cI cL sz (zwM adM adM_tape adM_frameAt adM_field adM_draft adM_given adM_low adM_high adM_packet adM_known cB cI cL sM))) (q_M_parse dC dI cB cI cL (va_A (zwM adM adM_tape adM_frameAt adM_field adM_draft adM_given adM_low adM_high adM_packet adM_known cB cI cL sM) sz) adM adM_tape adM_frameAt adM_field adM_draft adM_given adM_low adM_high adM_packet adM_known a) 0 0 (va_A (zwM adM adM_tape adM_frameAt adM_field adM_draft adM_given adM_low adM_high adM_packet adM_known cB cI cL sM) sz) := by
  refine Met.ofW (cc := b_M_parse) (maxL := 4) (ret := none) (by decide) rfl ?_
  intro p e s m args below meth c s₁ B hml hv
  obtain ⟨rfl, hsz, hP, zz, hD0⟩ := hv
  subst hsz
  have X := zx_of (F := 5) (L := 111) B hml (Nat.le_refl _) (Nat.le_refl _)
  have hD := hD0.self (sz := s.heap.size)
  have hA : ∀ q : Nat, s.heap.size ≤ q → va_A (zwM adM adM_tape adM_frameAt adM_field adM_draft adM_given adM_low adM_high adM_packet adM_known cB cI cL sM) s.heap.size q := fun q h => Or.inr h
  have hl := lv_entry ([.ref adM, .int v1, .int v2]) (n := 4) (Nat.le_of_ble_eq_true rfl)
  rw [lg_entry_eq]
  generalize (lg_sl ([.ref adM, .int v1, .int v2]) ++ List.replicate (4 - (lg_sl ([.ref adM, .int v1, .int v2])).length) Slot.unset).toArray = ls at hl ⊢
  exact k_M_parse_0 X hA zz N sM v1 v2 a hG adM adM_tape adM_frameAt adM_field adM_draft adM_given adM_low adM_high adM_packet adM_known _ _ hP hD va_S.rf ls hl

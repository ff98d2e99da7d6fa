section
variable {pr : Program} {l : Launch} {e : Env} {s : State} {m : MethodId} {args : Array Value} {below : List Frame} {meth : Method} {c : Code} {E : VE} {A : Nat → Prop} {w0 : va_W}
theorem dX12_readPad_0 : decode cX12_readPad 0 = .ok (.aload_n 0, 1) := by decide +kernel
theorem dX12_readPad_1 : decode cX12_readPad 1 = .ok (.iconst 0, 1) := by decide +kernel
theorem dX12_readPad_2 : decode cX12_readPad 2 = .ok (.putfield 117, 3) := by decide +kernel
theorem dX12_readPad_5 : decode cX12_readPad 5 = .ok (.aload_n 0, 1) := by decide +kernel
theorem dX12_readPad_6 : decode cX12_readPad 6 = .ok (.iconst 0, 1) := by decide +kernel
theorem dX12_readPad_7 : decode cX12_readPad 7 = .ok (.putfield 153, 3) := by decide +kernel
theorem dX12_readPad_10 : decode cX12_readPad 10 = .ok (.aload_n 0, 1) := by decide +kernel
theorem dX12_readPad_11 : decode cX12_readPad 11 = .ok (.iconst 0, 1) := by decide +kernel
theorem dX12_readPad_12 : decode cX12_readPad 12 = .ok (.putfield 156, 3) := by decide +kernel
theorem dX12_readPad_15 : decode cX12_readPad 15 = .ok (.aload_n 0, 1) := by decide +kernel
theorem dX12_readPad_16 : decode cX12_readPad 16 = .ok (.iconst 0, 1) := by decide +kernel
theorem dX12_readPad_17 : decode cX12_readPad 17 = .ok (.putfield 159, 3) := by decide +kernel
theorem dX12_readPad_20 : decode cX12_readPad 20 = .ok (.aload_n 0, 1) := by decide +kernel
theorem dX12_readPad_21 : decode cX12_readPad 21 = .ok (.invokevirtual 145, 3) := by decide +kernel
theorem dX12_readPad_24 : decode cX12_readPad 24 = .ok (.aload_n 0, 1) := by decide +kernel
theorem dX12_readPad_25 : decode cX12_readPad 25 = .ok (.getfield 127, 3) := by decide +kernel
theorem dX12_readPad_28 : decode cX12_readPad 28 = .ok (.iconst 1, 1) := by decide +kernel
theorem dX12_readPad_29 : decode cX12_readPad 29 = .ok (.if_icmp .ne 13, 3) := by decide +kernel
theorem dX12_readPad_32 : decode cX12_readPad 32 = .ok (.aload_n 0, 1) := by decide +kernel
theorem dX12_readPad_33 : decode cX12_readPad 33 = .ok (.iconst 1, 1) := by decide +kernel
theorem dX12_readPad_34 : decode cX12_readPad 34 = .ok (.bipush 6, 2) := by decide +kernel
theorem dX12_readPad_36 : decode cX12_readPad 36 = .ok (.invokevirtual 148, 3) := by decide +kernel
theorem dX12_readPad_39 : decode cX12_readPad 39 = .ok (.ifCond .ne 5, 3) := by decide +kernel
theorem dX12_readPad_42 : decode cX12_readPad 42 = .ok (.iconst 0, 1) := by decide +kernel
theorem dX12_readPad_43 : decode cX12_readPad 43 = .ok (.ireturn, 1) := by decide +kernel
theorem dX12_readPad_44 : decode cX12_readPad 44 = .ok (.aload_n 0, 1) := by decide +kernel
theorem dX12_readPad_45 : decode cX12_readPad 45 = .ok (.aload_n 0, 1) := by decide +kernel
theorem dX12_readPad_46 : decode cX12_readPad 46 = .ok (.getfield 130, 3) := by decide +kernel
theorem dX12_readPad_49 : decode cX12_readPad 49 = .ok (.putfield 162, 3) := by decide +kernel
theorem dX12_readPad_52 : decode cX12_readPad 52 = .ok (.aload_n 0, 1) := by decide +kernel
theorem dX12_readPad_53 : decode cX12_readPad 53 = .ok (.invokevirtual 145, 3) := by decide +kernel
theorem dX12_readPad_56 : decode cX12_readPad 56 = .ok (.aload_n 0, 1) := by decide +kernel
theorem dX12_readPad_57 : decode cX12_readPad 57 = .ok (.getfield 127, 3) := by decide +kernel
theorem dX12_readPad_60 : decode cX12_readPad 60 = .ok (.iconst 5, 1) := by decide +kernel
theorem dX12_readPad_61 : decode cX12_readPad 61 = .ok (.if_icmp .eq 5, 3) := by decide +kernel
theorem dX12_readPad_64 : decode cX12_readPad 64 = .ok (.iconst 0, 1) := by decide +kernel
theorem dX12_readPad_65 : decode cX12_readPad 65 = .ok (.ireturn, 1) := by decide +kernel
theorem dX12_readPad_66 : decode cX12_readPad 66 = .ok (.aload_n 0, 1) := by decide +kernel
theorem dX12_readPad_67 : decode cX12_readPad 67 = .ok (.iconst 1, 1) := by decide +kernel
theorem dX12_readPad_68 : decode cX12_readPad 68 = .ok (.putfield 153, 3) := by decide +kernel
theorem dX12_readPad_71 : decode cX12_readPad 71 = .ok (.aload_n 0, 1) := by decide +kernel
theorem dX12_readPad_72 : decode cX12_readPad 72 = .ok (.invokevirtual 145, 3) := by decide +kernel
theorem dX12_readPad_75 : decode cX12_readPad 75 = .ok (.aload_n 0, 1) := by decide +kernel
theorem dX12_readPad_76 : decode cX12_readPad 76 = .ok (.getfield 127, 3) := by decide +kernel
theorem dX12_readPad_79 : decode cX12_readPad 79 = .ok (.bipush 7, 2) := by decide +kernel
theorem dX12_readPad_81 : decode cX12_readPad 81 = .ok (.if_icmp .eq 193, 3) := by decide +kernel
theorem dX12_readPad_84 : decode cX12_readPad 84 = .ok (.aload_n 0, 1) := by decide +kernel
theorem dX12_readPad_85 : decode cX12_readPad 85 = .ok (.getfield 127, 3) := by decide +kernel
theorem dX12_readPad_88 : decode cX12_readPad 88 = .ok (.istore_n 1, 1) := by decide +kernel
theorem dX12_readPad_89 : decode cX12_readPad 89 = .ok (.iload_n 1, 1) := by decide +kernel
theorem dX12_readPad_90 : decode cX12_readPad 90 = .ok (.iconst 3, 1) := by decide +kernel
theorem dX12_readPad_91 : decode cX12_readPad 91 = .ok (.if_icmp .ne 7, 3) := by decide +kernel
theorem dX12_readPad_94 : decode cX12_readPad 94 = .ok (.iconst 1, 1) := by decide +kernel
theorem dX12_readPad_95 : decode cX12_readPad 95 = .ok (.goto 4, 3) := by decide +kernel
theorem dX12_readPad_98 : decode cX12_readPad 98 = .ok (.iconst 0, 1) := by decide +kernel
theorem dX12_readPad_99 : decode cX12_readPad 99 = .ok (.istore_n 2, 1) := by decide +kernel
theorem dX12_readPad_100 : decode cX12_readPad 100 = .ok (.iload_n 1, 1) := by decide +kernel
theorem dX12_readPad_101 : decode cX12_readPad 101 = .ok (.iconst 2, 1) := by decide +kernel
theorem dX12_readPad_102 : decode cX12_readPad 102 = .ok (.if_icmp .lt 37, 3) := by decide +kernel
theorem dX12_readPad_105 : decode cX12_readPad 105 = .ok (.iload_n 1, 1) := by decide +kernel
theorem dX12_readPad_106 : decode cX12_readPad 106 = .ok (.iconst 4, 1) := by decide +kernel
theorem dX12_readPad_107 : decode cX12_readPad 107 = .ok (.if_icmp .gt 32, 3) := by decide +kernel
theorem dX12_readPad_110 : decode cX12_readPad 110 = .ok (.iload_n 1, 1) := by decide +kernel
theorem dX12_readPad_111 : decode cX12_readPad 111 = .ok (.iconst 2, 1) := by decide +kernel
theorem dX12_readPad_112 : decode cX12_readPad 112 = .ok (.if_icmp .le 14, 3) := by decide +kernel
theorem dX12_readPad_115 : decode cX12_readPad 115 = .ok (.aload_n 0, 1) := by decide +kernel
theorem dX12_readPad_116 : decode cX12_readPad 116 = .ok (.getfield 156, 3) := by decide +kernel
theorem dX12_readPad_119 : decode cX12_readPad 119 = .ok (.aload_n 0, 1) := by decide +kernel
theorem dX12_readPad_120 : decode cX12_readPad 120 = .ok (.getfield 162, 3) := by decide +kernel
theorem dX12_readPad_123 : decode cX12_readPad 123 = .ok (.if_icmp .eq 16, 3) := by decide +kernel
theorem dX12_readPad_126 : decode cX12_readPad 126 = .ok (.iload_n 2, 1) := by decide +kernel
theorem dX12_readPad_127 : decode cX12_readPad 127 = .ok (.ifCond .eq 14, 3) := by decide +kernel
theorem dX12_readPad_130 : decode cX12_readPad 130 = .ok (.aload_n 0, 1) := by decide +kernel
theorem dX12_readPad_131 : decode cX12_readPad 131 = .ok (.getfield 159, 3) := by decide +kernel
theorem dX12_readPad_134 : decode cX12_readPad 134 = .ok (.bipush 10, 2) := by decide +kernel
theorem dX12_readPad_136 : decode cX12_readPad 136 = .ok (.if_icmp .ne 5, 3) := by decide +kernel
theorem dX12_readPad_139 : decode cX12_readPad 139 = .ok (.iconst 0, 1) := by decide +kernel
theorem dX12_readPad_140 : decode cX12_readPad 140 = .ok (.ireturn, 1) := by decide +kernel
theorem dX12_readPad_141 : decode cX12_readPad 141 = .ok (.iconst 4, 1) := by decide +kernel
theorem dX12_readPad_142 : decode cX12_readPad 142 = .ok (.aload_n 0, 1) := by decide +kernel
theorem dX12_readPad_143 : decode cX12_readPad 143 = .ok (.getfield 153, 3) := by decide +kernel
theorem dX12_readPad_146 : decode cX12_readPad 146 = .ok (.imul, 1) := by decide +kernel
theorem dX12_readPad_147 : decode cX12_readPad 147 = .ok (.istore_n 3, 1) := by decide +kernel
theorem dX12_readPad_148 : decode cX12_readPad 148 = .ok (.aload_n 0, 1) := by decide +kernel
theorem dX12_readPad_149 : decode cX12_readPad 149 = .ok (.getfield 33, 3) := by decide +kernel
theorem dX12_readPad_152 : decode cX12_readPad 152 = .ok (.iload_n 3, 1) := by decide +kernel
theorem dX12_readPad_153 : decode cX12_readPad 153 = .ok (.iload_n 1, 1) := by decide +kernel
theorem dX12_readPad_154 : decode cX12_readPad 154 = .ok (.iastore, 1) := by decide +kernel
theorem dX12_readPad_155 : decode cX12_readPad 155 = .ok (.iload_n 1, 1) := by decide +kernel
theorem dX12_readPad_156 : decode cX12_readPad 156 = .ok (.iconst 2, 1) := by decide +kernel
theorem dX12_readPad_157 : decode cX12_readPad 157 = .ok (.if_icmp .ne 31, 3) := by decide +kernel
theorem dX12_readPad_160 : decode cX12_readPad 160 = .ok (.aload_n 0, 1) := by decide +kernel
theorem dX12_readPad_161 : decode cX12_readPad 161 = .ok (.iconst 0, 1) := by decide +kernel
theorem dX12_readPad_162 : decode cX12_readPad 162 = .ok (.aload_n 0, 1) := by decide +kernel
theorem dX12_readPad_163 : decode cX12_readPad 163 = .ok (.getfield 162, 3) := by decide +kernel
theorem dX12_readPad_166 : decode cX12_readPad 166 = .ok (.iconst 1, 1) := by decide +kernel
theorem dX12_readPad_167 : decode cX12_readPad 167 = .ok (.isub, 1) := by decide +kernel
theorem dX12_readPad_168 : decode cX12_readPad 168 = .ok (.invokevirtual 148, 3) := by decide +kernel
theorem dX12_readPad_171 : decode cX12_readPad 171 = .ok (.ifCond .ne 5, 3) := by decide +kernel
theorem dX12_readPad_174 : decode cX12_readPad 174 = .ok (.iconst 0, 1) := by decide +kernel
theorem dX12_readPad_175 : decode cX12_readPad 175 = .ok (.ireturn, 1) := by decide +kernel
theorem dX12_readPad_176 : decode cX12_readPad 176 = .ok (.aload_n 0, 1) := by decide +kernel
theorem dX12_readPad_177 : decode cX12_readPad 177 = .ok (.getfield 33, 3) := by decide +kernel
theorem dX12_readPad_180 : decode cX12_readPad 180 = .ok (.iload_n 3, 1) := by decide +kernel
theorem dX12_readPad_181 : decode cX12_readPad 181 = .ok (.iconst 1, 1) := by decide +kernel
theorem dX12_readPad_182 : decode cX12_readPad 182 = .ok (.iadd, 1) := by decide +kernel
theorem dX12_readPad_183 : decode cX12_readPad 183 = .ok (.aload_n 0, 1) := by decide +kernel
theorem dX12_readPad_184 : decode cX12_readPad 184 = .ok (.getfield 130, 3) := by decide +kernel
theorem dX12_readPad_187 : decode cX12_readPad 187 = .ok (.iastore, 1) := by decide +kernel
theorem dX12_readPad_188 : decode cX12_readPad 188 = .ok (.iload_n 2, 1) := by decide +kernel
theorem dX12_readPad_189 : decode cX12_readPad 189 = .ok (.ifCond .eq 13, 3) := by decide +kernel
theorem dX12_readPad_192 : decode cX12_readPad 192 = .ok (.aload_n 0, 1) := by decide +kernel
theorem dX12_readPad_193 : decode cX12_readPad 193 = .ok (.iload_n 3, 1) := by decide +kernel
theorem dX12_readPad_194 : decode cX12_readPad 194 = .ok (.invokevirtual 165, 3) := by decide +kernel
theorem dX12_readPad_197 : decode cX12_readPad 197 = .ok (.ifCond .ne 5, 3) := by decide +kernel
theorem dX12_readPad_200 : decode cX12_readPad 200 = .ok (.iconst 0, 1) := by decide +kernel
theorem dX12_readPad_201 : decode cX12_readPad 201 = .ok (.ireturn, 1) := by decide +kernel
theorem dX12_readPad_202 : decode cX12_readPad 202 = .ok (.iload_n 2, 1) := by decide +kernel
theorem dX12_readPad_203 : decode cX12_readPad 203 = .ok (.ifCond .ne 7, 3) := by decide +kernel
theorem dX12_readPad_206 : decode cX12_readPad 206 = .ok (.aload_n 0, 1) := by decide +kernel
theorem dX12_readPad_207 : decode cX12_readPad 207 = .ok (.invokevirtual 145, 3) := by decide +kernel
theorem dX12_readPad_210 : decode cX12_readPad 210 = .ok (.aload_n 0, 1) := by decide +kernel
theorem dX12_readPad_211 : decode cX12_readPad 211 = .ok (.getfield 127, 3) := by decide +kernel
theorem dX12_readPad_214 : decode cX12_readPad 214 = .ok (.iconst 5, 1) := by decide +kernel
theorem dX12_readPad_215 : decode cX12_readPad 215 = .ok (.if_icmp .eq 5, 3) := by decide +kernel
theorem dX12_readPad_218 : decode cX12_readPad 218 = .ok (.iconst 0, 1) := by decide +kernel
theorem dX12_readPad_219 : decode cX12_readPad 219 = .ok (.ireturn, 1) := by decide +kernel
theorem dX12_readPad_220 : decode cX12_readPad 220 = .ok (.aload_n 0, 1) := by decide +kernel
theorem dX12_readPad_221 : decode cX12_readPad 221 = .ok (.dup, 1) := by decide +kernel
theorem dX12_readPad_222 : decode cX12_readPad 222 = .ok (.getfield 156, 3) := by decide +kernel
theorem dX12_readPad_225 : decode cX12_readPad 225 = .ok (.iload_n 1, 1) := by decide +kernel
theorem dX12_readPad_226 : decode cX12_readPad 226 = .ok (.iconst 4, 1) := by decide +kernel
theorem dX12_readPad_227 : decode cX12_readPad 227 = .ok (.if_icmp .ne 7, 3) := by decide +kernel
theorem dX12_readPad_230 : decode cX12_readPad 230 = .ok (.iconst 1, 1) := by decide +kernel
theorem dX12_readPad_231 : decode cX12_readPad 231 = .ok (.goto 4, 3) := by decide +kernel
theorem dX12_readPad_234 : decode cX12_readPad 234 = .ok (.iconst 0, 1) := by decide +kernel
theorem dX12_readPad_235 : decode cX12_readPad 235 = .ok (.iadd, 1) := by decide +kernel
theorem dX12_readPad_236 : decode cX12_readPad 236 = .ok (.putfield 156, 3) := by decide +kernel
theorem dX12_readPad_239 : decode cX12_readPad 239 = .ok (.aload_n 0, 1) := by decide +kernel
theorem dX12_readPad_240 : decode cX12_readPad 240 = .ok (.dup, 1) := by decide +kernel
theorem dX12_readPad_241 : decode cX12_readPad 241 = .ok (.getfield 159, 3) := by decide +kernel
theorem dX12_readPad_244 : decode cX12_readPad 244 = .ok (.iload_n 2, 1) := by decide +kernel
theorem dX12_readPad_245 : decode cX12_readPad 245 = .ok (.ifCond .eq 7, 3) := by decide +kernel
theorem dX12_readPad_248 : decode cX12_readPad 248 = .ok (.iconst 1, 1) := by decide +kernel
theorem dX12_readPad_249 : decode cX12_readPad 249 = .ok (.goto 4, 3) := by decide +kernel
theorem dX12_readPad_252 : decode cX12_readPad 252 = .ok (.iconst 0, 1) := by decide +kernel
theorem dX12_readPad_253 : decode cX12_readPad 253 = .ok (.iadd, 1) := by decide +kernel
theorem dX12_readPad_254 : decode cX12_readPad 254 = .ok (.putfield 159, 3) := by decide +kernel
theorem dX12_readPad_257 : decode cX12_readPad 257 = .ok (.aload_n 0, 1) := by decide +kernel
theorem dX12_readPad_258 : decode cX12_readPad 258 = .ok (.dup, 1) := by decide +kernel
theorem dX12_readPad_259 : decode cX12_readPad 259 = .ok (.getfield 153, 3) := by decide +kernel
theorem dX12_readPad_262 : decode cX12_readPad 262 = .ok (.iconst 1, 1) := by decide +kernel
theorem dX12_readPad_263 : decode cX12_readPad 263 = .ok (.iadd, 1) := by decide +kernel
theorem dX12_readPad_264 : decode cX12_readPad 264 = .ok (.putfield 153, 3) := by decide +kernel
theorem dX12_readPad_267 : decode cX12_readPad 267 = .ok (.aload_n 0, 1) := by decide +kernel
theorem dX12_readPad_268 : decode cX12_readPad 268 = .ok (.invokevirtual 145, 3) := by decide +kernel
theorem dX12_readPad_271 : decode cX12_readPad 271 = .ok (.goto (-196), 3) := by decide +kernel
theorem dX12_readPad_274 : decode cX12_readPad 274 = .ok (.iconst 1, 1) := by decide +kernel
theorem dX12_readPad_275 : decode cX12_readPad 275 = .ok (.ireturn, 1) := by decide +kernel
theorem dX12_read_0 : decode cX12_read 0 = .ok (.aload_n 0, 1) := by decide +kernel
theorem dX12_read_1 : decode cX12_read 1 = .ok (.invokevirtual 168, 3) := by decide +kernel
theorem dX12_read_4 : decode cX12_read 4 = .ok (.ifCond .ne 11, 3) := by decide +kernel
theorem dX12_read_7 : decode cX12_read 7 = .ok (.bipush (-10), 2) := by decide +kernel
theorem dX12_read_9 : decode cX12_read 9 = .ok (.aload_n 0, 1) := by decide +kernel
theorem dX12_read_10 : decode cX12_read 10 = .ok (.getfield 120, 3) := by decide +kernel
theorem dX12_read_13 : decode cX12_read 13 = .ok (.isub, 1) := by decide +kernel
theorem dX12_read_14 : decode cX12_read 14 = .ok (.ireturn, 1) := by decide +kernel
theorem dX12_read_15 : decode cX12_read 15 = .ok (.aload_n 0, 1) := by decide +kernel
theorem dX12_read_16 : decode cX12_read 16 = .ok (.aload_n 0, 1) := by decide +kernel
theorem dX12_read_17 : decode cX12_read 17 = .ok (.getfield 162, 3) := by decide +kernel
theorem dX12_read_20 : decode cX12_read 20 = .ok (.putfield 7, 3) := by decide +kernel
theorem dX12_read_23 : decode cX12_read 23 = .ok (.aload_n 0, 1) := by decide +kernel
theorem dX12_read_24 : decode cX12_read 24 = .ok (.invokevirtual 82, 3) := by decide +kernel
theorem dX12_read_27 : decode cX12_read 27 = .ok (.aload_n 0, 1) := by decide +kernel
theorem dX12_read_28 : decode cX12_read 28 = .ok (.iconst 0, 1) := by decide +kernel
theorem dX12_read_29 : decode cX12_read 29 = .ok (.putfield 79, 3) := by decide +kernel
theorem dX12_read_32 : decode cX12_read 32 = .ok (.iconst 1, 1) := by decide +kernel
theorem dX12_read_33 : decode cX12_read 33 = .ok (.istore_n 1, 1) := by decide +kernel
theorem dX12_read_34 : decode cX12_read 34 = .ok (.iload_n 1, 1) := by decide +kernel
theorem dX12_read_35 : decode cX12_read 35 = .ok (.aload_n 0, 1) := by decide +kernel
theorem dX12_read_36 : decode cX12_read 36 = .ok (.getfield 153, 3) := by decide +kernel
theorem dX12_read_39 : decode cX12_read 39 = .ok (.if_icmp .ge 97, 3) := by decide +kernel
theorem dX12_read_42 : decode cX12_read 42 = .ok (.iconst 4, 1) := by decide +kernel
theorem dX12_read_43 : decode cX12_read 43 = .ok (.iload_n 1, 1) := by decide +kernel
theorem dX12_read_44 : decode cX12_read 44 = .ok (.imul, 1) := by decide +kernel
theorem dX12_read_45 : decode cX12_read 45 = .ok (.istore_n 2, 1) := by decide +kernel
theorem dX12_read_46 : decode cX12_read 46 = .ok (.aload_n 0, 1) := by decide +kernel
theorem dX12_read_47 : decode cX12_read 47 = .ok (.getfield 33, 3) := by decide +kernel
theorem dX12_read_50 : decode cX12_read 50 = .ok (.iload_n 2, 1) := by decide +kernel
theorem dX12_read_51 : decode cX12_read 51 = .ok (.iaload, 1) := by decide +kernel
theorem dX12_read_52 : decode cX12_read 52 = .ok (.iconst 2, 1) := by decide +kernel
theorem dX12_read_53 : decode cX12_read 53 = .ok (.if_icmp .ne 25, 3) := by decide +kernel
theorem dX12_read_56 : decode cX12_read 56 = .ok (.aload_n 0, 1) := by decide +kernel
theorem dX12_read_57 : decode cX12_read 57 = .ok (.dup, 1) := by decide +kernel
theorem dX12_read_58 : decode cX12_read 58 = .ok (.getfield 67, 3) := by decide +kernel
theorem dX12_read_61 : decode cX12_read 61 = .ok (.iconst 1, 1) := by decide +kernel
theorem dX12_read_62 : decode cX12_read 62 = .ok (.aload_n 0, 1) := by decide +kernel
theorem dX12_read_63 : decode cX12_read 63 = .ok (.getfield 33, 3) := by decide +kernel
theorem dX12_read_66 : decode cX12_read 66 = .ok (.iload_n 2, 1) := by decide +kernel
theorem dX12_read_67 : decode cX12_read 67 = .ok (.iconst 1, 1) := by decide +kernel
theorem dX12_read_68 : decode cX12_read 68 = .ok (.iadd, 1) := by decide +kernel
theorem dX12_read_69 : decode cX12_read 69 = .ok (.iaload, 1) := by decide +kernel
theorem dX12_read_70 : decode cX12_read 70 = .ok (.ishl, 1) := by decide +kernel
theorem dX12_read_71 : decode cX12_read 71 = .ok (.ior, 1) := by decide +kernel
theorem dX12_read_72 : decode cX12_read 72 = .ok (.putfield 67, 3) := by decide +kernel
theorem dX12_read_75 : decode cX12_read 75 = .ok (.goto 55, 3) := by decide +kernel
theorem dX12_read_78 : decode cX12_read 78 = .ok (.aload_n 0, 1) := by decide +kernel
theorem dX12_read_79 : decode cX12_read 79 = .ok (.getfield 33, 3) := by decide +kernel
theorem dX12_read_82 : decode cX12_read 82 = .ok (.iload_n 2, 1) := by decide +kernel
theorem dX12_read_83 : decode cX12_read 83 = .ok (.iaload, 1) := by decide +kernel
theorem dX12_read_84 : decode cX12_read 84 = .ok (.iconst 3, 1) := by decide +kernel
theorem dX12_read_85 : decode cX12_read 85 = .ok (.if_icmp .ne 34, 3) := by decide +kernel
theorem dX12_read_88 : decode cX12_read 88 = .ok (.aload_n 0, 1) := by decide +kernel
theorem dX12_read_89 : decode cX12_read 89 = .ok (.aload_n 0, 1) := by decide +kernel
theorem dX12_read_90 : decode cX12_read 90 = .ok (.getfield 33, 3) := by decide +kernel
theorem dX12_read_93 : decode cX12_read 93 = .ok (.iload_n 2, 1) := by decide +kernel
theorem dX12_read_94 : decode cX12_read 94 = .ok (.iconst 1, 1) := by decide +kernel
theorem dX12_read_95 : decode cX12_read 95 = .ok (.iadd, 1) := by decide +kernel
theorem dX12_read_96 : decode cX12_read 96 = .ok (.iaload, 1) := by decide +kernel
theorem dX12_read_97 : decode cX12_read 97 = .ok (.aload_n 0, 1) := by decide +kernel
theorem dX12_read_98 : decode cX12_read 98 = .ok (.getfield 33, 3) := by decide +kernel
theorem dX12_read_101 : decode cX12_read 101 = .ok (.iload_n 2, 1) := by decide +kernel
theorem dX12_read_102 : decode cX12_read 102 = .ok (.iconst 2, 1) := by decide +kernel
theorem dX12_read_103 : decode cX12_read 103 = .ok (.iadd, 1) := by decide +kernel
theorem dX12_read_104 : decode cX12_read 104 = .ok (.iaload, 1) := by decide +kernel
theorem dX12_read_105 : decode cX12_read 105 = .ok (.aload_n 0, 1) := by decide +kernel
theorem dX12_read_106 : decode cX12_read 106 = .ok (.getfield 33, 3) := by decide +kernel
theorem dX12_read_109 : decode cX12_read 109 = .ok (.iload_n 2, 1) := by decide +kernel
theorem dX12_read_110 : decode cX12_read 110 = .ok (.iconst 3, 1) := by decide +kernel
theorem dX12_read_111 : decode cX12_read 111 = .ok (.iadd, 1) := by decide +kernel
theorem dX12_read_112 : decode cX12_read 112 = .ok (.iaload, 1) := by decide +kernel
theorem dX12_read_113 : decode cX12_read 113 = .ok (.invokevirtual 109, 3) := by decide +kernel
theorem dX12_read_116 : decode cX12_read 116 = .ok (.goto 14, 3) := by decide +kernel
theorem dX12_read_119 : decode cX12_read 119 = .ok (.aload_n 0, 1) := by decide +kernel
theorem dX12_read_120 : decode cX12_read 120 = .ok (.getfield 17, 3) := by decide +kernel
theorem dX12_read_123 : decode cX12_read 123 = .ok (.bipush 125, 2) := by decide +kernel
theorem dX12_read_125 : decode cX12_read 125 = .ok (.dup2, 1) := by decide +kernel
theorem dX12_read_126 : decode cX12_read 126 = .ok (.iaload, 1) := by decide +kernel
theorem dX12_read_127 : decode cX12_read 127 = .ok (.iconst 1, 1) := by decide +kernel
theorem dX12_read_128 : decode cX12_read 128 = .ok (.iadd, 1) := by decide +kernel
theorem dX12_read_129 : decode cX12_read 129 = .ok (.iastore, 1) := by decide +kernel
theorem dX12_read_130 : decode cX12_read 130 = .ok (.iinc 1 1, 3) := by decide +kernel
theorem dX12_read_133 : decode cX12_read 133 = .ok (.goto (-99), 3) := by decide +kernel
theorem dX12_read_136 : decode cX12_read 136 = .ok (.aload_n 0, 1) := by decide +kernel
theorem dX12_read_137 : decode cX12_read 137 = .ok (.getfield 153, 3) := by decide +kernel
theorem dX12_read_140 : decode cX12_read 140 = .ok (.ireturn, 1) := by decide +kernel
theorem dX12_writtenOn_0 : decode cX12_writtenOn 0 = .ok (.iconst 0, 1) := by decide +kernel
theorem dX12_writtenOn_1 : decode cX12_writtenOn 1 = .ok (.istore_n 2, 1) := by decide +kernel
theorem dX12_writtenOn_2 : decode cX12_writtenOn 2 = .ok (.iconst 0, 1) := by decide +kernel
theorem dX12_writtenOn_3 : decode cX12_writtenOn 3 = .ok (.istore_n 3, 1) := by decide +kernel
theorem dX12_writtenOn_4 : decode cX12_writtenOn 4 = .ok (.iload_n 3, 1) := by decide +kernel
theorem dX12_writtenOn_5 : decode cX12_writtenOn 5 = .ok (.aload_n 0, 1) := by decide +kernel
theorem dX12_writtenOn_6 : decode cX12_writtenOn 6 = .ok (.getfield 17, 3) := by decide +kernel
theorem dX12_writtenOn_9 : decode cX12_writtenOn 9 = .ok (.bipush 124, 2) := by decide +kernel
theorem dX12_writtenOn_11 : decode cX12_writtenOn 11 = .ok (.iaload, 1) := by decide +kernel
theorem dX12_writtenOn_12 : decode cX12_writtenOn 12 = .ok (.if_icmp .ge 36, 3) := by decide +kernel
theorem dX12_writtenOn_15 : decode cX12_writtenOn 15 = .ok (.iload_n 2, 1) := by decide +kernel
theorem dX12_writtenOn_16 : decode cX12_writtenOn 16 = .ok (.aload_n 0, 1) := by decide +kernel
theorem dX12_writtenOn_17 : decode cX12_writtenOn 17 = .ok (.getfield 17, 3) := by decide +kernel
theorem dX12_writtenOn_20 : decode cX12_writtenOn 20 = .ok (.bipush 84, 2) := by decide +kernel
theorem dX12_writtenOn_22 : decode cX12_writtenOn 22 = .ok (.iconst 4, 1) := by decide +kernel
theorem dX12_writtenOn_23 : decode cX12_writtenOn 23 = .ok (.iload_n 3, 1) := by decide +kernel
theorem dX12_writtenOn_24 : decode cX12_writtenOn 24 = .ok (.imul, 1) := by decide +kernel
theorem dX12_writtenOn_25 : decode cX12_writtenOn 25 = .ok (.iadd, 1) := by decide +kernel
theorem dX12_writtenOn_26 : decode cX12_writtenOn 26 = .ok (.iconst 3, 1) := by decide +kernel
theorem dX12_writtenOn_27 : decode cX12_writtenOn 27 = .ok (.iadd, 1) := by decide +kernel
theorem dX12_writtenOn_28 : decode cX12_writtenOn 28 = .ok (.iaload, 1) := by decide +kernel
theorem dX12_writtenOn_29 : decode cX12_writtenOn 29 = .ok (.iload_n 1, 1) := by decide +kernel
theorem dX12_writtenOn_30 : decode cX12_writtenOn 30 = .ok (.if_icmp .ne 9, 3) := by decide +kernel
theorem dX12_writtenOn_33 : decode cX12_writtenOn 33 = .ok (.iconst 1, 1) := by decide +kernel
theorem dX12_writtenOn_34 : decode cX12_writtenOn 34 = .ok (.iload_n 3, 1) := by decide +kernel
theorem dX12_writtenOn_35 : decode cX12_writtenOn 35 = .ok (.ishl, 1) := by decide +kernel
theorem dX12_writtenOn_36 : decode cX12_writtenOn 36 = .ok (.goto 4, 3) := by decide +kernel
theorem dX12_writtenOn_39 : decode cX12_writtenOn 39 = .ok (.iconst 0, 1) := by decide +kernel
theorem dX12_writtenOn_40 : decode cX12_writtenOn 40 = .ok (.ior, 1) := by decide +kernel
theorem dX12_writtenOn_41 : decode cX12_writtenOn 41 = .ok (.istore_n 2, 1) := by decide +kernel
theorem dX12_writtenOn_42 : decode cX12_writtenOn 42 = .ok (.iinc 3 1, 3) := by decide +kernel
theorem dX12_writtenOn_45 : decode cX12_writtenOn 45 = .ok (.goto (-41), 3) := by decide +kernel
theorem dX12_writtenOn_48 : decode cX12_writtenOn 48 = .ok (.iload_n 2, 1) := by decide +kernel
theorem dX12_writtenOn_49 : decode cX12_writtenOn 49 = .ok (.ireturn, 1) := by decide +kernel
theorem dX12_of_0 : decode cX12_of 0 = .ok (.aload_n 0, 1) := by decide +kernel
theorem dX12_of_1 : decode cX12_of 1 = .ok (.iload_n 1, 1) := by decide +kernel
theorem dX12_of_2 : decode cX12_of 2 = .ok (.invokevirtual 172, 3) := by decide +kernel
theorem dX12_of_5 : decode cX12_of 5 = .ok (.ifCond .ne 8, 3) := by decide +kernel
theorem dX12_of_8 : decode cX12_of 8 = .ok (.aload_n 0, 1) := by decide +kernel
theorem dX12_of_9 : decode cX12_of 9 = .ok (.invokevirtual 175, 3) := by decide +kernel
theorem dX12_of_12 : decode cX12_of 12 = .ok (.ireturn, 1) := by decide +kernel
theorem dX12_of_13 : decode cX12_of 13 = .ok (.iload_n 2, 1) := by decide +kernel
theorem dX12_of_14 : decode cX12_of 14 = .ok (.tableswitch 80 0 3 #[30, 39, 49, 74], 30) := by decide +kernel
theorem dX12_of_44 : decode cX12_of 44 = .ok (.aload_n 0, 1) := by decide +kernel
theorem dX12_of_45 : decode cX12_of 45 = .ok (.getfield 17, 3) := by decide +kernel
theorem dX12_of_48 : decode cX12_of 48 = .ok (.iconst 0, 1) := by decide +kernel
theorem dX12_of_49 : decode cX12_of 49 = .ok (.iload_n 1, 1) := by decide +kernel
theorem dX12_of_50 : decode cX12_of 50 = .ok (.iadd, 1) := by decide +kernel
theorem dX12_of_51 : decode cX12_of 51 = .ok (.iaload, 1) := by decide +kernel
theorem dX12_of_52 : decode cX12_of 52 = .ok (.ireturn, 1) := by decide +kernel
theorem dX12_of_53 : decode cX12_of 53 = .ok (.aload_n 0, 1) := by decide +kernel
theorem dX12_of_54 : decode cX12_of 54 = .ok (.getfield 17, 3) := by decide +kernel
theorem dX12_of_57 : decode cX12_of 57 = .ok (.bipush 6, 2) := by decide +kernel
theorem dX12_of_59 : decode cX12_of 59 = .ok (.iload_n 1, 1) := by decide +kernel
theorem dX12_of_60 : decode cX12_of 60 = .ok (.iadd, 1) := by decide +kernel
theorem dX12_of_61 : decode cX12_of 61 = .ok (.iaload, 1) := by decide +kernel
theorem dX12_of_62 : decode cX12_of 62 = .ok (.ireturn, 1) := by decide +kernel
theorem dX12_of_63 : decode cX12_of 63 = .ok (.iload_n 1, 1) := by decide +kernel
theorem dX12_of_64 : decode cX12_of 64 = .ok (.aload_n 0, 1) := by decide +kernel
theorem dX12_of_65 : decode cX12_of 65 = .ok (.getfield 17, 3) := by decide +kernel
theorem dX12_of_68 : decode cX12_of 68 = .ok (.bipush 125, 2) := by decide +kernel
theorem dX12_of_70 : decode cX12_of 70 = .ok (.iaload, 1) := by decide +kernel
theorem dX12_of_71 : decode cX12_of 71 = .ok (.if_icmp .ge 7, 3) := by decide +kernel
theorem dX12_of_74 : decode cX12_of 74 = .ok (.iconst (-1), 1) := by decide +kernel
theorem dX12_of_75 : decode cX12_of 75 = .ok (.goto 12, 3) := by decide +kernel
theorem dX12_of_78 : decode cX12_of 78 = .ok (.iload_n 1, 1) := by decide +kernel
theorem dX12_of_79 : decode cX12_of 79 = .ok (.aload_n 0, 1) := by decide +kernel
theorem dX12_of_80 : decode cX12_of 80 = .ok (.getfield 17, 3) := by decide +kernel
theorem dX12_of_83 : decode cX12_of 83 = .ok (.bipush 125, 2) := by decide +kernel
theorem dX12_of_85 : decode cX12_of 85 = .ok (.iaload, 1) := by decide +kernel
theorem dX12_of_86 : decode cX12_of 86 = .ok (.isub, 1) := by decide +kernel
theorem dX12_of_87 : decode cX12_of 87 = .ok (.ireturn, 1) := by decide +kernel
theorem dX12_of_88 : decode cX12_of 88 = .ok (.aload_n 0, 1) := by decide +kernel
theorem dX12_of_89 : decode cX12_of 89 = .ok (.iload_n 1, 1) := by decide +kernel
theorem dX12_of_90 : decode cX12_of 90 = .ok (.invokevirtual 178, 3) := by decide +kernel
theorem dX12_of_93 : decode cX12_of 93 = .ok (.ireturn, 1) := by decide +kernel
theorem dX12_of_94 : decode cX12_of 94 = .ok (.aload_n 0, 1) := by decide +kernel
theorem dX12_of_95 : decode cX12_of 95 = .ok (.invokevirtual 175, 3) := by decide +kernel
theorem dX12_of_98 : decode cX12_of 98 = .ok (.ireturn, 1) := by decide +kernel
theorem dX12_dentOf_0 : decode cX12_dentOf 0 = .ok (.aload_n 0, 1) := by decide +kernel
theorem dX12_dentOf_1 : decode cX12_dentOf 1 = .ok (.getfield 17, 3) := by decide +kernel
theorem dX12_dentOf_4 : decode cX12_dentOf 4 = .ok (.bipush 12, 2) := by decide +kernel
theorem dX12_dentOf_6 : decode cX12_dentOf 6 = .ok (.bipush 12, 2) := by decide +kernel
theorem dX12_dentOf_8 : decode cX12_dentOf 8 = .ok (.iload_n 1, 1) := by decide +kernel
theorem dX12_dentOf_9 : decode cX12_dentOf 9 = .ok (.imul, 1) := by decide +kernel
theorem dX12_dentOf_10 : decode cX12_dentOf 10 = .ok (.iadd, 1) := by decide +kernel
theorem dX12_dentOf_11 : decode cX12_dentOf 11 = .ok (.iload_n 2, 1) := by decide +kernel
theorem dX12_dentOf_12 : decode cX12_dentOf 12 = .ok (.iadd, 1) := by decide +kernel
theorem dX12_dentOf_13 : decode cX12_dentOf 13 = .ok (.iaload, 1) := by decide +kernel
theorem dX12_dentOf_14 : decode cX12_dentOf 14 = .ok (.ireturn, 1) := by decide +kernel
theorem dX12_dent_0 : decode cX12_dent 0 = .ok (.aload_n 0, 1) := by decide +kernel
theorem dX12_dent_1 : decode cX12_dent 1 = .ok (.iload_n 1, 1) := by decide +kernel
theorem dX12_dent_2 : decode cX12_dent 2 = .ok (.invokevirtual 172, 3) := by decide +kernel
theorem dX12_dent_5 : decode cX12_dent 5 = .ok (.ifCond .eq 24, 3) := by decide +kernel
theorem dX12_dent_8 : decode cX12_dent 8 = .ok (.iload_n 2, 1) := by decide +kernel
theorem dX12_dent_9 : decode cX12_dent 9 = .ok (.i2l, 1) := by decide +kernel
theorem dX12_dent_10 : decode cX12_dent 10 = .ok (.lconst 0, 1) := by decide +kernel
theorem dX12_dent_11 : decode cX12_dent 11 = .ok (.ldc2_w 151, 3) := by decide +kernel
theorem dX12_dent_14 : decode cX12_dent 14 = .ok (.invokestatic 56, 3) := by decide +kernel
theorem dX12_dent_17 : decode cX12_dent 17 = .ok (.ifCond .eq 12, 3) := by decide +kernel
theorem dX12_dent_20 : decode cX12_dent 20 = .ok (.aload_n 0, 1) := by decide +kernel
theorem dX12_dent_21 : decode cX12_dent 21 = .ok (.iload_n 1, 1) := by decide +kernel
theorem dX12_dent_22 : decode cX12_dent 22 = .ok (.iload_n 2, 1) := by decide +kernel
theorem dX12_dent_23 : decode cX12_dent 23 = .ok (.invokevirtual 181, 3) := by decide +kernel
theorem dX12_dent_26 : decode cX12_dent 26 = .ok (.goto 7, 3) := by decide +kernel
theorem dX12_dent_29 : decode cX12_dent 29 = .ok (.aload_n 0, 1) := by decide +kernel
theorem dX12_dent_30 : decode cX12_dent 30 = .ok (.invokevirtual 75, 3) := by decide +kernel
theorem dX12_dent_33 : decode cX12_dent 33 = .ok (.ireturn, 1) := by decide +kernel
theorem dX12_about_0 : decode cX12_about 0 = .ok (.iload_n 1, 1) := by decide +kernel
theorem dX12_about_1 : decode cX12_about 1 = .ok (.i2l, 1) := by decide +kernel
theorem dX12_about_2 : decode cX12_about 2 = .ok (.lconst 0, 1) := by decide +kernel
theorem dX12_about_3 : decode cX12_about 3 = .ok (.aload_n 0, 1) := by decide +kernel
theorem dX12_about_4 : decode cX12_about 4 = .ok (.getfield 17, 3) := by decide +kernel
theorem dX12_about_7 : decode cX12_about 7 = .ok (.bipush 124, 2) := by decide +kernel
theorem dX12_about_9 : decode cX12_about 9 = .ok (.iaload, 1) := by decide +kernel
theorem dX12_about_10 : decode cX12_about 10 = .ok (.iconst 1, 1) := by decide +kernel
theorem dX12_about_11 : decode cX12_about 11 = .ok (.isub, 1) := by decide +kernel
theorem dX12_about_12 : decode cX12_about 12 = .ok (.i2l, 1) := by decide +kernel
theorem dX12_about_13 : decode cX12_about 13 = .ok (.invokestatic 56, 3) := by decide +kernel
theorem dX12_about_16 : decode cX12_about 16 = .ok (.ifCond .ne 8, 3) := by decide +kernel
theorem dX12_about_19 : decode cX12_about 19 = .ok (.aload_n 0, 1) := by decide +kernel
theorem dX12_about_20 : decode cX12_about 20 = .ok (.invokevirtual 75, 3) := by decide +kernel
theorem dX12_about_23 : decode cX12_about 23 = .ok (.ireturn, 1) := by decide +kernel
theorem dX12_about_24 : decode cX12_about 24 = .ok (.bipush 84, 2) := by decide +kernel
theorem dX12_about_26 : decode cX12_about 26 = .ok (.iconst 4, 1) := by decide +kernel
theorem dX12_about_27 : decode cX12_about 27 = .ok (.iload_n 1, 1) := by decide +kernel
theorem dX12_about_28 : decode cX12_about 28 = .ok (.imul, 1) := by decide +kernel
theorem dX12_about_29 : decode cX12_about 29 = .ok (.iadd, 1) := by decide +kernel
theorem dX12_about_30 : decode cX12_about 30 = .ok (.istore_n 3, 1) := by decide +kernel
theorem dX12_about_31 : decode cX12_about 31 = .ok (.iload_n 2, 1) := by decide +kernel
theorem dX12_about_32 : decode cX12_about 32 = .ok (.tableswitch 86 0 5 #[40, 40, 40, 40, 49, 68], 40) := by decide +kernel
theorem dX12_about_72 : decode cX12_about 72 = .ok (.aload_n 0, 1) := by decide +kernel
theorem dX12_about_73 : decode cX12_about 73 = .ok (.getfield 17, 3) := by decide +kernel
theorem dX12_about_76 : decode cX12_about 76 = .ok (.iload_n 3, 1) := by decide +kernel
theorem dX12_about_77 : decode cX12_about 77 = .ok (.iload_n 2, 1) := by decide +kernel
theorem dX12_about_78 : decode cX12_about 78 = .ok (.iadd, 1) := by decide +kernel
theorem dX12_about_79 : decode cX12_about 79 = .ok (.iaload, 1) := by decide +kernel
theorem dX12_about_80 : decode cX12_about 80 = .ok (.ireturn, 1) := by decide +kernel
theorem dX12_about_81 : decode cX12_about 81 = .ok (.aload_n 0, 1) := by decide +kernel
theorem dX12_about_82 : decode cX12_about 82 = .ok (.getfield 17, 3) := by decide +kernel
theorem dX12_about_85 : decode cX12_about 85 = .ok (.iload_n 3, 1) := by decide +kernel
theorem dX12_about_86 : decode cX12_about 86 = .ok (.iaload, 1) := by decide +kernel
theorem dX12_about_87 : decode cX12_about 87 = .ok (.aload_n 0, 1) := by decide +kernel
theorem dX12_about_88 : decode cX12_about 88 = .ok (.getfield 17, 3) := by decide +kernel
theorem dX12_about_91 : decode cX12_about 91 = .ok (.iload_n 3, 1) := by decide +kernel
theorem dX12_about_92 : decode cX12_about 92 = .ok (.iconst 1, 1) := by decide +kernel
theorem dX12_about_93 : decode cX12_about 93 = .ok (.iadd, 1) := by decide +kernel
theorem dX12_about_94 : decode cX12_about 94 = .ok (.iaload, 1) := by decide +kernel
theorem dX12_about_95 : decode cX12_about 95 = .ok (.iconst 0, 1) := by decide +kernel
theorem dX12_about_96 : decode cX12_about 96 = .ok (.invokestatic 89, 3) := by decide +kernel
theorem dX12_about_99 : decode cX12_about 99 = .ok (.ireturn, 1) := by decide +kernel
theorem dX12_about_100 : decode cX12_about 100 = .ok (.aload_n 0, 1) := by decide +kernel
theorem dX12_about_101 : decode cX12_about 101 = .ok (.getfield 17, 3) := by decide +kernel
theorem dX12_about_104 : decode cX12_about 104 = .ok (.iload_n 3, 1) := by decide +kernel
theorem dX12_about_105 : decode cX12_about 105 = .ok (.iaload, 1) := by decide +kernel
theorem dX12_about_106 : decode cX12_about 106 = .ok (.invokestatic 85, 3) := by decide +kernel
theorem dX12_about_109 : decode cX12_about 109 = .ok (.ifCond .eq 7, 3) := by decide +kernel
theorem dX12_about_112 : decode cX12_about 112 = .ok (.iconst 1, 1) := by decide +kernel
theorem dX12_about_113 : decode cX12_about 113 = .ok (.goto 4, 3) := by decide +kernel
theorem dX12_about_116 : decode cX12_about 116 = .ok (.iconst 0, 1) := by decide +kernel
theorem dX12_about_117 : decode cX12_about 117 = .ok (.ireturn, 1) := by decide +kernel
theorem dX12_about_118 : decode cX12_about 118 = .ok (.aload_n 0, 1) := by decide +kernel
theorem dX12_about_119 : decode cX12_about 119 = .ok (.invokevirtual 75, 3) := by decide +kernel
theorem dX12_about_122 : decode cX12_about 122 = .ok (.ireturn, 1) := by decide +kernel
theorem dX12_force_0 : decode cX12_force 0 = .ok (.iload_n 1, 1) := by decide +kernel
theorem dX12_force_1 : decode cX12_force 1 = .ok (.iload_n 2, 1) := by decide +kernel
theorem dX12_force_2 : decode cX12_force 2 = .ok (.invokestatic 101, 3) := by decide +kernel
theorem dX12_force_5 : decode cX12_force 5 = .ok (.ifCond .eq 24, 3) := by decide +kernel
theorem dX12_force_8 : decode cX12_force 8 = .ok (.iload_n 3, 1) := by decide +kernel
theorem dX12_force_9 : decode cX12_force 9 = .ok (.i2l, 1) := by decide +kernel
theorem dX12_force_10 : decode cX12_force 10 = .ok (.lconst 0, 1) := by decide +kernel
theorem dX12_force_11 : decode cX12_force 11 = .ok (.ldc2_w 60, 3) := by decide +kernel
theorem dX12_force_14 : decode cX12_force 14 = .ok (.invokestatic 56, 3) := by decide +kernel
theorem dX12_force_17 : decode cX12_force 17 = .ok (.ifCond .eq 12, 3) := by decide +kernel
theorem dX12_force_20 : decode cX12_force 20 = .ok (.iload_n 1, 1) := by decide +kernel
theorem dX12_force_21 : decode cX12_force 21 = .ok (.iload_n 2, 1) := by decide +kernel
theorem dX12_force_22 : decode cX12_force 22 = .ok (.iload_n 3, 1) := by decide +kernel
theorem dX12_force_23 : decode cX12_force 23 = .ok (.invokestatic 89, 3) := by decide +kernel
theorem dX12_force_26 : decode cX12_force 26 = .ok (.goto 7, 3) := by decide +kernel
theorem dX12_force_29 : decode cX12_force 29 = .ok (.aload_n 0, 1) := by decide +kernel
theorem dX12_force_30 : decode cX12_force 30 = .ok (.invokevirtual 75, 3) := by decide +kernel
theorem dX12_force_33 : decode cX12_force 33 = .ok (.ireturn, 1) := by decide +kernel
theorem dX12_forceIn_0 : decode cX12_forceIn 0 = .ok (.bipush 84, 2) := by decide +kernel
theorem dX12_forceIn_2 : decode cX12_forceIn 2 = .ok (.iconst 4, 1) := by decide +kernel
theorem dX12_forceIn_3 : decode cX12_forceIn 3 = .ok (.iload_n 1, 1) := by decide +kernel
theorem dX12_forceIn_4 : decode cX12_forceIn 4 = .ok (.imul, 1) := by decide +kernel
theorem dX12_forceIn_5 : decode cX12_forceIn 5 = .ok (.iadd, 1) := by decide +kernel
theorem dX12_forceIn_6 : decode cX12_forceIn 6 = .ok (.istore 4, 2) := by decide +kernel
theorem dX12_forceIn_8 : decode cX12_forceIn 8 = .ok (.iload_n 2, 1) := by decide +kernel
theorem dX12_forceIn_9 : decode cX12_forceIn 9 = .ok (.aload_n 0, 1) := by decide +kernel
theorem dX12_forceIn_10 : decode cX12_forceIn 10 = .ok (.getfield 17, 3) := by decide +kernel
theorem dX12_forceIn_13 : decode cX12_forceIn 13 = .ok (.iload 4, 2) := by decide +kernel
theorem dX12_forceIn_15 : decode cX12_forceIn 15 = .ok (.iconst 3, 1) := by decide +kernel
theorem dX12_forceIn_16 : decode cX12_forceIn 16 = .ok (.iadd, 1) := by decide +kernel
theorem dX12_forceIn_17 : decode cX12_forceIn 17 = .ok (.iaload, 1) := by decide +kernel
theorem dX12_forceIn_18 : decode cX12_forceIn 18 = .ok (.isub, 1) := by decide +kernel
theorem dX12_forceIn_19 : decode cX12_forceIn 19 = .ok (.istore 5, 2) := by decide +kernel
theorem dX12_forceIn_21 : decode cX12_forceIn 21 = .ok (.iload 5, 2) := by decide +kernel
theorem dX12_forceIn_23 : decode cX12_forceIn 23 = .ok (.ifCond .lt 43, 3) := by decide +kernel
theorem dX12_forceIn_26 : decode cX12_forceIn 26 = .ok (.aload_n 0, 1) := by decide +kernel
theorem dX12_forceIn_27 : decode cX12_forceIn 27 = .ok (.getfield 17, 3) := by decide +kernel
theorem dX12_forceIn_30 : decode cX12_forceIn 30 = .ok (.iload 4, 2) := by decide +kernel
theorem dX12_forceIn_32 : decode cX12_forceIn 32 = .ok (.iconst 2, 1) := by decide +kernel
theorem dX12_forceIn_33 : decode cX12_forceIn 33 = .ok (.iadd, 1) := by decide +kernel
theorem dX12_forceIn_34 : decode cX12_forceIn 34 = .ok (.iaload, 1) := by decide +kernel
theorem dX12_forceIn_35 : decode cX12_forceIn 35 = .ok (.iload_n 3, 1) := by decide +kernel
theorem dX12_forceIn_36 : decode cX12_forceIn 36 = .ok (.invokestatic 93, 3) := by decide +kernel
theorem dX12_forceIn_39 : decode cX12_forceIn 39 = .ok (.ifCond .eq 27, 3) := by decide +kernel
theorem dX12_forceIn_42 : decode cX12_forceIn 42 = .ok (.aload_n 0, 1) := by decide +kernel
theorem dX12_forceIn_43 : decode cX12_forceIn 43 = .ok (.getfield 17, 3) := by decide +kernel
theorem dX12_forceIn_46 : decode cX12_forceIn 46 = .ok (.iload 4, 2) := by decide +kernel
theorem dX12_forceIn_48 : decode cX12_forceIn 48 = .ok (.iaload, 1) := by decide +kernel
theorem dX12_forceIn_49 : decode cX12_forceIn 49 = .ok (.aload_n 0, 1) := by decide +kernel
theorem dX12_forceIn_50 : decode cX12_forceIn 50 = .ok (.getfield 17, 3) := by decide +kernel
theorem dX12_forceIn_53 : decode cX12_forceIn 53 = .ok (.iload 4, 2) := by decide +kernel
theorem dX12_forceIn_55 : decode cX12_forceIn 55 = .ok (.iconst 1, 1) := by decide +kernel
theorem dX12_forceIn_56 : decode cX12_forceIn 56 = .ok (.iadd, 1) := by decide +kernel
theorem dX12_forceIn_57 : decode cX12_forceIn 57 = .ok (.iaload, 1) := by decide +kernel
theorem dX12_forceIn_58 : decode cX12_forceIn 58 = .ok (.iload 5, 2) := by decide +kernel
theorem dX12_forceIn_60 : decode cX12_forceIn 60 = .ok (.invokestatic 89, 3) := by decide +kernel
theorem dX12_forceIn_63 : decode cX12_forceIn 63 = .ok (.goto 4, 3) := by decide +kernel
theorem dX12_forceIn_66 : decode cX12_forceIn 66 = .ok (.iconst 0, 1) := by decide +kernel
theorem dX12_forceIn_67 : decode cX12_forceIn 67 = .ok (.ireturn, 1) := by decide +kernel
set_option maxHeartbeats 4000000 in
set_option maxRecDepth 100000 in
theorem vjX12_readPad_253 (C : VC pr s m args meth c E A cX12_readPad 4 (some .boolean) RX12) (hA : va_A w0 s.heap.size = A) (a : Nat → Nat)  {Post : Int32 → St → Prop} {self : (St) → Prop} {KX : St → Prop} (z0 : Int32) (z1 : Int32) (p : St) (hw : wjX12_readPad_253  Post self KX z0 z1 p) (hself : ∀ (p : St), self p → V pr l e rmX12_readPad s m args below meth c E A 4 0 0 (MQ below (CQi E Post (fun u => (fl [bModel E a u])) w0 s.heap.size) args s 0 0 A) (fl [bModel E a p]) 75 [(0, .ref (a 0))] []) (hX : ∀ (p : St), KX p → V pr l e rmX12_readPad s m args below meth c E A 4 0 0 (MQ below (CQi E Post (fun u => (fl [bModel E a u])) w0 s.heap.size) args s 0 0 A) (fl [bModel E a p]) 274 [] []) : V pr l e rmX12_readPad s m args below meth c E A 4 0 0 (MQ below (CQi E Post (fun u => (fl [bModel E a u])) w0 s.heap.size) args s 0 0 A) (fl [bModel E a p]) 253 [(0, .ref (a 0))] [.int z0, .int z1, .ref (a 0)] := by
  refine v_iadd (pc := 253) C dX12_readPad_253 ?_
  obtain ⟨p16, es⟩ : ∃ y : St, y = p.sI 20 (z1 + z0) := ⟨_, rfl⟩
  have hw := hw p16 es
  refine v_put (pc := 254) C cfX12 rfl 0 20 (ty := .int) (w' := (fl [bModel E a p16])) rfl (by subst es; rfl) (by decide) wfX12_159 rfl rfl rfl rfl (Nat.le_of_ble_eq_true rfl) dX12_readPad_254 ?_
  refine v_aload_n (pc := 257) C 0 rfl rfl dX12_readPad_257 ?_
  refine v_dup (pc := 258) C rfl dX12_readPad_258 ?_
  refine v_get (pc := 259) C cfX12 rfl 0 17 rfl (by decide) wfX12_153 rfl dX12_readPad_259 ?_
  refine v_iconst (pc := 262) C 1 ki_1 dX12_readPad_262 ?_
  refine v_iadd (pc := 263) C dX12_readPad_263 ?_
  obtain ⟨p17, es⟩ : ∃ y : St, y = p16.sI 17 ((p16.I 17) + 1) := ⟨_, rfl⟩
  have hw := hw p17 es
  refine v_put (pc := 264) C cfX12 rfl 0 17 (ty := .int) (w' := (fl [bModel E a p17])) rfl (by subst es; rfl) (by decide) wfX12_153 rfl rfl rfl rfl (Nat.le_of_ble_eq_true rfl) dX12_readPad_264 ?_
  refine v_aload_n (pc := 267) C 0 rfl rfl dX12_readPad_267 ?_
  refine v_goAv (pc := 268) C (wc' := (fun (u : St) => (fl [bModel E a u]))) (fun _ => rfl) (v_runVA (pc := 268) C [] [] (fun sz => ctX12_nextToken l E a p17 hw sz) mfX12_nextToken mvX12_nextToken wmX12_145 rfl ⟨Nat.le_of_ble_eq_true rfl, Nat.le_of_ble_eq_true rfl⟩ ⟨rfl, rfl⟩ 0 (ci := 12) (qc := (RX12, TX12, 30)) rfl rfl rfl rfl (Nat.le_of_ble_eq_true rfl) ⟨Nat.zero_le _, Nat.zero_le _⟩ dX12_readPad_268) (fun p18 hw => ?_)
  refine v_goto (pc := 271) C 75 (by decide) dX12_readPad_271 ?_
  refine v_sub (lv' := [(0, .ref (a 0))]) [0] rfl ?_
  exact hself p18 hw
set_option maxHeartbeats 4000000 in
set_option maxRecDepth 100000 in
theorem vjX12_readPad_235 (C : VC pr s m args meth c E A cX12_readPad 4 (some .boolean) RX12) (hA : va_A w0 s.heap.size = A) (a : Nat → Nat)  {Post : Int32 → St → Prop} {self : (St) → Prop} {KX : St → Prop} (x2 : Int32) (z0 : Int32) (z1 : Int32) (p : St) (hw : wjX12_readPad_235  Post self KX x2 z0 z1 p) (hself : ∀ (p : St), self p → V pr l e rmX12_readPad s m args below meth c E A 4 0 0 (MQ below (CQi E Post (fun u => (fl [bModel E a u])) w0 s.heap.size) args s 0 0 A) (fl [bModel E a p]) 75 [(0, .ref (a 0))] []) (hX : ∀ (p : St), KX p → V pr l e rmX12_readPad s m args below meth c E A 4 0 0 (MQ below (CQi E Post (fun u => (fl [bModel E a u])) w0 s.heap.size) args s 0 0 A) (fl [bModel E a p]) 274 [] []) : V pr l e rmX12_readPad s m args below meth c E A 4 0 0 (MQ below (CQi E Post (fun u => (fl [bModel E a u])) w0 s.heap.size) args s 0 0 A) (fl [bModel E a p]) 235 [(0, .ref (a 0)), (2, .int x2)] [.int z0, .int z1, .ref (a 0)] := by
  refine v_iadd (pc := 235) C dX12_readPad_235 ?_
  obtain ⟨p15, es⟩ : ∃ y : St, y = p.sI 19 (z1 + z0) := ⟨_, rfl⟩
  have hw := hw p15 es
  refine v_put (pc := 236) C cfX12 rfl 0 19 (ty := .int) (w' := (fl [bModel E a p15])) rfl (by subst es; rfl) (by decide) wfX12_156 rfl rfl rfl rfl (Nat.le_of_ble_eq_true rfl) dX12_readPad_236 ?_
  refine v_aload_n (pc := 239) C 0 rfl rfl dX12_readPad_239 ?_
  refine v_dup (pc := 240) C rfl dX12_readPad_240 ?_
  refine v_get (pc := 241) C cfX12 rfl 0 20 rfl (by decide) wfX12_159 rfl dX12_readPad_241 ?_
  refine v_iload_n (pc := 244) C 1 rfl rfl dX12_readPad_244 ?_
  refine v_if_eq (pc := 245) C 252 (by decide) dX12_readPad_245 (fun hc => ?_) (fun hc => ?_)
  · have hw := hw.1 hc
    refine v_iconst (pc := 252) C 0 ki_0 dX12_readPad_252 ?_
    refine v_sub (lv' := [(0, .ref (a 0))]) [0] rfl ?_
    exact vjX12_readPad_253 C hA a  0 (p15.I 20) p15 hw hself hX
  · have hw := hw.2 hc
    refine v_iconst (pc := 248) C 1 ki_1 dX12_readPad_248 ?_
    refine v_goto (pc := 249) C 253 (by decide) dX12_readPad_249 ?_
    refine v_sub (lv' := [(0, .ref (a 0))]) [0] rfl ?_
    exact vjX12_readPad_253 C hA a  1 (p15.I 20) p15 hw hself hX
set_option maxHeartbeats 4000000 in
set_option maxRecDepth 100000 in
theorem vjX12_readPad_210 (C : VC pr s m args meth c E A cX12_readPad 4 (some .boolean) RX12) (hA : va_A w0 s.heap.size = A) (a : Nat → Nat)  {Post : Int32 → St → Prop} {self : (St) → Prop} {KX : St → Prop} (x1 : Int32) (x2 : Int32) (p : St) (hw : wjX12_readPad_210  Post self KX x1 x2 p) (hself : ∀ (p : St), self p → V pr l e rmX12_readPad s m args below meth c E A 4 0 0 (MQ below (CQi E Post (fun u => (fl [bModel E a u])) w0 s.heap.size) args s 0 0 A) (fl [bModel E a p]) 75 [(0, .ref (a 0))] []) (hX : ∀ (p : St), KX p → V pr l e rmX12_readPad s m args below meth c E A 4 0 0 (MQ below (CQi E Post (fun u => (fl [bModel E a u])) w0 s.heap.size) args s 0 0 A) (fl [bModel E a p]) 274 [] []) : V pr l e rmX12_readPad s m args below meth c E A 4 0 0 (MQ below (CQi E Post (fun u => (fl [bModel E a u])) w0 s.heap.size) args s 0 0 A) (fl [bModel E a p]) 210 [(0, .ref (a 0)), (1, .int x1), (2, .int x2)] [] := by
  refine v_aload_n (pc := 210) C 0 rfl rfl dX12_readPad_210 ?_
  refine v_get (pc := 211) C cfX12 rfl 0 13 rfl (by decide) wfX12_127 rfl dX12_readPad_211 ?_
  refine v_iconst (pc := 214) C 5 ki_5 dX12_readPad_214 ?_
  refine v_icmp_eq (pc := 215) C 220 (by decide) dX12_readPad_215 (fun hc => ?_) (fun hc => ?_)
  · have hw := hw.1 hc
    refine v_aload_n (pc := 220) C 0 rfl rfl dX12_readPad_220 ?_
    refine v_dup (pc := 221) C rfl dX12_readPad_221 ?_
    refine v_get (pc := 222) C cfX12 rfl 0 19 rfl (by decide) wfX12_156 rfl dX12_readPad_222 ?_
    refine v_iload_n (pc := 225) C 1 rfl rfl dX12_readPad_225 ?_
    refine v_iconst (pc := 226) C 4 ki_4 dX12_readPad_226 ?_
    refine v_icmp_ne (pc := 227) C 234 (by decide) dX12_readPad_227 (fun hc => ?_) (fun hc => ?_)
    · have hw := hw.1 hc
      refine v_iconst (pc := 234) C 0 ki_0 dX12_readPad_234 ?_
      refine v_sub (lv' := [(0, .ref (a 0)), (2, .int x2)]) [0, 2] rfl ?_
      exact vjX12_readPad_235 C hA a  x2 0 (p.I 19) p hw hself hX
    · have hw := hw.2 hc
      refine v_iconst (pc := 230) C 1 ki_1 dX12_readPad_230 ?_
      refine v_goto (pc := 231) C 235 (by decide) dX12_readPad_231 ?_
      refine v_sub (lv' := [(0, .ref (a 0)), (2, .int x2)]) [0, 2] rfl ?_
      exact vjX12_readPad_235 C hA a  x2 1 (p.I 19) p hw hself hX
  · have hw := hw.2 hc
    refine v_iconst (pc := 218) C 0 ki_0 dX12_readPad_218 ?_
    exact v_iretz (pc := 219) C rfl p hA rfl hw dX12_readPad_219
set_option maxHeartbeats 4000000 in
set_option maxRecDepth 100000 in
theorem vjX12_readPad_202 (C : VC pr s m args meth c E A cX12_readPad 4 (some .boolean) RX12) (hA : va_A w0 s.heap.size = A) (a : Nat → Nat)  {Post : Int32 → St → Prop} {self : (St) → Prop} {KX : St → Prop} (x1 : Int32) (x2 : Int32) (p : St) (hw : wjX12_readPad_202  Post self KX x1 x2 p) (hself : ∀ (p : St), self p → V pr l e rmX12_readPad s m args below meth c E A 4 0 0 (MQ below (CQi E Post (fun u => (fl [bModel E a u])) w0 s.heap.size) args s 0 0 A) (fl [bModel E a p]) 75 [(0, .ref (a 0))] []) (hX : ∀ (p : St), KX p → V pr l e rmX12_readPad s m args below meth c E A 4 0 0 (MQ below (CQi E Post (fun u => (fl [bModel E a u])) w0 s.heap.size) args s 0 0 A) (fl [bModel E a p]) 274 [] []) : V pr l e rmX12_readPad s m args below meth c E A 4 0 0 (MQ below (CQi E Post (fun u => (fl [bModel E a u])) w0 s.heap.size) args s 0 0 A) (fl [bModel E a p]) 202 [(0, .ref (a 0)), (1, .int x1), (2, .int x2)] [] := by
  refine v_iload_n (pc := 202) C 2 rfl rfl dX12_readPad_202 ?_
  refine v_if_ne (pc := 203) C 210 (by decide) dX12_readPad_203 (fun hc => ?_) (fun hc => ?_)
  · have hw := hw.1 hc
    refine v_sub (lv' := [(0, .ref (a 0)), (1, .int x1), (2, .int x2)]) [0, 1, 2] rfl ?_
    exact vjX12_readPad_210 C hA a  x1 x2 p hw hself hX
  · have hw := hw.2 hc
    refine v_aload_n (pc := 206) C 0 rfl rfl dX12_readPad_206 ?_
    refine v_goAv (pc := 207) C (wc' := (fun (u : St) => (fl [bModel E a u]))) (fun _ => rfl) (v_runVA (pc := 207) C [] [] (fun sz => ctX12_nextToken l E a p hw sz) mfX12_nextToken mvX12_nextToken wmX12_145 rfl ⟨Nat.le_of_ble_eq_true rfl, Nat.le_of_ble_eq_true rfl⟩ ⟨rfl, rfl⟩ 0 (ci := 12) (qc := (RX12, TX12, 30)) rfl rfl rfl rfl (Nat.le_of_ble_eq_true rfl) ⟨Nat.zero_le _, Nat.zero_le _⟩ dX12_readPad_207) (fun p19 hw => ?_)
    refine v_sub (lv' := [(0, .ref (a 0)), (1, .int x1), (2, .int x2)]) [0, 1, 2] rfl ?_
    exact vjX12_readPad_210 C hA a  x1 x2 p19 hw hself hX
set_option maxHeartbeats 4000000 in
set_option maxRecDepth 100000 in
theorem vjX12_readPad_188 (C : VC pr s m args meth c E A cX12_readPad 4 (some .boolean) RX12) (hA : va_A w0 s.heap.size = A) (a : Nat → Nat)  {Post : Int32 → St → Prop} {self : (St) → Prop} {KX : St → Prop} (x1 : Int32) (x2 : Int32) (x3 : Int32) (p : St) (hw : wjX12_readPad_188  Post self KX x1 x2 x3 p) (hself : ∀ (p : St), self p → V pr l e rmX12_readPad s m args below meth c E A 4 0 0 (MQ below (CQi E Post (fun u => (fl [bModel E a u])) w0 s.heap.size) args s 0 0 A) (fl [bModel E a p]) 75 [(0, .ref (a 0))] []) (hX : ∀ (p : St), KX p → V pr l e rmX12_readPad s m args below meth c E A 4 0 0 (MQ below (CQi E Post (fun u => (fl [bModel E a u])) w0 s.heap.size) args s 0 0 A) (fl [bModel E a p]) 274 [] []) : V pr l e rmX12_readPad s m args below meth c E A 4 0 0 (MQ below (CQi E Post (fun u => (fl [bModel E a u])) w0 s.heap.size) args s 0 0 A) (fl [bModel E a p]) 188 [(0, .ref (a 0)), (1, .int x1), (2, .int x2), (3, .int x3)] [] := by
  refine v_iload_n (pc := 188) C 2 rfl rfl dX12_readPad_188 ?_
  refine v_if_eq (pc := 189) C 202 (by decide) dX12_readPad_189 (fun hc => ?_) (fun hc => ?_)
  · have hw := hw.1 hc
    refine v_sub (lv' := [(0, .ref (a 0)), (1, .int x1), (2, .int x2)]) [0, 1, 2] rfl ?_
    exact vjX12_readPad_202 C hA a  x1 x2 p hw hself hX
  · have hw := hw.2 hc
    refine v_aload_n (pc := 192) C 0 rfl rfl dX12_readPad_192 ?_
    refine v_iload_n (pc := 193) C 3 rfl rfl dX12_readPad_193 ?_
    refine v_goAi (pc := 194) C (wc' := (fun (u : St) => (fl [bModel E a u]))) (fun _ => rfl) (v_runVA (pc := 194) C [.int x3] [] (fun sz => ctX12_readNote l E a x3 p hw sz) mfX12_readNote mvX12_readNote wmX12_165 rfl ⟨Nat.le_of_ble_eq_true rfl, Nat.le_of_ble_eq_true rfl⟩ ⟨rfl, rfl⟩ 0 (ci := 12) (qc := (RX12, TX12, 30)) rfl rfl rfl rfl (Nat.le_of_ble_eq_true rfl) ⟨Nat.zero_le _, Nat.zero_le _⟩ dX12_readPad_194) (fun r20 p21 hw => ?_)
    refine v_if_ne (pc := 197) C 202 (by decide) dX12_readPad_197 (fun hc => ?_) (fun hc => ?_)
    · have hw := hw.1 hc
      refine v_sub (lv' := [(0, .ref (a 0)), (1, .int x1), (2, .int x2)]) [0, 1, 2] rfl ?_
      exact vjX12_readPad_202 C hA a  x1 x2 p21 hw hself hX
    · have hw := hw.2 hc
      refine v_iconst (pc := 200) C 0 ki_0 dX12_readPad_200 ?_
      exact v_iretz (pc := 201) C rfl p21 hA rfl hw dX12_readPad_201
set_option maxHeartbeats 4000000 in
set_option maxRecDepth 100000 in
theorem vjX12_readPad_141 (C : VC pr s m args meth c E A cX12_readPad 4 (some .boolean) RX12) (hA : va_A w0 s.heap.size = A) (a : Nat → Nat)  {Post : Int32 → St → Prop} {self : (St) → Prop} {KX : St → Prop} (x1 : Int32) (x2 : Int32) (p : St) (hw : wjX12_readPad_141  Post self KX x1 x2 p) (hself : ∀ (p : St), self p → V pr l e rmX12_readPad s m args below meth c E A 4 0 0 (MQ below (CQi E Post (fun u => (fl [bModel E a u])) w0 s.heap.size) args s 0 0 A) (fl [bModel E a p]) 75 [(0, .ref (a 0))] []) (hX : ∀ (p : St), KX p → V pr l e rmX12_readPad s m args below meth c E A 4 0 0 (MQ below (CQi E Post (fun u => (fl [bModel E a u])) w0 s.heap.size) args s 0 0 A) (fl [bModel E a p]) 274 [] []) : V pr l e rmX12_readPad s m args below meth c E A 4 0 0 (MQ below (CQi E Post (fun u => (fl [bModel E a u])) w0 s.heap.size) args s 0 0 A) (fl [bModel E a p]) 141 [(0, .ref (a 0)), (1, .int x1), (2, .int x2)] [] := by
  refine v_iconst (pc := 141) C 4 ki_4 dX12_readPad_141 ?_
  refine v_aload_n (pc := 142) C 0 rfl rfl dX12_readPad_142 ?_
  refine v_get (pc := 143) C cfX12 rfl 0 17 rfl (by decide) wfX12_153 rfl dX12_readPad_143 ?_
  refine v_imul (pc := 146) C dX12_readPad_146 ?_
  refine v_topi (fun x3_13 ex => ?_)
  have hw := hw x3_13 ex
  refine v_istore_n (pc := 147) C [(3, .int x3_13), (0, .ref (a 0)), (1, .int x1), (2, .int x2)] rfl rfl (by decide) dX12_readPad_147 ?_
  refine v_aload_n (pc := 148) C 1 rfl rfl dX12_readPad_148 ?_
  refine v_get (pc := 149) C cfX12 rfl 0 16 rfl (by decide) wfX12_33 rfl dX12_readPad_149 ?_
  refine v_iload_n (pc := 152) C 0 rfl rfl dX12_readPad_152 ?_
  refine v_iload_n (pc := 153) C 2 rfl rfl dX12_readPad_153 ?_
  obtain ⟨hg, hw⟩ := hw
  obtain ⟨p14, es⟩ : ∃ y : St, y = p.sA 16 (upd (p.A 16) x3_13.toNatClampNeg x1) := ⟨_, rfl⟩
  have hw := hw p14 es
  refine v_iast (pc := 154) C 6 (w' := (fl [bModel E a p14])) rfl rfl (by subst es; rfl) hg dX12_readPad_154 ?_
  refine v_iload_n (pc := 155) C 2 rfl rfl dX12_readPad_155 ?_
  refine v_iconst (pc := 156) C 2 ki_2 dX12_readPad_156 ?_
  refine v_icmp_ne (pc := 157) C 188 (by decide) dX12_readPad_157 (fun hc => ?_) (fun hc => ?_)
  · have hw := hw.1 hc
    refine v_sub (lv' := [(0, .ref (a 0)), (1, .int x1), (2, .int x2), (3, .int x3_13)]) [1, 2, 3, 0] rfl ?_
    exact vjX12_readPad_188 C hA a  x1 x2 x3_13 p14 hw hself hX
  · have hw := hw.2 hc
    refine v_aload_n (pc := 160) C 1 rfl rfl dX12_readPad_160 ?_
    refine v_iconst (pc := 161) C 0 ki_0 dX12_readPad_161 ?_
    refine v_aload_n (pc := 162) C 1 rfl rfl dX12_readPad_162 ?_
    refine v_get (pc := 163) C cfX12 rfl 0 18 rfl (by decide) wfX12_162 rfl dX12_readPad_163 ?_
    refine v_iconst (pc := 166) C 1 ki_1 dX12_readPad_166 ?_
    refine v_isub (pc := 167) C dX12_readPad_167 ?_
    refine v_goAi (pc := 168) C (wc' := (fun (u : St) => (fl [bModel E a u]))) (fun _ => rfl) (v_runVA (pc := 168) C [.int 0, .int ((p14.I 18) - 1)] [] (fun sz => ctX12_number l E a 0 ((p14.I 18) - 1) p14 hw sz) mfX12_number mvX12_number wmX12_148 rfl ⟨Nat.le_of_ble_eq_true rfl, Nat.le_of_ble_eq_true rfl⟩ ⟨rfl, rfl⟩ 0 (ci := 12) (qc := (RX12, TX12, 30)) rfl rfl rfl rfl (Nat.le_of_ble_eq_true rfl) ⟨Nat.zero_le _, Nat.zero_le _⟩ dX12_readPad_168) (fun r22 p23 hw => ?_)
    refine v_if_ne (pc := 171) C 176 (by decide) dX12_readPad_171 (fun hc => ?_) (fun hc => ?_)
    · have hw := hw.1 hc
      refine v_aload_n (pc := 176) C 1 rfl rfl dX12_readPad_176 ?_
      refine v_get (pc := 177) C cfX12 rfl 0 16 rfl (by decide) wfX12_33 rfl dX12_readPad_177 ?_
      refine v_iload_n (pc := 180) C 0 rfl rfl dX12_readPad_180 ?_
      refine v_iconst (pc := 181) C 1 ki_1 dX12_readPad_181 ?_
      refine v_iadd (pc := 182) C dX12_readPad_182 ?_
      refine v_aload_n (pc := 183) C 1 rfl rfl dX12_readPad_183 ?_
      refine v_get (pc := 184) C cfX12 rfl 0 14 rfl (by decide) wfX12_130 rfl dX12_readPad_184 ?_
      obtain ⟨hg, hw⟩ := hw
      obtain ⟨p24, es⟩ : ∃ y : St, y = p23.sA 16 (upd (p23.A 16) (x3_13 + 1).toNatClampNeg (p23.I 14)) := ⟨_, rfl⟩
      have hw := hw p24 es
      refine v_iast (pc := 187) C 6 (w' := (fl [bModel E a p24])) rfl rfl (by subst es; rfl) hg dX12_readPad_187 ?_
      refine v_sub (lv' := [(0, .ref (a 0)), (1, .int x1), (2, .int x2), (3, .int x3_13)]) [1, 2, 3, 0] rfl ?_
      exact vjX12_readPad_188 C hA a  x1 x2 x3_13 p24 hw hself hX
    · have hw := hw.2 hc
      refine v_iconst (pc := 174) C 0 ki_0 dX12_readPad_174 ?_
      exact v_iretz (pc := 175) C rfl p23 hA rfl hw dX12_readPad_175
set_option maxHeartbeats 4000000 in
set_option maxRecDepth 100000 in
theorem vjX12_readPad_126 (C : VC pr s m args meth c E A cX12_readPad 4 (some .boolean) RX12) (hA : va_A w0 s.heap.size = A) (a : Nat → Nat)  {Post : Int32 → St → Prop} {self : (St) → Prop} {KX : St → Prop} (x1 : Int32) (x2 : Int32) (p : St) (hw : wjX12_readPad_126  Post self KX x1 x2 p) (hself : ∀ (p : St), self p → V pr l e rmX12_readPad s m args below meth c E A 4 0 0 (MQ below (CQi E Post (fun u => (fl [bModel E a u])) w0 s.heap.size) args s 0 0 A) (fl [bModel E a p]) 75 [(0, .ref (a 0))] []) (hX : ∀ (p : St), KX p → V pr l e rmX12_readPad s m args below meth c E A 4 0 0 (MQ below (CQi E Post (fun u => (fl [bModel E a u])) w0 s.heap.size) args s 0 0 A) (fl [bModel E a p]) 274 [] []) : V pr l e rmX12_readPad s m args below meth c E A 4 0 0 (MQ below (CQi E Post (fun u => (fl [bModel E a u])) w0 s.heap.size) args s 0 0 A) (fl [bModel E a p]) 126 [(0, .ref (a 0)), (1, .int x1), (2, .int x2)] [] := by
  refine v_iload_n (pc := 126) C 2 rfl rfl dX12_readPad_126 ?_
  refine v_if_eq (pc := 127) C 141 (by decide) dX12_readPad_127 (fun hc => ?_) (fun hc => ?_)
  · have hw := hw.1 hc
    refine v_sub (lv' := [(0, .ref (a 0)), (1, .int x1), (2, .int x2)]) [0, 1, 2] rfl ?_
    exact vjX12_readPad_141 C hA a  x1 x2 p hw hself hX
  · have hw := hw.2 hc
    refine v_aload_n (pc := 130) C 0 rfl rfl dX12_readPad_130 ?_
    refine v_get (pc := 131) C cfX12 rfl 0 20 rfl (by decide) wfX12_159 rfl dX12_readPad_131 ?_
    refine v_bipush (pc := 134) C 10 kb_10 dX12_readPad_134 ?_
    refine v_icmp_ne (pc := 136) C 141 (by decide) dX12_readPad_136 (fun hc => ?_) (fun hc => ?_)
    · have hw := hw.1 hc
      refine v_sub (lv' := [(0, .ref (a 0)), (1, .int x1), (2, .int x2)]) [0, 1, 2] rfl ?_
      exact vjX12_readPad_141 C hA a  x1 x2 p hw hself hX
    · have hw := hw.2 hc
      refine v_iconst (pc := 139) C 0 ki_0 dX12_readPad_139 ?_
      exact v_iretz (pc := 140) C rfl p hA rfl hw dX12_readPad_140
set_option maxHeartbeats 4000000 in
set_option maxRecDepth 100000 in
theorem vjX12_readPad_99 (C : VC pr s m args meth c E A cX12_readPad 4 (some .boolean) RX12) (hA : va_A w0 s.heap.size = A) (a : Nat → Nat)  {Post : Int32 → St → Prop} {self : (St) → Prop} {KX : St → Prop} (x1 : Int32) (z0 : Int32) (p : St) (hw : wjX12_readPad_99  Post self KX x1 z0 p) (hself : ∀ (p : St), self p → V pr l e rmX12_readPad s m args below meth c E A 4 0 0 (MQ below (CQi E Post (fun u => (fl [bModel E a u])) w0 s.heap.size) args s 0 0 A) (fl [bModel E a p]) 75 [(0, .ref (a 0))] []) (hX : ∀ (p : St), KX p → V pr l e rmX12_readPad s m args below meth c E A 4 0 0 (MQ below (CQi E Post (fun u => (fl [bModel E a u])) w0 s.heap.size) args s 0 0 A) (fl [bModel E a p]) 274 [] []) : V pr l e rmX12_readPad s m args below meth c E A 4 0 0 (MQ below (CQi E Post (fun u => (fl [bModel E a u])) w0 s.heap.size) args s 0 0 A) (fl [bModel E a p]) 99 [(0, .ref (a 0)), (1, .int x1)] [.int z0] := by
  refine v_istore_n (pc := 99) C [(2, .int z0), (0, .ref (a 0)), (1, .int x1)] rfl rfl (by decide) dX12_readPad_99 ?_
  refine v_iload_n (pc := 100) C 2 rfl rfl dX12_readPad_100 ?_
  refine v_iconst (pc := 101) C 2 ki_2 dX12_readPad_101 ?_
  refine v_icmp_lt (pc := 102) C 139 (by decide) dX12_readPad_102 (fun hc => ?_) (fun hc => ?_)
  · have hw := hw.1 hc
    refine v_iconst (pc := 139) C 0 ki_0 dX12_readPad_139 ?_
    exact v_iretz (pc := 140) C rfl p hA rfl hw dX12_readPad_140
  · have hw := hw.2 hc
    refine v_iload_n (pc := 105) C 2 rfl rfl dX12_readPad_105 ?_
    refine v_iconst (pc := 106) C 4 ki_4 dX12_readPad_106 ?_
    refine v_icmp_gt (pc := 107) C 139 (by decide) dX12_readPad_107 (fun hc => ?_) (fun hc => ?_)
    · have hw := hw.1 hc
      refine v_iconst (pc := 139) C 0 ki_0 dX12_readPad_139 ?_
      exact v_iretz (pc := 140) C rfl p hA rfl hw dX12_readPad_140
    · have hw := hw.2 hc
      refine v_iload_n (pc := 110) C 2 rfl rfl dX12_readPad_110 ?_
      refine v_iconst (pc := 111) C 2 ki_2 dX12_readPad_111 ?_
      refine v_icmp_le (pc := 112) C 126 (by decide) dX12_readPad_112 (fun hc => ?_) (fun hc => ?_)
      · have hw := hw.1 hc
        refine v_sub (lv' := [(0, .ref (a 0)), (1, .int x1), (2, .int z0)]) [1, 2, 0] rfl ?_
        exact vjX12_readPad_126 C hA a  x1 z0 p hw hself hX
      · have hw := hw.2 hc
        refine v_aload_n (pc := 115) C 1 rfl rfl dX12_readPad_115 ?_
        refine v_get (pc := 116) C cfX12 rfl 0 19 rfl (by decide) wfX12_156 rfl dX12_readPad_116 ?_
        refine v_aload_n (pc := 119) C 1 rfl rfl dX12_readPad_119 ?_
        refine v_get (pc := 120) C cfX12 rfl 0 18 rfl (by decide) wfX12_162 rfl dX12_readPad_120 ?_
        refine v_icmp_eq (pc := 123) C 139 (by decide) dX12_readPad_123 (fun hc => ?_) (fun hc => ?_)
        · have hw := hw.1 hc
          refine v_iconst (pc := 139) C 0 ki_0 dX12_readPad_139 ?_
          exact v_iretz (pc := 140) C rfl p hA rfl hw dX12_readPad_140
        · have hw := hw.2 hc
          refine v_sub (lv' := [(0, .ref (a 0)), (1, .int x1), (2, .int z0)]) [1, 2, 0] rfl ?_
          exact vjX12_readPad_126 C hA a  x1 z0 p hw hself hX
set_option maxHeartbeats 4000000 in
set_option maxRecDepth 100000 in
theorem vlX12_readPad_75 (C : VC pr s m args meth c E A cX12_readPad 4 (some .boolean) RX12) (hA : va_A w0 s.heap.size = A) (a : Nat → Nat)  {Post : Int32 → St → Prop} {KX : St → Prop} (hX : ∀ (p : St), KX p → V pr l e rmX12_readPad s m args below meth c E A 4 0 0 (MQ below (CQi E Post (fun u => (fl [bModel E a u])) w0 s.heap.size) args s 0 0 A) (fl [bModel E a p]) 274 [] []) : ∀ (n : Nat) (p : St), wLX12_readPad_75  Post KX n p → V pr l e rmX12_readPad s m args below meth c E A 4 0 0 (MQ below (CQi E Post (fun u => (fl [bModel E a u])) w0 s.heap.size) args s 0 0 A) (fl [bModel E a p]) 75 [(0, .ref (a 0))] [] := by
  intro n
  induction n with
  | zero => intro p hw; exact absurd hw id
  | succ n hself =>
    intro p hw
    have hw : wlX12_readPad_75  Post KX (wLX12_readPad_75  Post KX n) p := hw
    refine v_aload_n (pc := 75) C 0 rfl rfl dX12_readPad_75 ?_
    refine v_get (pc := 76) C cfX12 rfl 0 13 rfl (by decide) wfX12_127 rfl dX12_readPad_76 ?_
    refine v_bipush (pc := 79) C 7 kb_7 dX12_readPad_79 ?_
    refine v_icmp_eq (pc := 81) C 274 (by decide) dX12_readPad_81 (fun hc => ?_) (fun hc => ?_)
    · have hw := hw.1 hc
      refine v_sub (lv' := []) [] rfl ?_
      exact hX p hw
    · have hw := hw.2 hc
      refine v_aload_n (pc := 84) C 0 rfl rfl dX12_readPad_84 ?_
      refine v_get (pc := 85) C cfX12 rfl 0 13 rfl (by decide) wfX12_127 rfl dX12_readPad_85 ?_
      refine v_topi (fun x1_12 ex => ?_)
      have hw := hw x1_12 ex
      refine v_istore_n (pc := 88) C [(1, .int x1_12), (0, .ref (a 0))] rfl rfl (by decide) dX12_readPad_88 ?_
      refine v_iload_n (pc := 89) C 0 rfl rfl dX12_readPad_89 ?_
      refine v_iconst (pc := 90) C 3 ki_3 dX12_readPad_90 ?_
      refine v_icmp_ne (pc := 91) C 98 (by decide) dX12_readPad_91 (fun hc => ?_) (fun hc => ?_)
      · have hw := hw.1 hc
        refine v_iconst (pc := 98) C 0 ki_0 dX12_readPad_98 ?_
        refine v_sub (lv' := [(0, .ref (a 0)), (1, .int x1_12)]) [1, 0] rfl ?_
        exact vjX12_readPad_99 C hA a  x1_12 0 p hw hself hX
      · have hw := hw.2 hc
        refine v_iconst (pc := 94) C 1 ki_1 dX12_readPad_94 ?_
        refine v_goto (pc := 95) C 99 (by decide) dX12_readPad_95 ?_
        refine v_sub (lv' := [(0, .ref (a 0)), (1, .int x1_12)]) [1, 0] rfl ?_
        exact vjX12_readPad_99 C hA a  x1_12 1 p hw hself hX
set_option maxHeartbeats 4000000 in
set_option maxRecDepth 100000 in
theorem ctX12_readPad (l : Launch) (E : VE) (a : Nat → Nat)  (p : St)  {Post : Int32 → St → Prop} (hw : wpX12_readPad p Post) (sz : Nat) : Met l yX12_readPad (mW yX12_readPad cX12_readPad 4 (some .boolean)) rmX12_readPad (CPre E [.ref (a 0)] sz (fl [bModel E a p])) (CQi E Post (fun u => (fl [bModel E a u])) (fl [bModel E a p]) sz) 0 0 (va_A (fl [bModel E a p]) sz) := by
  refine v_met (by decide) (Nat.le_of_ble_eq_true rfl) ?_
  intro pr e s m below meth c A hsz hA C
  subst hsz
  refine v_aload_n (pc := 0) C 0 rfl rfl dX12_readPad_0 ?_
  refine v_iconst (pc := 1) C 0 ki_0 dX12_readPad_1 ?_
  obtain ⟨p1, es⟩ : ∃ y : St, y = p.sI 12 0 := ⟨_, rfl⟩
  have hw := hw p1 es
  refine v_put (pc := 2) C cfX12 rfl 0 12 (ty := .int) (w' := (fl [bModel E a p1])) rfl (by subst es; rfl) (by decide) wfX12_117 rfl rfl rfl rfl (Nat.le_of_ble_eq_true rfl) dX12_readPad_2 ?_
  refine v_aload_n (pc := 5) C 0 rfl rfl dX12_readPad_5 ?_
  refine v_iconst (pc := 6) C 0 ki_0 dX12_readPad_6 ?_
  obtain ⟨p2, es⟩ : ∃ y : St, y = p1.sI 17 0 := ⟨_, rfl⟩
  have hw := hw p2 es
  refine v_put (pc := 7) C cfX12 rfl 0 17 (ty := .int) (w' := (fl [bModel E a p2])) rfl (by subst es; rfl) (by decide) wfX12_153 rfl rfl rfl rfl (Nat.le_of_ble_eq_true rfl) dX12_readPad_7 ?_
  refine v_aload_n (pc := 10) C 0 rfl rfl dX12_readPad_10 ?_
  refine v_iconst (pc := 11) C 0 ki_0 dX12_readPad_11 ?_
  obtain ⟨p3, es⟩ : ∃ y : St, y = p2.sI 19 0 := ⟨_, rfl⟩
  have hw := hw p3 es
  refine v_put (pc := 12) C cfX12 rfl 0 19 (ty := .int) (w' := (fl [bModel E a p3])) rfl (by subst es; rfl) (by decide) wfX12_156 rfl rfl rfl rfl (Nat.le_of_ble_eq_true rfl) dX12_readPad_12 ?_
  refine v_aload_n (pc := 15) C 0 rfl rfl dX12_readPad_15 ?_
  refine v_iconst (pc := 16) C 0 ki_0 dX12_readPad_16 ?_
  obtain ⟨p4, es⟩ : ∃ y : St, y = p3.sI 20 0 := ⟨_, rfl⟩
  have hw := hw p4 es
  refine v_put (pc := 17) C cfX12 rfl 0 20 (ty := .int) (w' := (fl [bModel E a p4])) rfl (by subst es; rfl) (by decide) wfX12_159 rfl rfl rfl rfl (Nat.le_of_ble_eq_true rfl) dX12_readPad_17 ?_
  refine v_aload_n (pc := 20) C 0 rfl rfl dX12_readPad_20 ?_
  refine v_goAv (pc := 21) C (wc' := (fun (u : St) => (fl [bModel E a u]))) (fun _ => rfl) (v_runVA (pc := 21) C [] [] (fun sz => ctX12_nextToken l E a p4 hw sz) mfX12_nextToken mvX12_nextToken wmX12_145 rfl ⟨Nat.le_of_ble_eq_true rfl, Nat.le_of_ble_eq_true rfl⟩ ⟨rfl, rfl⟩ 0 (ci := 12) (qc := (RX12, TX12, 30)) rfl rfl rfl rfl (Nat.le_of_ble_eq_true rfl) ⟨Nat.zero_le _, Nat.zero_le _⟩ dX12_readPad_21) (fun p5 hw => ?_)
  refine v_aload_n (pc := 24) C 0 rfl rfl dX12_readPad_24 ?_
  refine v_get (pc := 25) C cfX12 rfl 0 13 rfl (by decide) wfX12_127 rfl dX12_readPad_25 ?_
  refine v_iconst (pc := 28) C 1 ki_1 dX12_readPad_28 ?_
  refine v_icmp_ne (pc := 29) C 42 (by decide) dX12_readPad_29 (fun hc => ?_) (fun hc => ?_)
  · have hw := hw.1 hc
    refine v_iconst (pc := 42) C 0 ki_0 dX12_readPad_42 ?_
    exact v_iretz (pc := 43) C rfl p5 hA rfl hw dX12_readPad_43
  · have hw := hw.2 hc
    refine v_aload_n (pc := 32) C 0 rfl rfl dX12_readPad_32 ?_
    refine v_iconst (pc := 33) C 1 ki_1 dX12_readPad_33 ?_
    refine v_bipush (pc := 34) C 6 kb_6 dX12_readPad_34 ?_
    refine v_goAi (pc := 36) C (wc' := (fun (u : St) => (fl [bModel E a u]))) (fun _ => rfl) (v_runVA (pc := 36) C [.int 1, .int 6] [] (fun sz => ctX12_number l E a 1 6 p5 hw sz) mfX12_number mvX12_number wmX12_148 rfl ⟨Nat.le_of_ble_eq_true rfl, Nat.le_of_ble_eq_true rfl⟩ ⟨rfl, rfl⟩ 0 (ci := 12) (qc := (RX12, TX12, 30)) rfl rfl rfl rfl (Nat.le_of_ble_eq_true rfl) ⟨Nat.zero_le _, Nat.zero_le _⟩ dX12_readPad_36) (fun r6 p7 hw => ?_)
    refine v_if_ne (pc := 39) C 44 (by decide) dX12_readPad_39 (fun hc => ?_) (fun hc => ?_)
    · have hw := hw.1 hc
      refine v_aload_n (pc := 44) C 0 rfl rfl dX12_readPad_44 ?_
      refine v_aload_n (pc := 45) C 0 rfl rfl dX12_readPad_45 ?_
      refine v_get (pc := 46) C cfX12 rfl 0 14 rfl (by decide) wfX12_130 rfl dX12_readPad_46 ?_
      obtain ⟨p8, es⟩ : ∃ y : St, y = p7.sI 18 (p7.I 14) := ⟨_, rfl⟩
      have hw := hw p8 es
      refine v_put (pc := 49) C cfX12 rfl 0 18 (ty := .int) (w' := (fl [bModel E a p8])) rfl (by subst es; rfl) (by decide) wfX12_162 rfl rfl rfl rfl (Nat.le_of_ble_eq_true rfl) dX12_readPad_49 ?_
      refine v_aload_n (pc := 52) C 0 rfl rfl dX12_readPad_52 ?_
      refine v_goAv (pc := 53) C (wc' := (fun (u : St) => (fl [bModel E a u]))) (fun _ => rfl) (v_runVA (pc := 53) C [] [] (fun sz => ctX12_nextToken l E a p8 hw sz) mfX12_nextToken mvX12_nextToken wmX12_145 rfl ⟨Nat.le_of_ble_eq_true rfl, Nat.le_of_ble_eq_true rfl⟩ ⟨rfl, rfl⟩ 0 (ci := 12) (qc := (RX12, TX12, 30)) rfl rfl rfl rfl (Nat.le_of_ble_eq_true rfl) ⟨Nat.zero_le _, Nat.zero_le _⟩ dX12_readPad_53) (fun p9 hw => ?_)
      refine v_aload_n (pc := 56) C 0 rfl rfl dX12_readPad_56 ?_
      refine v_get (pc := 57) C cfX12 rfl 0 13 rfl (by decide) wfX12_127 rfl dX12_readPad_57 ?_
      refine v_iconst (pc := 60) C 5 ki_5 dX12_readPad_60 ?_
      refine v_icmp_eq (pc := 61) C 66 (by decide) dX12_readPad_61 (fun hc => ?_) (fun hc => ?_)
      · have hw := hw.1 hc
        refine v_aload_n (pc := 66) C 0 rfl rfl dX12_readPad_66 ?_
        refine v_iconst (pc := 67) C 1 ki_1 dX12_readPad_67 ?_
        obtain ⟨p10, es⟩ : ∃ y : St, y = p9.sI 17 1 := ⟨_, rfl⟩
        have hw := hw p10 es
        refine v_put (pc := 68) C cfX12 rfl 0 17 (ty := .int) (w' := (fl [bModel E a p10])) rfl (by subst es; rfl) (by decide) wfX12_153 rfl rfl rfl rfl (Nat.le_of_ble_eq_true rfl) dX12_readPad_68 ?_
        refine v_aload_n (pc := 71) C 0 rfl rfl dX12_readPad_71 ?_
        refine v_goAv (pc := 72) C (wc' := (fun (u : St) => (fl [bModel E a u]))) (fun _ => rfl) (v_runVA (pc := 72) C [] [] (fun sz => ctX12_nextToken l E a p10 hw sz) mfX12_nextToken mvX12_nextToken wmX12_145 rfl ⟨Nat.le_of_ble_eq_true rfl, Nat.le_of_ble_eq_true rfl⟩ ⟨rfl, rfl⟩ 0 (ci := 12) (qc := (RX12, TX12, 30)) rfl rfl rfl rfl (Nat.le_of_ble_eq_true rfl) ⟨Nat.zero_le _, Nat.zero_le _⟩ dX12_readPad_72) (fun p11 hw => ?_)
        obtain ⟨n, hw⟩ := hw
        refine v_sub (lv' := [(0, .ref (a 0))]) [0] rfl ?_
        refine vlX12_readPad_75 C hA a  (fun p25 hw => ?_) n p11 hw
        refine v_iconst (pc := 274) C 1 ki_1 dX12_readPad_274 ?_
        exact v_iretz (pc := 275) C rfl p25 hA rfl hw dX12_readPad_275
      · have hw := hw.2 hc
        refine v_iconst (pc := 64) C 0 ki_0 dX12_readPad_64 ?_
        exact v_iretz (pc := 65) C rfl p9 hA rfl hw dX12_readPad_65
    · have hw := hw.2 hc
      refine v_iconst (pc := 42) C 0 ki_0 dX12_readPad_42 ?_
      exact v_iretz (pc := 43) C rfl p7 hA rfl hw dX12_readPad_43
set_option maxHeartbeats 4000000 in
set_option maxRecDepth 100000 in
theorem vlX12_read_34 (C : VC pr s m args meth c E A cX12_read 3 (some .int) RX12) (hA : va_A w0 s.heap.size = A) (a : Nat → Nat)  {Post : Int32 → St → Prop} {KX : St → Prop} (hX : ∀ (p : St), KX p → V pr l e rmX12_read s m args below meth c E A 3 0 0 (MQ below (CQi E Post (fun u => (fl [bModel E a u])) w0 s.heap.size) args s 0 0 A) (fl [bModel E a p]) 136 [(0, .ref (a 0))] []) : ∀ (n : Nat) (x1 : Int32) (p : St), wLX12_read_34  Post KX n (x1, p) → V pr l e rmX12_read s m args below meth c E A 3 0 0 (MQ below (CQi E Post (fun u => (fl [bModel E a u])) w0 s.heap.size) args s 0 0 A) (fl [bModel E a p]) 34 [(0, .ref (a 0)), (1, .int x1)] [] := by
  intro n
  induction n with
  | zero => intro x1 p hw; exact absurd hw id
  | succ n hself =>
    intro x1 p hw
    have hw : wlX12_read_34  Post KX (wLX12_read_34  Post KX n) x1 p := hw
    refine v_iload_n (pc := 34) C 1 rfl rfl dX12_read_34 ?_
    refine v_aload_n (pc := 35) C 0 rfl rfl dX12_read_35 ?_
    refine v_get (pc := 36) C cfX12 rfl 0 17 rfl (by decide) wfX12_153 rfl dX12_read_36 ?_
    refine v_icmp_ge (pc := 39) C 136 (by decide) dX12_read_39 (fun hc => ?_) (fun hc => ?_)
    · have hw := hw.1 hc
      refine v_sub (lv' := [(0, .ref (a 0))]) [0] rfl ?_
      exact hX p hw
    · have hw := hw.2 hc
      refine v_iconst (pc := 42) C 4 ki_4 dX12_read_42 ?_
      refine v_iload_n (pc := 43) C 1 rfl rfl dX12_read_43 ?_
      refine v_imul (pc := 44) C dX12_read_44 ?_
      refine v_topi (fun x2_6 ex => ?_)
      have hw := hw x2_6 ex
      refine v_istore_n (pc := 45) C [(2, .int x2_6), (0, .ref (a 0)), (1, .int x1)] rfl rfl (by decide) dX12_read_45 ?_
      refine v_aload_n (pc := 46) C 1 rfl rfl dX12_read_46 ?_
      refine v_get (pc := 47) C cfX12 rfl 0 16 rfl (by decide) wfX12_33 rfl dX12_read_47 ?_
      refine v_iload_n (pc := 50) C 0 rfl rfl dX12_read_50 ?_
      obtain ⟨hg, hw⟩ := hw
      refine v_iald (pc := 51) C 6 rfl hg rfl dX12_read_51 ?_
      refine v_iconst (pc := 52) C 2 ki_2 dX12_read_52 ?_
      refine v_icmp_ne (pc := 53) C 78 (by decide) dX12_read_53 (fun hc => ?_) (fun hc => ?_)
      · have hw := hw.1 hc
        refine v_aload_n (pc := 78) C 1 rfl rfl dX12_read_78 ?_
        refine v_get (pc := 79) C cfX12 rfl 0 16 rfl (by decide) wfX12_33 rfl dX12_read_79 ?_
        refine v_iload_n (pc := 82) C 0 rfl rfl dX12_read_82 ?_
        obtain ⟨hg, hw⟩ := hw
        refine v_iald (pc := 83) C 6 rfl hg rfl dX12_read_83 ?_
        refine v_iconst (pc := 84) C 3 ki_3 dX12_read_84 ?_
        refine v_icmp_ne (pc := 85) C 119 (by decide) dX12_read_85 (fun hc => ?_) (fun hc => ?_)
        · have hw := hw.1 hc
          refine v_aload_n (pc := 119) C 1 rfl rfl dX12_read_119 ?_
          refine v_get (pc := 120) C cfX12 rfl 0 4 rfl (by decide) wfX12_17 rfl dX12_read_120 ?_
          refine v_bipush (pc := 123) C 125 kb_125 dX12_read_123 ?_
          refine v_dup2 (pc := 125) C rfl rfl dX12_read_125 ?_
          refine v_iald (pc := 126) C 2 rfl vi_125_126 tn_125 dX12_read_126 ?_
          refine v_iconst (pc := 127) C 1 ki_1 dX12_read_127 ?_
          refine v_iadd (pc := 128) C dX12_read_128 ?_
          obtain ⟨p7, es⟩ : ∃ y : St, y = p.sA 4 (upd (p.A 4) 125 (((p.A 4) 125) + 1)) := ⟨_, rfl⟩
          have hw := hw p7 es
          refine v_iast (pc := 129) C 2 (w' := (fl [bModel E a p7])) rfl tn_125 (by subst es; rfl) vi_125_126 dX12_read_129 ?_
          obtain ⟨x1_8, ex⟩ : ∃ y : Int32, y = x1 + 1 := ⟨_, rfl⟩
          have hw := hw x1_8 ex
          refine v_iinc (pc := 130) C 2 rfl (by rw [ex, ki_1]) [(1, .int x1_8), (2, .int x2_6), (0, .ref (a 0))] rfl (by decide) dX12_read_130 ?_
          refine v_goto (pc := 133) C 34 (by decide) dX12_read_133 ?_
          refine v_sub (lv' := [(0, .ref (a 0)), (1, .int x1_8)]) [2, 0] rfl ?_
          exact hself x1_8 p7 hw
        · have hw := hw.2 hc
          refine v_aload_n (pc := 88) C 1 rfl rfl dX12_read_88 ?_
          refine v_aload_n (pc := 89) C 1 rfl rfl dX12_read_89 ?_
          refine v_get (pc := 90) C cfX12 rfl 0 16 rfl (by decide) wfX12_33 rfl dX12_read_90 ?_
          refine v_iload_n (pc := 93) C 0 rfl rfl dX12_read_93 ?_
          refine v_iconst (pc := 94) C 1 ki_1 dX12_read_94 ?_
          refine v_iadd (pc := 95) C dX12_read_95 ?_
          obtain ⟨hg, hw⟩ := hw
          refine v_iald (pc := 96) C 6 rfl hg rfl dX12_read_96 ?_
          refine v_aload_n (pc := 97) C 1 rfl rfl dX12_read_97 ?_
          refine v_get (pc := 98) C cfX12 rfl 0 16 rfl (by decide) wfX12_33 rfl dX12_read_98 ?_
          refine v_iload_n (pc := 101) C 0 rfl rfl dX12_read_101 ?_
          refine v_iconst (pc := 102) C 2 ki_2 dX12_read_102 ?_
          refine v_iadd (pc := 103) C dX12_read_103 ?_
          obtain ⟨hg, hw⟩ := hw
          refine v_iald (pc := 104) C 6 rfl hg rfl dX12_read_104 ?_
          refine v_aload_n (pc := 105) C 1 rfl rfl dX12_read_105 ?_
          refine v_get (pc := 106) C cfX12 rfl 0 16 rfl (by decide) wfX12_33 rfl dX12_read_106 ?_
          refine v_iload_n (pc := 109) C 0 rfl rfl dX12_read_109 ?_
          refine v_iconst (pc := 110) C 3 ki_3 dX12_read_110 ?_
          refine v_iadd (pc := 111) C dX12_read_111 ?_
          obtain ⟨hg, hw⟩ := hw
          refine v_iald (pc := 112) C 6 rfl hg rfl dX12_read_112 ?_
          refine v_goAv (pc := 113) C (wc' := (fun (u : St) => (fl [bModel E a u]))) (fun _ => rfl) (v_runVA (pc := 113) C [.int ((p.A 16) (x2_6 + 1).toNatClampNeg), .int ((p.A 16) (x2_6 + 2).toNatClampNeg), .int ((p.A 16) (x2_6 + 3).toNatClampNeg)] [] (fun sz => ctX12_writeNow l E a ((p.A 16) (x2_6 + 1).toNatClampNeg) ((p.A 16) (x2_6 + 2).toNatClampNeg) ((p.A 16) (x2_6 + 3).toNatClampNeg) p hw sz) mfX12_writeNow mvX12_writeNow wmX12_109 rfl ⟨Nat.le_of_ble_eq_true rfl, Nat.le_of_ble_eq_true rfl⟩ ⟨rfl, rfl⟩ 0 (ci := 12) (qc := (RX12, TX12, 30)) rfl rfl rfl rfl (Nat.le_of_ble_eq_true rfl) ⟨Nat.zero_le _, Nat.zero_le _⟩ dX12_read_113) (fun p9 hw => ?_)
          refine v_goto (pc := 116) C 130 (by decide) dX12_read_116 ?_
          obtain ⟨x1_10, ex⟩ : ∃ y : Int32, y = x1 + 1 := ⟨_, rfl⟩
          have hw := hw x1_10 ex
          refine v_iinc (pc := 130) C 2 rfl (by rw [ex, ki_1]) [(1, .int x1_10), (2, .int x2_6), (0, .ref (a 0))] rfl (by decide) dX12_read_130 ?_
          refine v_goto (pc := 133) C 34 (by decide) dX12_read_133 ?_
          refine v_sub (lv' := [(0, .ref (a 0)), (1, .int x1_10)]) [2, 0] rfl ?_
          exact hself x1_10 p9 hw
      · have hw := hw.2 hc
        refine v_aload_n (pc := 56) C 1 rfl rfl dX12_read_56 ?_
        refine v_dup (pc := 57) C rfl dX12_read_57 ?_
        refine v_get (pc := 58) C cfX12 rfl 0 1 rfl (by decide) wfX12_67 rfl dX12_read_58 ?_
        refine v_iconst (pc := 61) C 1 ki_1 dX12_read_61 ?_
        refine v_aload_n (pc := 62) C 1 rfl rfl dX12_read_62 ?_
        refine v_get (pc := 63) C cfX12 rfl 0 16 rfl (by decide) wfX12_33 rfl dX12_read_63 ?_
        refine v_iload_n (pc := 66) C 0 rfl rfl dX12_read_66 ?_
        refine v_iconst (pc := 67) C 1 ki_1 dX12_read_67 ?_
        refine v_iadd (pc := 68) C dX12_read_68 ?_
        obtain ⟨hg, hw⟩ := hw
        refine v_iald (pc := 69) C 6 rfl hg rfl dX12_read_69 ?_
        refine v_ishl (pc := 70) C dX12_read_70 ?_
        refine v_ior (pc := 71) C dX12_read_71 ?_
        obtain ⟨p11, es⟩ : ∃ y : St, y = p.sI 1 ((p.I 1) ||| ((1 : Int32) <<< (((p.A 16) (x2_6 + 1).toNatClampNeg) &&& 31))) := ⟨_, rfl⟩
        have hw := hw p11 es
        refine v_put (pc := 72) C cfX12 rfl 0 1 (ty := .int) (w' := (fl [bModel E a p11])) rfl (by subst es; rfl) (by decide) wfX12_67 rfl rfl rfl rfl (Nat.le_of_ble_eq_true rfl) dX12_read_72 ?_
        refine v_goto (pc := 75) C 130 (by decide) dX12_read_75 ?_
        obtain ⟨x1_12, ex⟩ : ∃ y : Int32, y = x1 + 1 := ⟨_, rfl⟩
        have hw := hw x1_12 ex
        refine v_iinc (pc := 130) C 2 rfl (by rw [ex, ki_1]) [(1, .int x1_12), (2, .int x2_6), (0, .ref (a 0))] rfl (by decide) dX12_read_130 ?_
        refine v_goto (pc := 133) C 34 (by decide) dX12_read_133 ?_
        refine v_sub (lv' := [(0, .ref (a 0)), (1, .int x1_12)]) [2, 0] rfl ?_
        exact hself x1_12 p11 hw
set_option maxHeartbeats 4000000 in
set_option maxRecDepth 100000 in
theorem ctX12_read (l : Launch) (E : VE) (a : Nat → Nat)  (p : St)  {Post : Int32 → St → Prop} (hw : wpX12_read p Post) (sz : Nat) : Met l yX12_read (mW yX12_read cX12_read 3 (some .int)) rmX12_read (CPre E [.ref (a 0)] sz (fl [bModel E a p])) (CQi E Post (fun u => (fl [bModel E a u])) (fl [bModel E a p]) sz) 0 0 (va_A (fl [bModel E a p]) sz) := by
  refine v_met (by decide) (Nat.le_of_ble_eq_true rfl) ?_
  intro pr e s m below meth c A hsz hA C
  subst hsz
  refine v_aload_n (pc := 0) C 0 rfl rfl dX12_read_0 ?_
  refine v_goAi (pc := 1) C (wc' := (fun (u : St) => (fl [bModel E a u]))) (fun _ => rfl) (v_runVA (pc := 1) C [] [] (fun sz => ctX12_readPad l E a p hw sz) mfX12_readPad mvX12_readPad wmX12_168 rfl ⟨Nat.le_of_ble_eq_true rfl, Nat.le_of_ble_eq_true rfl⟩ ⟨rfl, rfl⟩ 0 (ci := 12) (qc := (RX12, TX12, 30)) rfl rfl rfl rfl (Nat.le_of_ble_eq_true rfl) ⟨Nat.zero_le _, Nat.zero_le _⟩ dX12_read_1) (fun r1 p2 hw => ?_)
  refine v_if_ne (pc := 4) C 15 (by decide) dX12_read_4 (fun hc => ?_) (fun hc => ?_)
  · have hw := hw.1 hc
    refine v_aload_n (pc := 15) C 0 rfl rfl dX12_read_15 ?_
    refine v_aload_n (pc := 16) C 0 rfl rfl dX12_read_16 ?_
    refine v_get (pc := 17) C cfX12 rfl 0 18 rfl (by decide) wfX12_162 rfl dX12_read_17 ?_
    obtain ⟨p3, es⟩ : ∃ y : St, y = p2.sI 0 (p2.I 18) := ⟨_, rfl⟩
    have hw := hw p3 es
    refine v_put (pc := 20) C cfX12 rfl 0 0 (ty := .int) (w' := (fl [bModel E a p3])) rfl (by subst es; rfl) (by decide) wfX12_7 rfl rfl rfl rfl (Nat.le_of_ble_eq_true rfl) dX12_read_20 ?_
    refine v_aload_n (pc := 23) C 0 rfl rfl dX12_read_23 ?_
    refine v_goAv (pc := 24) C (wc' := (fun (u : St) => (fl [bModel E a u]))) (fun _ => rfl) (v_runVA (pc := 24) C [] [] (fun sz => ctX12_empty l E a p3 hw sz) mfX12_empty mvX12_empty wmX12_82 rfl ⟨Nat.le_of_ble_eq_true rfl, Nat.le_of_ble_eq_true rfl⟩ ⟨rfl, rfl⟩ 0 (ci := 12) (qc := (RX12, TX12, 30)) rfl rfl rfl rfl (Nat.le_of_ble_eq_true rfl) ⟨Nat.zero_le _, Nat.zero_le _⟩ dX12_read_24) (fun p4 hw => ?_)
    refine v_aload_n (pc := 27) C 0 rfl rfl dX12_read_27 ?_
    refine v_iconst (pc := 28) C 0 ki_0 dX12_read_28 ?_
    obtain ⟨p5, es⟩ : ∃ y : St, y = p4.sI 3 0 := ⟨_, rfl⟩
    have hw := hw p5 es
    refine v_put (pc := 29) C cfX12 rfl 0 3 (ty := .int) (w' := (fl [bModel E a p5])) rfl (by subst es; rfl) (by decide) wfX12_79 rfl rfl rfl rfl (Nat.le_of_ble_eq_true rfl) dX12_read_29 ?_
    refine v_iconst (pc := 32) C 1 ki_1 dX12_read_32 ?_
    refine v_istore_n (pc := 33) C [(1, .int 1), (0, .ref (a 0))] rfl rfl (by decide) dX12_read_33 ?_
    obtain ⟨n, hw⟩ := hw
    refine v_sub (lv' := [(0, .ref (a 0)), (1, .int 1)]) [1, 0] rfl ?_
    refine vlX12_read_34 C hA a  (fun p13 hw => ?_) n 1 p5 hw
    refine v_aload_n (pc := 136) C 0 rfl rfl dX12_read_136 ?_
    refine v_get (pc := 137) C cfX12 rfl 0 17 rfl (by decide) wfX12_153 rfl dX12_read_137 ?_
    exact v_ireti (pc := 140) C p13 hA rfl hw dX12_read_140
  · have hw := hw.2 hc
    refine v_bipush (pc := 7) C (-10) kb_m10 dX12_read_7 ?_
    refine v_aload_n (pc := 9) C 0 rfl rfl dX12_read_9 ?_
    refine v_get (pc := 10) C cfX12 rfl 0 15 rfl (by decide) wfX12_120 rfl dX12_read_10 ?_
    refine v_isub (pc := 13) C dX12_read_13 ?_
    exact v_ireti (pc := 14) C p2 hA rfl hw dX12_read_14
set_option maxHeartbeats 4000000 in
set_option maxRecDepth 100000 in
theorem vlX12_writtenOn_4 (C : VC pr s m args meth c E A cX12_writtenOn 4 (some .int) RX12) (hA : va_A w0 s.heap.size = A) (a : Nat → Nat) (p : St) {Post : Int32 → Prop} {KX : Int32 → Prop} (hX : ∀ (x2 : Int32), KX x2 → V pr l e rmX12_writtenOn s m args below meth c E A 4 0 0 (MQ below (CQi E (fun (z : Int32) (_ : Unit) => Post z) (fun _ => (fl [bModel E a p])) w0 s.heap.size) args s 0 0 A) (fl [bModel E a p]) 48 [(2, .int x2)] []) : ∀ (n : Nat) (x1 : Int32) (x2 : Int32) (x3 : Int32), wLX12_writtenOn_4 p Post KX n (x1, x2, x3) → V pr l e rmX12_writtenOn s m args below meth c E A 4 0 0 (MQ below (CQi E (fun (z : Int32) (_ : Unit) => Post z) (fun _ => (fl [bModel E a p])) w0 s.heap.size) args s 0 0 A) (fl [bModel E a p]) 4 [(0, .ref (a 0)), (1, .int x1), (2, .int x2), (3, .int x3)] [] := by
  intro n
  induction n with
  | zero => intro x1 x2 x3 hw; exact absurd hw id
  | succ n hself =>
    intro x1 x2 x3 hw
    have hw : wlX12_writtenOn_4 p Post KX (wLX12_writtenOn_4 p Post KX n) x1 x2 x3 := hw
    refine v_iload_n (pc := 4) C 3 rfl rfl dX12_writtenOn_4 ?_
    refine v_aload_n (pc := 5) C 0 rfl rfl dX12_writtenOn_5 ?_
    refine v_get (pc := 6) C cfX12 rfl 0 4 rfl (by decide) wfX12_17 rfl dX12_writtenOn_6 ?_
    refine v_bipush (pc := 9) C 124 kb_124 dX12_writtenOn_9 ?_
    refine v_iald (pc := 11) C 2 rfl vi_124_126 tn_124 dX12_writtenOn_11 ?_
    refine v_icmp_ge (pc := 12) C 48 (by decide) dX12_writtenOn_12 (fun hc => ?_) (fun hc => ?_)
    · have hw := hw.1 hc
      refine v_sub (lv' := [(2, .int x2)]) [2] rfl ?_
      exact hX x2 hw
    · have hw := hw.2 hc
      refine v_iload_n (pc := 15) C 2 rfl rfl dX12_writtenOn_15 ?_
      refine v_aload_n (pc := 16) C 0 rfl rfl dX12_writtenOn_16 ?_
      refine v_get (pc := 17) C cfX12 rfl 0 4 rfl (by decide) wfX12_17 rfl dX12_writtenOn_17 ?_
      refine v_bipush (pc := 20) C 84 kb_84 dX12_writtenOn_20 ?_
      refine v_iconst (pc := 22) C 4 ki_4 dX12_writtenOn_22 ?_
      refine v_iload_n (pc := 23) C 3 rfl rfl dX12_writtenOn_23 ?_
      refine v_imul (pc := 24) C dX12_writtenOn_24 ?_
      refine v_iadd (pc := 25) C dX12_writtenOn_25 ?_
      refine v_iconst (pc := 26) C 3 ki_3 dX12_writtenOn_26 ?_
      refine v_iadd (pc := 27) C dX12_writtenOn_27 ?_
      obtain ⟨hg, hw⟩ := hw
      refine v_iald (pc := 28) C 2 rfl hg rfl dX12_writtenOn_28 ?_
      refine v_iload_n (pc := 29) C 1 rfl rfl dX12_writtenOn_29 ?_
      refine v_icmp_ne (pc := 30) C 39 (by decide) dX12_writtenOn_30 (fun hc => ?_) (fun hc => ?_)
      · have hw := hw.1 hc
        refine v_iconst (pc := 39) C 0 ki_0 dX12_writtenOn_39 ?_
        refine v_ior (pc := 40) C dX12_writtenOn_40 ?_
        refine v_topi (fun x2_1 ex => ?_)
        have hw := hw x2_1 ex
        refine v_istore_n (pc := 41) C [(2, .int x2_1), (0, .ref (a 0)), (1, .int x1), (3, .int x3)] rfl rfl (by decide) dX12_writtenOn_41 ?_
        obtain ⟨x3_2, ex⟩ : ∃ y : Int32, y = x3 + 1 := ⟨_, rfl⟩
        have hw := hw x3_2 ex
        refine v_iinc (pc := 42) C 3 rfl (by rw [ex, ki_1]) [(3, .int x3_2), (2, .int x2_1), (0, .ref (a 0)), (1, .int x1)] rfl (by decide) dX12_writtenOn_42 ?_
        refine v_goto (pc := 45) C 4 (by decide) dX12_writtenOn_45 ?_
        refine v_sub (lv' := [(0, .ref (a 0)), (1, .int x1), (2, .int x2_1), (3, .int x3_2)]) [2, 3, 1, 0] rfl ?_
        exact hself x1 x2_1 x3_2 hw
      · have hw := hw.2 hc
        refine v_iconst (pc := 33) C 1 ki_1 dX12_writtenOn_33 ?_
        refine v_iload_n (pc := 34) C 3 rfl rfl dX12_writtenOn_34 ?_
        refine v_ishl (pc := 35) C dX12_writtenOn_35 ?_
        refine v_goto (pc := 36) C 40 (by decide) dX12_writtenOn_36 ?_
        refine v_ior (pc := 40) C dX12_writtenOn_40 ?_
        refine v_topi (fun x2_3 ex => ?_)
        have hw := hw x2_3 ex
        refine v_istore_n (pc := 41) C [(2, .int x2_3), (0, .ref (a 0)), (1, .int x1), (3, .int x3)] rfl rfl (by decide) dX12_writtenOn_41 ?_
        obtain ⟨x3_4, ex⟩ : ∃ y : Int32, y = x3 + 1 := ⟨_, rfl⟩
        have hw := hw x3_4 ex
        refine v_iinc (pc := 42) C 3 rfl (by rw [ex, ki_1]) [(3, .int x3_4), (2, .int x2_3), (0, .ref (a 0)), (1, .int x1)] rfl (by decide) dX12_writtenOn_42 ?_
        refine v_goto (pc := 45) C 4 (by decide) dX12_writtenOn_45 ?_
        refine v_sub (lv' := [(0, .ref (a 0)), (1, .int x1), (2, .int x2_3), (3, .int x3_4)]) [2, 3, 1, 0] rfl ?_
        exact hself x1 x2_3 x3_4 hw
set_option maxHeartbeats 4000000 in
set_option maxRecDepth 100000 in
theorem ctX12_writtenOn (l : Launch) (E : VE) (a : Nat → Nat) (x1 : Int32) (p : St)  {Post : Int32 → Prop} (hw : wpX12_writtenOn x1 p Post) (sz : Nat) : Met l yX12_writtenOn (mW yX12_writtenOn cX12_writtenOn 4 (some .int)) rmX12_writtenOn (CPre E [.ref (a 0), .int x1] sz (fl [bModel E a p])) (CQi E (fun (z : Int32) (_ : Unit) => Post z) (fun _ => (fl [bModel E a p])) (fl [bModel E a p]) sz) 0 0 (va_A (fl [bModel E a p]) sz) := by
  refine v_met (by decide) (Nat.le_of_ble_eq_true rfl) ?_
  intro pr e s m below meth c A hsz hA C
  subst hsz
  refine v_iconst (pc := 0) C 0 ki_0 dX12_writtenOn_0 ?_
  refine v_istore_n (pc := 1) C [(2, .int 0), (0, .ref (a 0)), (1, .int x1)] rfl rfl (by decide) dX12_writtenOn_1 ?_
  refine v_iconst (pc := 2) C 0 ki_0 dX12_writtenOn_2 ?_
  refine v_istore_n (pc := 3) C [(3, .int 0), (2, .int 0), (0, .ref (a 0)), (1, .int x1)] rfl rfl (by decide) dX12_writtenOn_3 ?_
  obtain ⟨n, hw⟩ := hw
  refine v_sub (lv' := [(0, .ref (a 0)), (1, .int x1), (2, .int 0), (3, .int 0)]) [2, 3, 1, 0] rfl ?_
  refine vlX12_writtenOn_4 C hA a p (fun y5 hw => ?_) n x1 0 0 hw
  refine v_iload_n (pc := 48) C 0 rfl rfl dX12_writtenOn_48 ?_
  exact v_ireti (pc := 49) C () hA rfl hw dX12_writtenOn_49
set_option maxHeartbeats 4000000 in
set_option maxRecDepth 100000 in
theorem ctX12_of (l : Launch) (E : VE) (a : Nat → Nat) (x1 : Int32) (x2 : Int32) (p : St)  {Post : Int32 → St → Prop} (hw : wpX12_of x1 x2 p Post) (sz : Nat) : Met l yX12_of (mW yX12_of cX12_of 3 (some .int)) rmX12_of (CPre E [.ref (a 0), .int x1, .int x2] sz (fl [bModel E a p])) (CQi E Post (fun u => (fl [bModel E a u])) (fl [bModel E a p]) sz) 0 0 (va_A (fl [bModel E a p]) sz) := by
  refine v_met (by decide) (Nat.le_of_ble_eq_true rfl) ?_
  intro pr e s m below meth c A hsz hA C
  subst hsz
  refine v_aload_n (pc := 0) C 0 rfl rfl dX12_of_0 ?_
  refine v_iload_n (pc := 1) C 1 rfl rfl dX12_of_1 ?_
  refine v_goAi (pc := 2) C (wc' := (fun (_ : Unit) => (fl [bModel E a p]))) (fun _ => rfl) (v_runVA (pc := 2) C [.int x1] [] (fun sz => ctX12_isSheet l E a x1 p hw sz) mfX12_isSheet mvX12_isSheet wmX12_172 rfl ⟨Nat.le_of_ble_eq_true rfl, Nat.le_of_ble_eq_true rfl⟩ ⟨rfl, rfl⟩ 0 (ci := 12) (qc := (RX12, TX12, 30)) rfl rfl rfl rfl (Nat.le_of_ble_eq_true rfl) ⟨Nat.zero_le _, Nat.zero_le _⟩ dX12_of_2) (fun r1 _ hw => ?_)
  refine v_if_ne (pc := 5) C 13 (by decide) dX12_of_5 (fun hc => ?_) (fun hc => ?_)
  · have hw := hw.1 hc
    refine v_iload_n (pc := 13) C 2 rfl rfl dX12_of_13 ?_
    by_cases hc0 : x2 = 0
    · have hw := hw.1 hc0
      refine v_tblIn (pc := 14) C (off := 30) 44 dX12_of_14 (by rw [hc0]; decide) (by rw [hc0]; decide) (by rw [hc0]; decide) (by decide) ?_
      refine v_aload_n (pc := 44) C 0 rfl rfl dX12_of_44 ?_
      refine v_get (pc := 45) C cfX12 rfl 0 4 rfl (by decide) wfX12_17 rfl dX12_of_45 ?_
      refine v_iconst (pc := 48) C 0 ki_0 dX12_of_48 ?_
      refine v_iload_n (pc := 49) C 1 rfl rfl dX12_of_49 ?_
      refine v_iadd (pc := 50) C dX12_of_50 ?_
      obtain ⟨hg, hw⟩ := hw
      refine v_iald (pc := 51) C 2 rfl hg rfl dX12_of_51 ?_
      exact v_ireti (pc := 52) C p hA rfl hw dX12_of_52
    replace hw := hw.2
    by_cases hc1 : x2 = 1
    · have hw := hw.1 hc1
      refine v_tblIn (pc := 14) C (off := 39) 53 dX12_of_14 (by rw [hc1]; decide) (by rw [hc1]; decide) (by rw [hc1]; decide) (by decide) ?_
      refine v_aload_n (pc := 53) C 0 rfl rfl dX12_of_53 ?_
      refine v_get (pc := 54) C cfX12 rfl 0 4 rfl (by decide) wfX12_17 rfl dX12_of_54 ?_
      refine v_bipush (pc := 57) C 6 kb_6 dX12_of_57 ?_
      refine v_iload_n (pc := 59) C 1 rfl rfl dX12_of_59 ?_
      refine v_iadd (pc := 60) C dX12_of_60 ?_
      obtain ⟨hg, hw⟩ := hw
      refine v_iald (pc := 61) C 2 rfl hg rfl dX12_of_61 ?_
      exact v_ireti (pc := 62) C p hA rfl hw dX12_of_62
    replace hw := hw.2
    by_cases hc2 : x2 = 2
    · have hw := hw.1 hc2
      refine v_tblIn (pc := 14) C (off := 49) 63 dX12_of_14 (by rw [hc2]; decide) (by rw [hc2]; decide) (by rw [hc2]; decide) (by decide) ?_
      refine v_iload_n (pc := 63) C 1 rfl rfl dX12_of_63 ?_
      refine v_aload_n (pc := 64) C 0 rfl rfl dX12_of_64 ?_
      refine v_get (pc := 65) C cfX12 rfl 0 4 rfl (by decide) wfX12_17 rfl dX12_of_65 ?_
      refine v_bipush (pc := 68) C 125 kb_125 dX12_of_68 ?_
      refine v_iald (pc := 70) C 2 rfl vi_125_126 tn_125 dX12_of_70 ?_
      refine v_icmp_ge (pc := 71) C 78 (by decide) dX12_of_71 (fun hc => ?_) (fun hc => ?_)
      · have hw := hw.1 hc
        refine v_iload_n (pc := 78) C 1 rfl rfl dX12_of_78 ?_
        refine v_aload_n (pc := 79) C 0 rfl rfl dX12_of_79 ?_
        refine v_get (pc := 80) C cfX12 rfl 0 4 rfl (by decide) wfX12_17 rfl dX12_of_80 ?_
        refine v_bipush (pc := 83) C 125 kb_125 dX12_of_83 ?_
        refine v_iald (pc := 85) C 2 rfl vi_125_126 tn_125 dX12_of_85 ?_
        refine v_isub (pc := 86) C dX12_of_86 ?_
        exact v_ireti (pc := 87) C p hA rfl hw dX12_of_87
      · have hw := hw.2 hc
        refine v_iconst (pc := 74) C (-1) ki_m1 dX12_of_74 ?_
        refine v_goto (pc := 75) C 87 (by decide) dX12_of_75 ?_
        exact v_ireti (pc := 87) C p hA rfl hw dX12_of_87
    replace hw := hw.2
    by_cases hc3 : x2 = 3
    · have hw := hw.1 hc3
      refine v_tblIn (pc := 14) C (off := 74) 88 dX12_of_14 (by rw [hc3]; decide) (by rw [hc3]; decide) (by rw [hc3]; decide) (by decide) ?_
      refine v_aload_n (pc := 88) C 0 rfl rfl dX12_of_88 ?_
      refine v_iload_n (pc := 89) C 1 rfl rfl dX12_of_89 ?_
      refine v_goAi (pc := 90) C (wc' := (fun (_ : Unit) => (fl [bModel E a p]))) (fun _ => rfl) (v_runVA (pc := 90) C [.int x1] [] (fun sz => ctX12_writtenOn l E a x1 p hw sz) mfX12_writtenOn mvX12_writtenOn wmX12_178 rfl ⟨Nat.le_of_ble_eq_true rfl, Nat.le_of_ble_eq_true rfl⟩ ⟨rfl, rfl⟩ 0 (ci := 12) (qc := (RX12, TX12, 30)) rfl rfl rfl rfl (Nat.le_of_ble_eq_true rfl) ⟨Nat.zero_le _, Nat.zero_le _⟩ dX12_of_90) (fun r2 _ hw => ?_)
      exact v_ireti (pc := 93) C p hA rfl hw dX12_of_93
    replace hw := hw.2
    replace hw := hw hc0 hc1 hc2 hc3
    refine v_tblOut (pc := 14) C 94 (by decide) dX12_of_14 (tblo (k := 3) (by decide) (fun j hj => by rcases (show j = 0 ∨ j = 1 ∨ j = 2 ∨ j = 3 by omega) with rfl | rfl | rfl | rfl <;> assumption)) ?_
    refine v_aload_n (pc := 94) C 0 rfl rfl dX12_of_94 ?_
    refine v_goAi (pc := 95) C (wc' := (fun (u : St) => (fl [bModel E a u]))) (fun _ => rfl) (v_runVA (pc := 95) C [] [] (fun sz => ctX12_badLess l E a p hw sz) mfX12_badLess mvX12_badLess wmX12_175 rfl ⟨Nat.le_of_ble_eq_true rfl, Nat.le_of_ble_eq_true rfl⟩ ⟨rfl, rfl⟩ 0 (ci := 12) (qc := (RX12, TX12, 30)) rfl rfl rfl rfl (Nat.le_of_ble_eq_true rfl) ⟨Nat.zero_le _, Nat.zero_le _⟩ dX12_of_95) (fun r3 p4 hw => ?_)
    exact v_ireti (pc := 98) C p4 hA rfl hw dX12_of_98
  · have hw := hw.2 hc
    refine v_aload_n (pc := 8) C 0 rfl rfl dX12_of_8 ?_
    refine v_goAi (pc := 9) C (wc' := (fun (u : St) => (fl [bModel E a u]))) (fun _ => rfl) (v_runVA (pc := 9) C [] [] (fun sz => ctX12_badLess l E a p hw sz) mfX12_badLess mvX12_badLess wmX12_175 rfl ⟨Nat.le_of_ble_eq_true rfl, Nat.le_of_ble_eq_true rfl⟩ ⟨rfl, rfl⟩ 0 (ci := 12) (qc := (RX12, TX12, 30)) rfl rfl rfl rfl (Nat.le_of_ble_eq_true rfl) ⟨Nat.zero_le _, Nat.zero_le _⟩ dX12_of_9) (fun r5 p6 hw => ?_)
    exact v_ireti (pc := 12) C p6 hA rfl hw dX12_of_12
set_option maxHeartbeats 4000000 in
set_option maxRecDepth 100000 in
theorem ctX12_dentOf (l : Launch) (E : VE) (a : Nat → Nat) (x1 : Int32) (x2 : Int32) (p : St)  {Post : Int32 → Prop} (hw : wpX12_dentOf x1 x2 p Post) (sz : Nat) : Met l yX12_dentOf (mW yX12_dentOf cX12_dentOf 3 (some .int)) rmX12_dentOf (CPre E [.ref (a 0), .int x1, .int x2] sz (fl [bModel E a p])) (CQi E (fun (z : Int32) (_ : Unit) => Post z) (fun _ => (fl [bModel E a p])) (fl [bModel E a p]) sz) 0 0 (va_A (fl [bModel E a p]) sz) := by
  refine v_met (by decide) (Nat.le_of_ble_eq_true rfl) ?_
  intro pr e s m below meth c A hsz hA C
  subst hsz
  refine v_aload_n (pc := 0) C 0 rfl rfl dX12_dentOf_0 ?_
  refine v_get (pc := 1) C cfX12 rfl 0 4 rfl (by decide) wfX12_17 rfl dX12_dentOf_1 ?_
  refine v_bipush (pc := 4) C 12 kb_12 dX12_dentOf_4 ?_
  refine v_bipush (pc := 6) C 12 kb_12 dX12_dentOf_6 ?_
  refine v_iload_n (pc := 8) C 1 rfl rfl dX12_dentOf_8 ?_
  refine v_imul (pc := 9) C dX12_dentOf_9 ?_
  refine v_iadd (pc := 10) C dX12_dentOf_10 ?_
  refine v_iload_n (pc := 11) C 2 rfl rfl dX12_dentOf_11 ?_
  refine v_iadd (pc := 12) C dX12_dentOf_12 ?_
  obtain ⟨hg, hw⟩ := hw
  refine v_iald (pc := 13) C 2 rfl hg rfl dX12_dentOf_13 ?_
  exact v_ireti (pc := 14) C () hA rfl hw dX12_dentOf_14
set_option maxHeartbeats 4000000 in
set_option maxRecDepth 100000 in
theorem vjX12_dent_29 (C : VC pr s m args meth c E A cX12_dent 3 (some .int) RX12) (hA : va_A w0 s.heap.size = A) (a : Nat → Nat)  {Post : Int32 → St → Prop} (p : St) (hw : wjX12_dent_29  Post p) : V pr l e rmX12_dent s m args below meth c E A 3 0 0 (MQ below (CQi E Post (fun u => (fl [bModel E a u])) w0 s.heap.size) args s 0 0 A) (fl [bModel E a p]) 29 [(0, .ref (a 0))] [] := by
  refine v_aload_n (pc := 29) C 0 rfl rfl dX12_dent_29 ?_
  refine v_goAi (pc := 30) C (wc' := (fun (u : St) => (fl [bModel E a u]))) (fun _ => rfl) (v_runVA (pc := 30) C [] [] (fun sz => ctX12_bad l E a p hw sz) mfX12_bad mvX12_bad wmX12_75 rfl ⟨Nat.le_of_ble_eq_true rfl, Nat.le_of_ble_eq_true rfl⟩ ⟨rfl, rfl⟩ 0 (ci := 12) (qc := (RX12, TX12, 30)) rfl rfl rfl rfl (Nat.le_of_ble_eq_true rfl) ⟨Nat.zero_le _, Nat.zero_le _⟩ dX12_dent_30) (fun r2 p3 hw => ?_)
  exact v_ireti (pc := 33) C p3 hA rfl hw dX12_dent_33
set_option maxHeartbeats 4000000 in
set_option maxRecDepth 100000 in
theorem ctX12_dent (l : Launch) (E : VE) (a : Nat → Nat) (x1 : Int32) (x2 : Int32) (p : St)  {Post : Int32 → St → Prop} (hw : wpX12_dent x1 x2 p Post) (sz : Nat) : Met l yX12_dent (mW yX12_dent cX12_dent 3 (some .int)) rmX12_dent (CPre E [.ref (a 0), .int x1, .int x2] sz (fl [bModel E a p])) (CQi E Post (fun u => (fl [bModel E a u])) (fl [bModel E a p]) sz) 0 0 (va_A (fl [bModel E a p]) sz) := by
  refine v_met (by decide) (Nat.le_of_ble_eq_true rfl) ?_
  intro pr e s m below meth c A hsz hA C
  subst hsz
  refine v_aload_n (pc := 0) C 0 rfl rfl dX12_dent_0 ?_
  refine v_iload_n (pc := 1) C 1 rfl rfl dX12_dent_1 ?_
  refine v_goAi (pc := 2) C (wc' := (fun (_ : Unit) => (fl [bModel E a p]))) (fun _ => rfl) (v_runVA (pc := 2) C [.int x1] [] (fun sz => ctX12_isSheet l E a x1 p hw sz) mfX12_isSheet mvX12_isSheet wmX12_172 rfl ⟨Nat.le_of_ble_eq_true rfl, Nat.le_of_ble_eq_true rfl⟩ ⟨rfl, rfl⟩ 0 (ci := 12) (qc := (RX12, TX12, 30)) rfl rfl rfl rfl (Nat.le_of_ble_eq_true rfl) ⟨Nat.zero_le _, Nat.zero_le _⟩ dX12_dent_2) (fun r1 _ hw => ?_)
  refine v_if_eq (pc := 5) C 29 (by decide) dX12_dent_5 (fun hc => ?_) (fun hc => ?_)
  · have hw := hw.1 hc
    refine v_sub (lv' := [(0, .ref (a 0))]) [0] rfl ?_
    exact vjX12_dent_29 C hA a  p hw
  · have hw := hw.2 hc
    refine v_iload_n (pc := 8) C 2 rfl rfl dX12_dent_8 ?_
    refine v_i2l (pc := 9) C dX12_dent_9 ?_
    refine v_lconst (pc := 10) C 0 kl_0 dX12_dent_10 ?_
    refine v_ldc2 (pc := 11) C 11 wlX12_151 dX12_dent_11 ?_
    refine v_goBi (pc := 14) C (bs := [bModel E a p]) (cs := []) (cs' := (fun (_ : Unit) => [])) (bs' := (fun (_ : Unit) => [bModel E a p])) (w' := (fun (_ : Unit) => (fl [bModel E a p]))) [] rfl rfl (fun _ => rfl) (fun _ => rfl) (fun _ => rfl) (v_runSB (pc := 14) C [.long (x2.toInt64), .long 0, .long 11] [] (fun sz => ctX12_in l E (x2.toInt64) 0 11 hw sz) [] rfl rfl rfl mfX12_in msX12_in wmX12_56 rfl ⟨Nat.le_of_ble_eq_true rfl, Nat.le_of_ble_eq_true rfl⟩ ⟨rfl, rfl⟩ rfl (Nat.le_of_ble_eq_true rfl) ⟨Nat.zero_le _, Nat.zero_le _⟩ dX12_dent_14) (fun r4 _ hw => ?_)
    refine v_if_eq (pc := 17) C 29 (by decide) dX12_dent_17 (fun hc => ?_) (fun hc => ?_)
    · have hw := hw.1 hc
      refine v_sub (lv' := [(0, .ref (a 0))]) [0] rfl ?_
      exact vjX12_dent_29 C hA a  p hw
    · have hw := hw.2 hc
      refine v_aload_n (pc := 20) C 0 rfl rfl dX12_dent_20 ?_
      refine v_iload_n (pc := 21) C 1 rfl rfl dX12_dent_21 ?_
      refine v_iload_n (pc := 22) C 2 rfl rfl dX12_dent_22 ?_
      refine v_goAi (pc := 23) C (wc' := (fun (_ : Unit) => (fl [bModel E a p]))) (fun _ => rfl) (v_runVA (pc := 23) C [.int x1, .int x2] [] (fun sz => ctX12_dentOf l E a x1 x2 p hw sz) mfX12_dentOf mvX12_dentOf wmX12_181 rfl ⟨Nat.le_of_ble_eq_true rfl, Nat.le_of_ble_eq_true rfl⟩ ⟨rfl, rfl⟩ 0 (ci := 12) (qc := (RX12, TX12, 30)) rfl rfl rfl rfl (Nat.le_of_ble_eq_true rfl) ⟨Nat.zero_le _, Nat.zero_le _⟩ dX12_dent_23) (fun r5 _ hw => ?_)
      refine v_goto (pc := 26) C 33 (by decide) dX12_dent_26 ?_
      exact v_ireti (pc := 33) C p hA rfl hw dX12_dent_33
set_option maxHeartbeats 4000000 in
set_option maxRecDepth 100000 in
theorem ctX12_about (l : Launch) (E : VE) (a : Nat → Nat) (x1 : Int32) (x2 : Int32) (p : St)  {Post : Int32 → St → Prop} (hw : wpX12_about x1 x2 p Post) (sz : Nat) : Met l yX12_about (mW yX12_about cX12_about 4 (some .int)) rmX12_about (CPre E [.ref (a 0), .int x1, .int x2] sz (fl [bModel E a p])) (CQi E Post (fun u => (fl [bModel E a u])) (fl [bModel E a p]) sz) 0 0 (va_A (fl [bModel E a p]) sz) := by
  refine v_met (by decide) (Nat.le_of_ble_eq_true rfl) ?_
  intro pr e s m below meth c A hsz hA C
  subst hsz
  refine v_iload_n (pc := 0) C 1 rfl rfl dX12_about_0 ?_
  refine v_i2l (pc := 1) C dX12_about_1 ?_
  refine v_lconst (pc := 2) C 0 kl_0 dX12_about_2 ?_
  refine v_aload_n (pc := 3) C 0 rfl rfl dX12_about_3 ?_
  refine v_get (pc := 4) C cfX12 rfl 0 4 rfl (by decide) wfX12_17 rfl dX12_about_4 ?_
  refine v_bipush (pc := 7) C 124 kb_124 dX12_about_7 ?_
  refine v_iald (pc := 9) C 2 rfl vi_124_126 tn_124 dX12_about_9 ?_
  refine v_iconst (pc := 10) C 1 ki_1 dX12_about_10 ?_
  refine v_isub (pc := 11) C dX12_about_11 ?_
  refine v_i2l (pc := 12) C dX12_about_12 ?_
  refine v_goBi (pc := 13) C (bs := [bModel E a p]) (cs := []) (cs' := (fun (_ : Unit) => [])) (bs' := (fun (_ : Unit) => [bModel E a p])) (w' := (fun (_ : Unit) => (fl [bModel E a p]))) [] rfl rfl (fun _ => rfl) (fun _ => rfl) (fun _ => rfl) (v_runSB (pc := 13) C [.long (x1.toInt64), .long 0, .long (((((p.A 4) 124) - 1)).toInt64)] [] (fun sz => ctX12_in l E (x1.toInt64) 0 (((((p.A 4) 124) - 1)).toInt64) hw sz) [] rfl rfl rfl mfX12_in msX12_in wmX12_56 rfl ⟨Nat.le_of_ble_eq_true rfl, Nat.le_of_ble_eq_true rfl⟩ ⟨rfl, rfl⟩ rfl (Nat.le_of_ble_eq_true rfl) ⟨Nat.zero_le _, Nat.zero_le _⟩ dX12_about_13) (fun r1 _ hw => ?_)
  refine v_if_ne (pc := 16) C 24 (by decide) dX12_about_16 (fun hc => ?_) (fun hc => ?_)
  · have hw := hw.1 hc
    refine v_bipush (pc := 24) C 84 kb_84 dX12_about_24 ?_
    refine v_iconst (pc := 26) C 4 ki_4 dX12_about_26 ?_
    refine v_iload_n (pc := 27) C 1 rfl rfl dX12_about_27 ?_
    refine v_imul (pc := 28) C dX12_about_28 ?_
    refine v_iadd (pc := 29) C dX12_about_29 ?_
    refine v_topi (fun x3_2 ex => ?_)
    have hw := hw x3_2 ex
    refine v_istore_n (pc := 30) C [(3, .int x3_2), (0, .ref (a 0)), (1, .int x1), (2, .int x2)] rfl rfl (by decide) dX12_about_30 ?_
    refine v_iload_n (pc := 31) C 3 rfl rfl dX12_about_31 ?_
    by_cases hc0 : x2 = 0
    · have hw := hw.1 hc0
      refine v_tblIn (pc := 32) C (off := 40) 72 dX12_about_32 (by rw [hc0]; decide) (by rw [hc0]; decide) (by rw [hc0]; decide) (by decide) ?_
      refine v_aload_n (pc := 72) C 1 rfl rfl dX12_about_72 ?_
      refine v_get (pc := 73) C cfX12 rfl 0 4 rfl (by decide) wfX12_17 rfl dX12_about_73 ?_
      refine v_iload_n (pc := 76) C 0 rfl rfl dX12_about_76 ?_
      refine v_iload_n (pc := 77) C 3 rfl rfl dX12_about_77 ?_
      refine v_iadd (pc := 78) C dX12_about_78 ?_
      obtain ⟨hg, hw⟩ := hw
      refine v_iald (pc := 79) C 2 rfl hg rfl dX12_about_79 ?_
      exact v_ireti (pc := 80) C p hA rfl hw dX12_about_80
    replace hw := hw.2
    by_cases hc1 : x2 = 1
    · have hw := hw.1 hc1
      refine v_tblIn (pc := 32) C (off := 40) 72 dX12_about_32 (by rw [hc1]; decide) (by rw [hc1]; decide) (by rw [hc1]; decide) (by decide) ?_
      refine v_aload_n (pc := 72) C 1 rfl rfl dX12_about_72 ?_
      refine v_get (pc := 73) C cfX12 rfl 0 4 rfl (by decide) wfX12_17 rfl dX12_about_73 ?_
      refine v_iload_n (pc := 76) C 0 rfl rfl dX12_about_76 ?_
      refine v_iload_n (pc := 77) C 3 rfl rfl dX12_about_77 ?_
      refine v_iadd (pc := 78) C dX12_about_78 ?_
      obtain ⟨hg, hw⟩ := hw
      refine v_iald (pc := 79) C 2 rfl hg rfl dX12_about_79 ?_
      exact v_ireti (pc := 80) C p hA rfl hw dX12_about_80
    replace hw := hw.2
    by_cases hc2 : x2 = 2
    · have hw := hw.1 hc2
      refine v_tblIn (pc := 32) C (off := 40) 72 dX12_about_32 (by rw [hc2]; decide) (by rw [hc2]; decide) (by rw [hc2]; decide) (by decide) ?_
      refine v_aload_n (pc := 72) C 1 rfl rfl dX12_about_72 ?_
      refine v_get (pc := 73) C cfX12 rfl 0 4 rfl (by decide) wfX12_17 rfl dX12_about_73 ?_
      refine v_iload_n (pc := 76) C 0 rfl rfl dX12_about_76 ?_
      refine v_iload_n (pc := 77) C 3 rfl rfl dX12_about_77 ?_
      refine v_iadd (pc := 78) C dX12_about_78 ?_
      obtain ⟨hg, hw⟩ := hw
      refine v_iald (pc := 79) C 2 rfl hg rfl dX12_about_79 ?_
      exact v_ireti (pc := 80) C p hA rfl hw dX12_about_80
    replace hw := hw.2
    by_cases hc3 : x2 = 3
    · have hw := hw.1 hc3
      refine v_tblIn (pc := 32) C (off := 40) 72 dX12_about_32 (by rw [hc3]; decide) (by rw [hc3]; decide) (by rw [hc3]; decide) (by decide) ?_
      refine v_aload_n (pc := 72) C 1 rfl rfl dX12_about_72 ?_
      refine v_get (pc := 73) C cfX12 rfl 0 4 rfl (by decide) wfX12_17 rfl dX12_about_73 ?_
      refine v_iload_n (pc := 76) C 0 rfl rfl dX12_about_76 ?_
      refine v_iload_n (pc := 77) C 3 rfl rfl dX12_about_77 ?_
      refine v_iadd (pc := 78) C dX12_about_78 ?_
      obtain ⟨hg, hw⟩ := hw
      refine v_iald (pc := 79) C 2 rfl hg rfl dX12_about_79 ?_
      exact v_ireti (pc := 80) C p hA rfl hw dX12_about_80
    replace hw := hw.2
    by_cases hc4 : x2 = 4
    · have hw := hw.1 hc4
      refine v_tblIn (pc := 32) C (off := 49) 81 dX12_about_32 (by rw [hc4]; decide) (by rw [hc4]; decide) (by rw [hc4]; decide) (by decide) ?_
      refine v_aload_n (pc := 81) C 1 rfl rfl dX12_about_81 ?_
      refine v_get (pc := 82) C cfX12 rfl 0 4 rfl (by decide) wfX12_17 rfl dX12_about_82 ?_
      refine v_iload_n (pc := 85) C 0 rfl rfl dX12_about_85 ?_
      obtain ⟨hg, hw⟩ := hw
      refine v_iald (pc := 86) C 2 rfl hg rfl dX12_about_86 ?_
      refine v_aload_n (pc := 87) C 1 rfl rfl dX12_about_87 ?_
      refine v_get (pc := 88) C cfX12 rfl 0 4 rfl (by decide) wfX12_17 rfl dX12_about_88 ?_
      refine v_iload_n (pc := 91) C 0 rfl rfl dX12_about_91 ?_
      refine v_iconst (pc := 92) C 1 ki_1 dX12_about_92 ?_
      refine v_iadd (pc := 93) C dX12_about_93 ?_
      obtain ⟨hg, hw⟩ := hw
      refine v_iald (pc := 94) C 2 rfl hg rfl dX12_about_94 ?_
      refine v_iconst (pc := 95) C 0 ki_0 dX12_about_95 ?_
      refine v_goBi (pc := 96) C (bs := [bModel E a p]) (cs := []) (cs' := (fun (_ : Unit) => [])) (bs' := (fun (_ : Unit) => [bModel E a p])) (w' := (fun (_ : Unit) => (fl [bModel E a p]))) [] rfl rfl (fun _ => rfl) (fun _ => rfl) (fun _ => rfl) (v_runSB (pc := 96) C [.int ((p.A 4) x3_2.toNatClampNeg), .int ((p.A 4) (x3_2 + 1).toNatClampNeg), .int 0] [] (fun sz => ctX12_forceOf l E ((p.A 4) x3_2.toNatClampNeg) ((p.A 4) (x3_2 + 1).toNatClampNeg) 0 hw sz) [] rfl rfl rfl mfX12_forceOf msX12_forceOf wmX12_89 rfl ⟨Nat.le_of_ble_eq_true rfl, Nat.le_of_ble_eq_true rfl⟩ ⟨rfl, rfl⟩ rfl (Nat.le_of_ble_eq_true rfl) ⟨Nat.zero_le _, Nat.zero_le _⟩ dX12_about_96) (fun r3 _ hw => ?_)
      exact v_ireti (pc := 99) C p hA rfl hw dX12_about_99
    replace hw := hw.2
    by_cases hc5 : x2 = 5
    · have hw := hw.1 hc5
      refine v_tblIn (pc := 32) C (off := 68) 100 dX12_about_32 (by rw [hc5]; decide) (by rw [hc5]; decide) (by rw [hc5]; decide) (by decide) ?_
      refine v_aload_n (pc := 100) C 1 rfl rfl dX12_about_100 ?_
      refine v_get (pc := 101) C cfX12 rfl 0 4 rfl (by decide) wfX12_17 rfl dX12_about_101 ?_
      refine v_iload_n (pc := 104) C 0 rfl rfl dX12_about_104 ?_
      obtain ⟨hg, hw⟩ := hw
      refine v_iald (pc := 105) C 2 rfl hg rfl dX12_about_105 ?_
      refine v_goBi (pc := 106) C (bs := [bModel E a p]) (cs := []) (cs' := (fun (_ : Unit) => [])) (bs' := (fun (_ : Unit) => [bModel E a p])) (w' := (fun (_ : Unit) => (fl [bModel E a p]))) [] rfl rfl (fun _ => rfl) (fun _ => rfl) (fun _ => rfl) (v_runSB (pc := 106) C [.int ((p.A 4) x3_2.toNatClampNeg)] [] (fun sz => ctX12_hasInk l E ((p.A 4) x3_2.toNatClampNeg) hw sz) [] rfl rfl rfl mfX12_hasInk msX12_hasInk wmX12_85 rfl ⟨Nat.le_of_ble_eq_true rfl, Nat.le_of_ble_eq_true rfl⟩ ⟨rfl, rfl⟩ rfl (Nat.le_of_ble_eq_true rfl) ⟨Nat.zero_le _, Nat.zero_le _⟩ dX12_about_106) (fun r4 _ hw => ?_)
      refine v_if_eq (pc := 109) C 116 (by decide) dX12_about_109 (fun hc => ?_) (fun hc => ?_)
      · have hw := hw.1 hc
        refine v_iconst (pc := 116) C 0 ki_0 dX12_about_116 ?_
        exact v_ireti (pc := 117) C p hA rfl hw dX12_about_117
      · have hw := hw.2 hc
        refine v_iconst (pc := 112) C 1 ki_1 dX12_about_112 ?_
        refine v_goto (pc := 113) C 117 (by decide) dX12_about_113 ?_
        exact v_ireti (pc := 117) C p hA rfl hw dX12_about_117
    replace hw := hw.2
    replace hw := hw hc0 hc1 hc2 hc3 hc4 hc5
    refine v_tblOut (pc := 32) C 118 (by decide) dX12_about_32 (tblo (k := 5) (by decide) (fun j hj => by rcases (show j = 0 ∨ j = 1 ∨ j = 2 ∨ j = 3 ∨ j = 4 ∨ j = 5 by omega) with rfl | rfl | rfl | rfl | rfl | rfl <;> assumption)) ?_
    refine v_aload_n (pc := 118) C 1 rfl rfl dX12_about_118 ?_
    refine v_goAi (pc := 119) C (wc' := (fun (u : St) => (fl [bModel E a u]))) (fun _ => rfl) (v_runVA (pc := 119) C [] [] (fun sz => ctX12_bad l E a p hw sz) mfX12_bad mvX12_bad wmX12_75 rfl ⟨Nat.le_of_ble_eq_true rfl, Nat.le_of_ble_eq_true rfl⟩ ⟨rfl, rfl⟩ 0 (ci := 12) (qc := (RX12, TX12, 30)) rfl rfl rfl rfl (Nat.le_of_ble_eq_true rfl) ⟨Nat.zero_le _, Nat.zero_le _⟩ dX12_about_119) (fun r5 p6 hw => ?_)
    exact v_ireti (pc := 122) C p6 hA rfl hw dX12_about_122
  · have hw := hw.2 hc
    refine v_aload_n (pc := 19) C 0 rfl rfl dX12_about_19 ?_
    refine v_goAi (pc := 20) C (wc' := (fun (u : St) => (fl [bModel E a u]))) (fun _ => rfl) (v_runVA (pc := 20) C [] [] (fun sz => ctX12_bad l E a p hw sz) mfX12_bad mvX12_bad wmX12_75 rfl ⟨Nat.le_of_ble_eq_true rfl, Nat.le_of_ble_eq_true rfl⟩ ⟨rfl, rfl⟩ 0 (ci := 12) (qc := (RX12, TX12, 30)) rfl rfl rfl rfl (Nat.le_of_ble_eq_true rfl) ⟨Nat.zero_le _, Nat.zero_le _⟩ dX12_about_20) (fun r7 p8 hw => ?_)
    exact v_ireti (pc := 23) C p8 hA rfl hw dX12_about_23
set_option maxHeartbeats 4000000 in
set_option maxRecDepth 100000 in
theorem vjX12_force_29 (C : VC pr s m args meth c E A cX12_force 4 (some .int) RX12) (hA : va_A w0 s.heap.size = A) (a : Nat → Nat)  {Post : Int32 → St → Prop} (p : St) (hw : wjX12_force_29  Post p) : V pr l e rmX12_force s m args below meth c E A 4 0 0 (MQ below (CQi E Post (fun u => (fl [bModel E a u])) w0 s.heap.size) args s 0 0 A) (fl [bModel E a p]) 29 [(0, .ref (a 0))] [] := by
  refine v_aload_n (pc := 29) C 0 rfl rfl dX12_force_29 ?_
  refine v_goAi (pc := 30) C (wc' := (fun (u : St) => (fl [bModel E a u]))) (fun _ => rfl) (v_runVA (pc := 30) C [] [] (fun sz => ctX12_bad l E a p hw sz) mfX12_bad mvX12_bad wmX12_75 rfl ⟨Nat.le_of_ble_eq_true rfl, Nat.le_of_ble_eq_true rfl⟩ ⟨rfl, rfl⟩ 0 (ci := 12) (qc := (RX12, TX12, 30)) rfl rfl rfl rfl (Nat.le_of_ble_eq_true rfl) ⟨Nat.zero_le _, Nat.zero_le _⟩ dX12_force_30) (fun r2 p3 hw => ?_)
  exact v_ireti (pc := 33) C p3 hA rfl hw dX12_force_33
set_option maxHeartbeats 4000000 in
set_option maxRecDepth 100000 in
theorem ctX12_force (l : Launch) (E : VE) (a : Nat → Nat) (x1 : Int32) (x2 : Int32) (x3 : Int32) (p : St)  {Post : Int32 → St → Prop} (hw : wpX12_force x1 x2 x3 p Post) (sz : Nat) : Met l yX12_force (mW yX12_force cX12_force 4 (some .int)) rmX12_force (CPre E [.ref (a 0), .int x1, .int x2, .int x3] sz (fl [bModel E a p])) (CQi E Post (fun u => (fl [bModel E a u])) (fl [bModel E a p]) sz) 0 0 (va_A (fl [bModel E a p]) sz) := by
  refine v_met (by decide) (Nat.le_of_ble_eq_true rfl) ?_
  intro pr e s m below meth c A hsz hA C
  subst hsz
  refine v_iload_n (pc := 0) C 1 rfl rfl dX12_force_0 ?_
  refine v_iload_n (pc := 1) C 2 rfl rfl dX12_force_1 ?_
  refine v_goBi (pc := 2) C (bs := [bModel E a p]) (cs := []) (cs' := (fun (_ : Unit) => [])) (bs' := (fun (_ : Unit) => [bModel E a p])) (w' := (fun (_ : Unit) => (fl [bModel E a p]))) [] rfl rfl (fun _ => rfl) (fun _ => rfl) (fun _ => rfl) (v_runSB (pc := 2) C [.int x1, .int x2] [] (fun sz => ctX12_isPen l E x1 x2 hw sz) [] rfl rfl rfl mfX12_isPen msX12_isPen wmX12_101 rfl ⟨Nat.le_of_ble_eq_true rfl, Nat.le_of_ble_eq_true rfl⟩ ⟨rfl, rfl⟩ rfl (Nat.le_of_ble_eq_true rfl) ⟨Nat.zero_le _, Nat.zero_le _⟩ dX12_force_2) (fun r1 _ hw => ?_)
  refine v_if_eq (pc := 5) C 29 (by decide) dX12_force_5 (fun hc => ?_) (fun hc => ?_)
  · have hw := hw.1 hc
    refine v_sub (lv' := [(0, .ref (a 0))]) [0] rfl ?_
    exact vjX12_force_29 C hA a  p hw
  · have hw := hw.2 hc
    refine v_iload_n (pc := 8) C 3 rfl rfl dX12_force_8 ?_
    refine v_i2l (pc := 9) C dX12_force_9 ?_
    refine v_lconst (pc := 10) C 0 kl_0 dX12_force_10 ?_
    refine v_ldc2 (pc := 11) C 5 wlX12_60 dX12_force_11 ?_
    refine v_goBi (pc := 14) C (bs := [bModel E a p]) (cs := []) (cs' := (fun (_ : Unit) => [])) (bs' := (fun (_ : Unit) => [bModel E a p])) (w' := (fun (_ : Unit) => (fl [bModel E a p]))) [] rfl rfl (fun _ => rfl) (fun _ => rfl) (fun _ => rfl) (v_runSB (pc := 14) C [.long (x3.toInt64), .long 0, .long 5] [] (fun sz => ctX12_in l E (x3.toInt64) 0 5 hw sz) [] rfl rfl rfl mfX12_in msX12_in wmX12_56 rfl ⟨Nat.le_of_ble_eq_true rfl, Nat.le_of_ble_eq_true rfl⟩ ⟨rfl, rfl⟩ rfl (Nat.le_of_ble_eq_true rfl) ⟨Nat.zero_le _, Nat.zero_le _⟩ dX12_force_14) (fun r4 _ hw => ?_)
    refine v_if_eq (pc := 17) C 29 (by decide) dX12_force_17 (fun hc => ?_) (fun hc => ?_)
    · have hw := hw.1 hc
      refine v_sub (lv' := [(0, .ref (a 0))]) [0] rfl ?_
      exact vjX12_force_29 C hA a  p hw
    · have hw := hw.2 hc
      refine v_iload_n (pc := 20) C 1 rfl rfl dX12_force_20 ?_
      refine v_iload_n (pc := 21) C 2 rfl rfl dX12_force_21 ?_
      refine v_iload_n (pc := 22) C 3 rfl rfl dX12_force_22 ?_
      refine v_goBi (pc := 23) C (bs := [bModel E a p]) (cs := []) (cs' := (fun (_ : Unit) => [])) (bs' := (fun (_ : Unit) => [bModel E a p])) (w' := (fun (_ : Unit) => (fl [bModel E a p]))) [] rfl rfl (fun _ => rfl) (fun _ => rfl) (fun _ => rfl) (v_runSB (pc := 23) C [.int x1, .int x2, .int x3] [] (fun sz => ctX12_forceOf l E x1 x2 x3 hw sz) [] rfl rfl rfl mfX12_forceOf msX12_forceOf wmX12_89 rfl ⟨Nat.le_of_ble_eq_true rfl, Nat.le_of_ble_eq_true rfl⟩ ⟨rfl, rfl⟩ rfl (Nat.le_of_ble_eq_true rfl) ⟨Nat.zero_le _, Nat.zero_le _⟩ dX12_force_23) (fun r5 _ hw => ?_)
      refine v_goto (pc := 26) C 33 (by decide) dX12_force_26 ?_
      exact v_ireti (pc := 33) C p hA rfl hw dX12_force_33
set_option maxHeartbeats 4000000 in
set_option maxRecDepth 100000 in
theorem ctX12_forceIn (l : Launch) (E : VE) (a : Nat → Nat) (x1 : Int32) (x2 : Int32) (x3 : Int32) (p : St)  {Post : Int32 → Prop} (hw : wpX12_forceIn x1 x2 x3 p Post) (sz : Nat) : Met l yX12_forceIn (mW yX12_forceIn cX12_forceIn 6 (some .int)) rmX12_forceIn (CPre E [.ref (a 0), .int x1, .int x2, .int x3] sz (fl [bModel E a p])) (CQi E (fun (z : Int32) (_ : Unit) => Post z) (fun _ => (fl [bModel E a p])) (fl [bModel E a p]) sz) 0 0 (va_A (fl [bModel E a p]) sz) := by
  refine v_met (by decide) (Nat.le_of_ble_eq_true rfl) ?_
  intro pr e s m below meth c A hsz hA C
  subst hsz
  refine v_bipush (pc := 0) C 84 kb_84 dX12_forceIn_0 ?_
  refine v_iconst (pc := 2) C 4 ki_4 dX12_forceIn_2 ?_
  refine v_iload_n (pc := 3) C 1 rfl rfl dX12_forceIn_3 ?_
  refine v_imul (pc := 4) C dX12_forceIn_4 ?_
  refine v_iadd (pc := 5) C dX12_forceIn_5 ?_
  refine v_topi (fun x4_1 ex => ?_)
  have hw := hw x4_1 ex
  refine v_istore (pc := 6) C [(4, .int x4_1), (0, .ref (a 0)), (1, .int x1), (2, .int x2), (3, .int x3)] rfl (by decide) dX12_forceIn_6 ?_
  refine v_iload_n (pc := 8) C 3 rfl rfl dX12_forceIn_8 ?_
  refine v_aload_n (pc := 9) C 1 rfl rfl dX12_forceIn_9 ?_
  refine v_get (pc := 10) C cfX12 rfl 0 4 rfl (by decide) wfX12_17 rfl dX12_forceIn_10 ?_
  refine v_iload (pc := 13) C 0 rfl dX12_forceIn_13 ?_
  refine v_iconst (pc := 15) C 3 ki_3 dX12_forceIn_15 ?_
  refine v_iadd (pc := 16) C dX12_forceIn_16 ?_
  obtain ⟨hg, hw⟩ := hw
  refine v_iald (pc := 17) C 2 rfl hg rfl dX12_forceIn_17 ?_
  refine v_isub (pc := 18) C dX12_forceIn_18 ?_
  refine v_topi (fun x5_2 ex => ?_)
  have hw := hw x5_2 ex
  refine v_istore (pc := 19) C [(5, .int x5_2), (4, .int x4_1), (0, .ref (a 0)), (1, .int x1), (2, .int x2), (3, .int x3)] rfl (by decide) dX12_forceIn_19 ?_
  refine v_iload (pc := 21) C 0 rfl dX12_forceIn_21 ?_
  refine v_if_lt (pc := 23) C 66 (by decide) dX12_forceIn_23 (fun hc => ?_) (fun hc => ?_)
  · have hw := hw.1 hc
    refine v_iconst (pc := 66) C 0 ki_0 dX12_forceIn_66 ?_
    exact v_ireti (pc := 67) C () hA rfl hw dX12_forceIn_67
  · have hw := hw.2 hc
    refine v_aload_n (pc := 26) C 2 rfl rfl dX12_forceIn_26 ?_
    refine v_get (pc := 27) C cfX12 rfl 0 4 rfl (by decide) wfX12_17 rfl dX12_forceIn_27 ?_
    refine v_iload (pc := 30) C 1 rfl dX12_forceIn_30 ?_
    refine v_iconst (pc := 32) C 2 ki_2 dX12_forceIn_32 ?_
    refine v_iadd (pc := 33) C dX12_forceIn_33 ?_
    obtain ⟨hg, hw⟩ := hw
    refine v_iald (pc := 34) C 2 rfl hg rfl dX12_forceIn_34 ?_
    refine v_iload_n (pc := 35) C 5 rfl rfl dX12_forceIn_35 ?_
    refine v_goBi (pc := 36) C (bs := [bModel E a p]) (cs := []) (cs' := (fun (_ : Unit) => [])) (bs' := (fun (_ : Unit) => [bModel E a p])) (w' := (fun (_ : Unit) => (fl [bModel E a p]))) [] rfl rfl (fun _ => rfl) (fun _ => rfl) (fun _ => rfl) (v_runSB (pc := 36) C [.int ((p.A 4) (x4_1 + 2).toNatClampNeg), .int x3] [] (fun sz => ctX12_has l E ((p.A 4) (x4_1 + 2).toNatClampNeg) x3 hw sz) [] rfl rfl rfl mfX12_has msX12_has wmX12_93 rfl ⟨Nat.le_of_ble_eq_true rfl, Nat.le_of_ble_eq_true rfl⟩ ⟨rfl, rfl⟩ rfl (Nat.le_of_ble_eq_true rfl) ⟨Nat.zero_le _, Nat.zero_le _⟩ dX12_forceIn_36) (fun r3 _ hw => ?_)
    refine v_if_eq (pc := 39) C 66 (by decide) dX12_forceIn_39 (fun hc => ?_) (fun hc => ?_)
    · have hw := hw.1 hc
      refine v_iconst (pc := 66) C 0 ki_0 dX12_forceIn_66 ?_
      exact v_ireti (pc := 67) C () hA rfl hw dX12_forceIn_67
    · have hw := hw.2 hc
      refine v_aload_n (pc := 42) C 2 rfl rfl dX12_forceIn_42 ?_
      refine v_get (pc := 43) C cfX12 rfl 0 4 rfl (by decide) wfX12_17 rfl dX12_forceIn_43 ?_
      refine v_iload (pc := 46) C 1 rfl dX12_forceIn_46 ?_
      obtain ⟨hg, hw⟩ := hw
      refine v_iald (pc := 48) C 2 rfl hg rfl dX12_forceIn_48 ?_
      refine v_aload_n (pc := 49) C 2 rfl rfl dX12_forceIn_49 ?_
      refine v_get (pc := 50) C cfX12 rfl 0 4 rfl (by decide) wfX12_17 rfl dX12_forceIn_50 ?_
      refine v_iload (pc := 53) C 1 rfl dX12_forceIn_53 ?_
      refine v_iconst (pc := 55) C 1 ki_1 dX12_forceIn_55 ?_
      refine v_iadd (pc := 56) C dX12_forceIn_56 ?_
      obtain ⟨hg, hw⟩ := hw
      refine v_iald (pc := 57) C 2 rfl hg rfl dX12_forceIn_57 ?_
      refine v_iload (pc := 58) C 0 rfl dX12_forceIn_58 ?_
      refine v_goBi (pc := 60) C (bs := [bModel E a p]) (cs := []) (cs' := (fun (_ : Unit) => [])) (bs' := (fun (_ : Unit) => [bModel E a p])) (w' := (fun (_ : Unit) => (fl [bModel E a p]))) [] rfl rfl (fun _ => rfl) (fun _ => rfl) (fun _ => rfl) (v_runSB (pc := 60) C [.int ((p.A 4) x4_1.toNatClampNeg), .int ((p.A 4) (x4_1 + 1).toNatClampNeg), .int x5_2] [] (fun sz => ctX12_forceOf l E ((p.A 4) x4_1.toNatClampNeg) ((p.A 4) (x4_1 + 1).toNatClampNeg) x5_2 hw sz) [] rfl rfl rfl mfX12_forceOf msX12_forceOf wmX12_89 rfl ⟨Nat.le_of_ble_eq_true rfl, Nat.le_of_ble_eq_true rfl⟩ ⟨rfl, rfl⟩ rfl (Nat.le_of_ble_eq_true rfl) ⟨Nat.zero_le _, Nat.zero_le _⟩ dX12_forceIn_60) (fun r4 _ hw => ?_)
      refine v_goto (pc := 63) C 67 (by decide) dX12_forceIn_63 ?_
      exact v_ireti (pc := 67) C () hA rfl hw dX12_forceIn_67
end

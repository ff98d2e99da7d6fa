section
variable {pr : Program} {l : Launch} {e : Env} {s : State} {m : MethodId} {args : Array Value} {below : List Frame} {meth : Method} {c : Code} {E : VE} {A : Nat → Prop} {w0 : va_W}
theorem dX12_torn_0 : decode cX12_torn 0 = .ok (.aload_n 0, 1) := by decide +kernel
theorem dX12_torn_1 : decode cX12_torn 1 = .ok (.iload_n 1, 1) := by decide +kernel
theorem dX12_torn_2 : decode cX12_torn 2 = .ok (.invokevirtual 199, 3) := by decide +kernel
theorem dX12_torn_5 : decode cX12_torn 5 = .ok (.ifCond .ne 8, 3) := by decide +kernel
theorem dX12_torn_8 : decode cX12_torn 8 = .ok (.aload_n 0, 1) := by decide +kernel
theorem dX12_torn_9 : decode cX12_torn 9 = .ok (.invokevirtual 75, 3) := by decide +kernel
theorem dX12_torn_12 : decode cX12_torn 12 = .ok (.ireturn, 1) := by decide +kernel
theorem dX12_torn_13 : decode cX12_torn 13 = .ok (.aload_n 0, 1) := by decide +kernel
theorem dX12_torn_14 : decode cX12_torn 14 = .ok (.getfield 17, 3) := by decide +kernel
theorem dX12_torn_17 : decode cX12_torn 17 = .ok (.bipush 125, 2) := by decide +kernel
theorem dX12_torn_19 : decode cX12_torn 19 = .ok (.iaload, 1) := by decide +kernel
theorem dX12_torn_20 : decode cX12_torn 20 = .ok (.istore_n 2, 1) := by decide +kernel
theorem dX12_torn_21 : decode cX12_torn 21 = .ok (.iload_n 2, 1) := by decide +kernel
theorem dX12_torn_22 : decode cX12_torn 22 = .ok (.aload_n 0, 1) := by decide +kernel
theorem dX12_torn_23 : decode cX12_torn 23 = .ok (.getfield 7, 3) := by decide +kernel
theorem dX12_torn_26 : decode cX12_torn 26 = .ok (.if_icmp .ge 29, 3) := by decide +kernel
theorem dX12_torn_29 : decode cX12_torn 29 = .ok (.aload_n 0, 1) := by decide +kernel
theorem dX12_torn_30 : decode cX12_torn 30 = .ok (.iload_n 2, 1) := by decide +kernel
theorem dX12_torn_31 : decode cX12_torn 31 = .ok (.invokevirtual 187, 3) := by decide +kernel
theorem dX12_torn_34 : decode cX12_torn 34 = .ok (.iload_n 1, 1) := by decide +kernel
theorem dX12_torn_35 : decode cX12_torn 35 = .ok (.iand, 1) := by decide +kernel
theorem dX12_torn_36 : decode cX12_torn 36 = .ok (.ifCond .ne 13, 3) := by decide +kernel
theorem dX12_torn_39 : decode cX12_torn 39 = .ok (.iload_n 2, 1) := by decide +kernel
theorem dX12_torn_40 : decode cX12_torn 40 = .ok (.aload_n 0, 1) := by decide +kernel
theorem dX12_torn_41 : decode cX12_torn 41 = .ok (.getfield 17, 3) := by decide +kernel
theorem dX12_torn_44 : decode cX12_torn 44 = .ok (.bipush 125, 2) := by decide +kernel
theorem dX12_torn_46 : decode cX12_torn 46 = .ok (.iaload, 1) := by decide +kernel
theorem dX12_torn_47 : decode cX12_torn 47 = .ok (.isub, 1) := by decide +kernel
theorem dX12_torn_48 : decode cX12_torn 48 = .ok (.ireturn, 1) := by decide +kernel
theorem dX12_torn_49 : decode cX12_torn 49 = .ok (.iinc 2 1, 3) := by decide +kernel
theorem dX12_torn_52 : decode cX12_torn 52 = .ok (.goto (-31), 3) := by decide +kernel
theorem dX12_torn_55 : decode cX12_torn 55 = .ok (.iconst (-1), 1) := by decide +kernel
theorem dX12_torn_56 : decode cX12_torn 56 = .ok (.ireturn, 1) := by decide +kernel
theorem dX12_draw_0 : decode cX12_draw 0 = .ok (.aload_n 0, 1) := by decide +kernel
theorem dX12_draw_1 : decode cX12_draw 1 = .ok (.aload_n 0, 1) := by decide +kernel
theorem dX12_draw_2 : decode cX12_draw 2 = .ok (.getfield 236, 3) := by decide +kernel
theorem dX12_draw_5 : decode cX12_draw 5 = .ok (.ldc2_w 239, 3) := by decide +kernel
theorem dX12_draw_8 : decode cX12_draw 8 = .ok (.lmul, 1) := by decide +kernel
theorem dX12_draw_9 : decode cX12_draw 9 = .ok (.ldc2_w 241, 3) := by decide +kernel
theorem dX12_draw_12 : decode cX12_draw 12 = .ok (.ladd, 1) := by decide +kernel
theorem dX12_draw_13 : decode cX12_draw 13 = .ok (.ldc2_w 243, 3) := by decide +kernel
theorem dX12_draw_16 : decode cX12_draw 16 = .ok (.lrem, 1) := by decide +kernel
theorem dX12_draw_17 : decode cX12_draw 17 = .ok (.putfield 236, 3) := by decide +kernel
theorem dX12_draw_20 : decode cX12_draw 20 = .ok (.aload_n 0, 1) := by decide +kernel
theorem dX12_draw_21 : decode cX12_draw 21 = .ok (.getfield 236, 3) := by decide +kernel
theorem dX12_draw_24 : decode cX12_draw 24 = .ok (.ldc2_w 245, 3) := by decide +kernel
theorem dX12_draw_27 : decode cX12_draw 27 = .ok (.ldiv, 1) := by decide +kernel
theorem dX12_draw_28 : decode cX12_draw 28 = .ok (.iload_n 1, 1) := by decide +kernel
theorem dX12_draw_29 : decode cX12_draw 29 = .ok (.i2l, 1) := by decide +kernel
theorem dX12_draw_30 : decode cX12_draw 30 = .ok (.lrem, 1) := by decide +kernel
theorem dX12_draw_31 : decode cX12_draw 31 = .ok (.l2i, 1) := by decide +kernel
theorem dX12_draw_32 : decode cX12_draw 32 = .ok (.ireturn, 1) := by decide +kernel
theorem dX12_drawn_0 : decode cX12_drawn 0 = .ok (.iload_n 1, 1) := by decide +kernel
theorem dX12_drawn_1 : decode cX12_drawn 1 = .ok (.i2l, 1) := by decide +kernel
theorem dX12_drawn_2 : decode cX12_drawn 2 = .ok (.lconst 0, 1) := by decide +kernel
theorem dX12_drawn_3 : decode cX12_drawn 3 = .ok (.ldc2_w 247, 3) := by decide +kernel
theorem dX12_drawn_6 : decode cX12_drawn 6 = .ok (.invokestatic 56, 3) := by decide +kernel
theorem dX12_drawn_9 : decode cX12_drawn 9 = .ok (.ifCond .eq 15, 3) := by decide +kernel
theorem dX12_drawn_12 : decode cX12_drawn 12 = .ok (.iload_n 2, 1) := by decide +kernel
theorem dX12_drawn_13 : decode cX12_drawn 13 = .ok (.i2l, 1) := by decide +kernel
theorem dX12_drawn_14 : decode cX12_drawn 14 = .ok (.lconst 0, 1) := by decide +kernel
theorem dX12_drawn_15 : decode cX12_drawn 15 = .ok (.ldc2_w 249, 3) := by decide +kernel
theorem dX12_drawn_18 : decode cX12_drawn 18 = .ok (.invokestatic 56, 3) := by decide +kernel
theorem dX12_drawn_21 : decode cX12_drawn 21 = .ok (.ifCond .ne 8, 3) := by decide +kernel
theorem dX12_drawn_24 : decode cX12_drawn 24 = .ok (.aload_n 0, 1) := by decide +kernel
theorem dX12_drawn_25 : decode cX12_drawn 25 = .ok (.invokevirtual 75, 3) := by decide +kernel
theorem dX12_drawn_28 : decode cX12_drawn 28 = .ok (.ireturn, 1) := by decide +kernel
theorem dX12_drawn_29 : decode cX12_drawn 29 = .ok (.aload_n 0, 1) := by decide +kernel
theorem dX12_drawn_30 : decode cX12_drawn 30 = .ok (.getfield 17, 3) := by decide +kernel
theorem dX12_drawn_33 : decode cX12_drawn 33 = .ok (.bipush 125, 2) := by decide +kernel
theorem dX12_drawn_35 : decode cX12_drawn 35 = .ok (.iaload, 1) := by decide +kernel
theorem dX12_drawn_36 : decode cX12_drawn 36 = .ok (.aload_n 0, 1) := by decide +kernel
theorem dX12_drawn_37 : decode cX12_drawn 37 = .ok (.getfield 7, 3) := by decide +kernel
theorem dX12_drawn_40 : decode cX12_drawn 40 = .ok (.if_icmp .ne 5, 3) := by decide +kernel
theorem dX12_drawn_43 : decode cX12_drawn 43 = .ok (.iconst (-1), 1) := by decide +kernel
theorem dX12_drawn_44 : decode cX12_drawn 44 = .ok (.ireturn, 1) := by decide +kernel
theorem dX12_drawn_45 : decode cX12_drawn 45 = .ok (.iconst 0, 1) := by decide +kernel
theorem dX12_drawn_46 : decode cX12_drawn 46 = .ok (.istore_n 3, 1) := by decide +kernel
theorem dX12_drawn_47 : decode cX12_drawn 47 = .ok (.iload_n 3, 1) := by decide +kernel
theorem dX12_drawn_48 : decode cX12_drawn 48 = .ok (.bipush 126, 2) := by decide +kernel
theorem dX12_drawn_50 : decode cX12_drawn 50 = .ok (.if_icmp .ge 21, 3) := by decide +kernel
theorem dX12_drawn_53 : decode cX12_drawn 53 = .ok (.aload_n 0, 1) := by decide +kernel
theorem dX12_drawn_54 : decode cX12_drawn 54 = .ok (.getfield 42, 3) := by decide +kernel
theorem dX12_drawn_57 : decode cX12_drawn 57 = .ok (.iload_n 3, 1) := by decide +kernel
theorem dX12_drawn_58 : decode cX12_drawn 58 = .ok (.aload_n 0, 1) := by decide +kernel
theorem dX12_drawn_59 : decode cX12_drawn 59 = .ok (.getfield 17, 3) := by decide +kernel
theorem dX12_drawn_62 : decode cX12_drawn 62 = .ok (.iload_n 3, 1) := by decide +kernel
theorem dX12_drawn_63 : decode cX12_drawn 63 = .ok (.iaload, 1) := by decide +kernel
theorem dX12_drawn_64 : decode cX12_drawn 64 = .ok (.iastore, 1) := by decide +kernel
theorem dX12_drawn_65 : decode cX12_drawn 65 = .ok (.iinc 3 1, 3) := by decide +kernel
theorem dX12_drawn_68 : decode cX12_drawn 68 = .ok (.goto (-21), 3) := by decide +kernel
theorem dX12_drawn_71 : decode cX12_drawn 71 = .ok (.aload_n 0, 1) := by decide +kernel
theorem dX12_drawn_72 : decode cX12_drawn 72 = .ok (.iload_n 1, 1) := by decide +kernel
theorem dX12_drawn_73 : decode cX12_drawn 73 = .ok (.i2l, 1) := by decide +kernel
theorem dX12_drawn_74 : decode cX12_drawn 74 = .ok (.putfield 236, 3) := by decide +kernel
theorem dX12_drawn_77 : decode cX12_drawn 77 = .ok (.iconst 0, 1) := by decide +kernel
theorem dX12_drawn_78 : decode cX12_drawn 78 = .ok (.istore_n 3, 1) := by decide +kernel
theorem dX12_drawn_79 : decode cX12_drawn 79 = .ok (.iload_n 3, 1) := by decide +kernel
theorem dX12_drawn_80 : decode cX12_drawn 80 = .ok (.iload_n 2, 1) := by decide +kernel
theorem dX12_drawn_81 : decode cX12_drawn 81 = .ok (.if_icmp .ge 80, 3) := by decide +kernel
theorem dX12_drawn_84 : decode cX12_drawn 84 = .ok (.aload_n 0, 1) := by decide +kernel
theorem dX12_drawn_85 : decode cX12_drawn 85 = .ok (.bipush 6, 2) := by decide +kernel
theorem dX12_drawn_87 : decode cX12_drawn 87 = .ok (.invokevirtual 251, 3) := by decide +kernel
theorem dX12_drawn_90 : decode cX12_drawn 90 = .ok (.istore 4, 2) := by decide +kernel
theorem dX12_drawn_92 : decode cX12_drawn 92 = .ok (.aload_n 0, 1) := by decide +kernel
theorem dX12_drawn_93 : decode cX12_drawn 93 = .ok (.bipush 9, 2) := by decide +kernel
theorem dX12_drawn_95 : decode cX12_drawn 95 = .ok (.invokevirtual 251, 3) := by decide +kernel
theorem dX12_drawn_98 : decode cX12_drawn 98 = .ok (.iconst 1, 1) := by decide +kernel
theorem dX12_drawn_99 : decode cX12_drawn 99 = .ok (.iadd, 1) := by decide +kernel
theorem dX12_drawn_100 : decode cX12_drawn 100 = .ok (.istore 5, 2) := by decide +kernel
theorem dX12_drawn_102 : decode cX12_drawn 102 = .ok (.aload_n 0, 1) := by decide +kernel
theorem dX12_drawn_103 : decode cX12_drawn 103 = .ok (.iload 4, 2) := by decide +kernel
theorem dX12_drawn_105 : decode cX12_drawn 105 = .ok (.iload 5, 2) := by decide +kernel
theorem dX12_drawn_107 : decode cX12_drawn 107 = .ok (.aload_n 0, 1) := by decide +kernel
theorem dX12_drawn_108 : decode cX12_drawn 108 = .ok (.sipush 4096, 3) := by decide +kernel
theorem dX12_drawn_111 : decode cX12_drawn 111 = .ok (.invokevirtual 251, 3) := by decide +kernel
theorem dX12_drawn_114 : decode cX12_drawn 114 = .ok (.invokevirtual 97, 3) := by decide +kernel
theorem dX12_drawn_117 : decode cX12_drawn 117 = .ok (.aload_n 0, 1) := by decide +kernel
theorem dX12_drawn_118 : decode cX12_drawn 118 = .ok (.getfield 17, 3) := by decide +kernel
theorem dX12_drawn_121 : decode cX12_drawn 121 = .ok (.bipush 125, 2) := by decide +kernel
theorem dX12_drawn_123 : decode cX12_drawn 123 = .ok (.dup2, 1) := by decide +kernel
theorem dX12_drawn_124 : decode cX12_drawn 124 = .ok (.iaload, 1) := by decide +kernel
theorem dX12_drawn_125 : decode cX12_drawn 125 = .ok (.iload_n 3, 1) := by decide +kernel
theorem dX12_drawn_126 : decode cX12_drawn 126 = .ok (.iconst 3, 1) := by decide +kernel
theorem dX12_drawn_127 : decode cX12_drawn 127 = .ok (.irem, 1) := by decide +kernel
theorem dX12_drawn_128 : decode cX12_drawn 128 = .ok (.iconst 2, 1) := by decide +kernel
theorem dX12_drawn_129 : decode cX12_drawn 129 = .ok (.if_icmp .ne 23, 3) := by decide +kernel
theorem dX12_drawn_132 : decode cX12_drawn 132 = .ok (.aload_n 0, 1) := by decide +kernel
theorem dX12_drawn_133 : decode cX12_drawn 133 = .ok (.getfield 17, 3) := by decide +kernel
theorem dX12_drawn_136 : decode cX12_drawn 136 = .ok (.bipush 125, 2) := by decide +kernel
theorem dX12_drawn_138 : decode cX12_drawn 138 = .ok (.iaload, 1) := by decide +kernel
theorem dX12_drawn_139 : decode cX12_drawn 139 = .ok (.iconst 1, 1) := by decide +kernel
theorem dX12_drawn_140 : decode cX12_drawn 140 = .ok (.iadd, 1) := by decide +kernel
theorem dX12_drawn_141 : decode cX12_drawn 141 = .ok (.aload_n 0, 1) := by decide +kernel
theorem dX12_drawn_142 : decode cX12_drawn 142 = .ok (.getfield 7, 3) := by decide +kernel
theorem dX12_drawn_145 : decode cX12_drawn 145 = .ok (.if_icmp .ge 7, 3) := by decide +kernel
theorem dX12_drawn_148 : decode cX12_drawn 148 = .ok (.iconst 1, 1) := by decide +kernel
theorem dX12_drawn_149 : decode cX12_drawn 149 = .ok (.goto 4, 3) := by decide +kernel
theorem dX12_drawn_152 : decode cX12_drawn 152 = .ok (.iconst 0, 1) := by decide +kernel
theorem dX12_drawn_153 : decode cX12_drawn 153 = .ok (.iadd, 1) := by decide +kernel
theorem dX12_drawn_154 : decode cX12_drawn 154 = .ok (.iastore, 1) := by decide +kernel
theorem dX12_drawn_155 : decode cX12_drawn 155 = .ok (.iinc 3 1, 3) := by decide +kernel
theorem dX12_drawn_158 : decode cX12_drawn 158 = .ok (.goto (-79), 3) := by decide +kernel
theorem dX12_drawn_161 : decode cX12_drawn 161 = .ok (.iconst 0, 1) := by decide +kernel
theorem dX12_drawn_162 : decode cX12_drawn 162 = .ok (.istore_n 3, 1) := by decide +kernel
theorem dX12_drawn_163 : decode cX12_drawn 163 = .ok (.iconst 0, 1) := by decide +kernel
theorem dX12_drawn_164 : decode cX12_drawn 164 = .ok (.istore 4, 2) := by decide +kernel
theorem dX12_drawn_166 : decode cX12_drawn 166 = .ok (.iload 4, 2) := by decide +kernel
theorem dX12_drawn_168 : decode cX12_drawn 168 = .ok (.bipush 12, 2) := by decide +kernel
theorem dX12_drawn_170 : decode cX12_drawn 170 = .ok (.if_icmp .ge 24, 3) := by decide +kernel
theorem dX12_drawn_173 : decode cX12_drawn 173 = .ok (.iload_n 3, 1) := by decide +kernel
theorem dX12_drawn_174 : decode cX12_drawn 174 = .ok (.aload_n 0, 1) := by decide +kernel
theorem dX12_drawn_175 : decode cX12_drawn 175 = .ok (.aload_n 0, 1) := by decide +kernel
theorem dX12_drawn_176 : decode cX12_drawn 176 = .ok (.getfield 7, 3) := by decide +kernel
theorem dX12_drawn_179 : decode cX12_drawn 179 = .ok (.iconst 1, 1) := by decide +kernel
theorem dX12_drawn_180 : decode cX12_drawn 180 = .ok (.isub, 1) := by decide +kernel
theorem dX12_drawn_181 : decode cX12_drawn 181 = .ok (.iload 4, 2) := by decide +kernel
theorem dX12_drawn_183 : decode cX12_drawn 183 = .ok (.invokevirtual 181, 3) := by decide +kernel
theorem dX12_drawn_186 : decode cX12_drawn 186 = .ok (.iadd, 1) := by decide +kernel
theorem dX12_drawn_187 : decode cX12_drawn 187 = .ok (.istore_n 3, 1) := by decide +kernel
theorem dX12_drawn_188 : decode cX12_drawn 188 = .ok (.iinc 4 1, 3) := by decide +kernel
theorem dX12_drawn_191 : decode cX12_drawn 191 = .ok (.goto (-25), 3) := by decide +kernel
theorem dX12_drawn_194 : decode cX12_drawn 194 = .ok (.iconst 0, 1) := by decide +kernel
theorem dX12_drawn_195 : decode cX12_drawn 195 = .ok (.istore 4, 2) := by decide +kernel
theorem dX12_drawn_197 : decode cX12_drawn 197 = .ok (.iload 4, 2) := by decide +kernel
theorem dX12_drawn_199 : decode cX12_drawn 199 = .ok (.bipush 126, 2) := by decide +kernel
theorem dX12_drawn_201 : decode cX12_drawn 201 = .ok (.if_icmp .ge 23, 3) := by decide +kernel
theorem dX12_drawn_204 : decode cX12_drawn 204 = .ok (.aload_n 0, 1) := by decide +kernel
theorem dX12_drawn_205 : decode cX12_drawn 205 = .ok (.getfield 17, 3) := by decide +kernel
theorem dX12_drawn_208 : decode cX12_drawn 208 = .ok (.iload 4, 2) := by decide +kernel
theorem dX12_drawn_210 : decode cX12_drawn 210 = .ok (.aload_n 0, 1) := by decide +kernel
theorem dX12_drawn_211 : decode cX12_drawn 211 = .ok (.getfield 42, 3) := by decide +kernel
theorem dX12_drawn_214 : decode cX12_drawn 214 = .ok (.iload 4, 2) := by decide +kernel
theorem dX12_drawn_216 : decode cX12_drawn 216 = .ok (.iaload, 1) := by decide +kernel
theorem dX12_drawn_217 : decode cX12_drawn 217 = .ok (.iastore, 1) := by decide +kernel
theorem dX12_drawn_218 : decode cX12_drawn 218 = .ok (.iinc 4 1, 3) := by decide +kernel
theorem dX12_drawn_221 : decode cX12_drawn 221 = .ok (.goto (-24), 3) := by decide +kernel
theorem dX12_drawn_224 : decode cX12_drawn 224 = .ok (.iload_n 3, 1) := by decide +kernel
theorem dX12_drawn_225 : decode cX12_drawn 225 = .ok (.ireturn, 1) := by decide +kernel
theorem dX12_part_0 : decode cX12_part 0 = .ok (.iload_n 1, 1) := by decide +kernel
theorem dX12_part_1 : decode cX12_part 1 = .ok (.ifCond .ne 10, 3) := by decide +kernel
theorem dX12_part_4 : decode cX12_part 4 = .ok (.aload_n 0, 1) := by decide +kernel
theorem dX12_part_5 : decode cX12_part 5 = .ok (.getfield 227, 3) := by decide +kernel
theorem dX12_part_8 : decode cX12_part 8 = .ok (.goto 20, 3) := by decide +kernel
theorem dX12_part_11 : decode cX12_part 11 = .ok (.iload_n 1, 1) := by decide +kernel
theorem dX12_part_12 : decode cX12_part 12 = .ok (.iconst 1, 1) := by decide +kernel
theorem dX12_part_13 : decode cX12_part 13 = .ok (.if_icmp .ne 10, 3) := by decide +kernel
theorem dX12_part_16 : decode cX12_part 16 = .ok (.aload_n 0, 1) := by decide +kernel
theorem dX12_part_17 : decode cX12_part 17 = .ok (.getfield 23, 3) := by decide +kernel
theorem dX12_part_20 : decode cX12_part 20 = .ok (.goto 8, 3) := by decide +kernel
theorem dX12_part_23 : decode cX12_part 23 = .ok (.aload_n 0, 1) := by decide +kernel
theorem dX12_part_24 : decode cX12_part 24 = .ok (.invokevirtual 75, 3) := by decide +kernel
theorem dX12_part_27 : decode cX12_part 27 = .ok (.i2l, 1) := by decide +kernel
theorem dX12_part_28 : decode cX12_part 28 = .ok (.lreturn, 1) := by decide +kernel
theorem dX12_carry_0 : decode cX12_carry 0 = .ok (.iconst 0, 1) := by decide +kernel
theorem dX12_carry_1 : decode cX12_carry 1 = .ok (.istore 6, 2) := by decide +kernel
theorem dX12_carry_3 : decode cX12_carry 3 = .ok (.iload 6, 2) := by decide +kernel
theorem dX12_carry_5 : decode cX12_carry 5 = .ok (.iload 5, 2) := by decide +kernel
theorem dX12_carry_7 : decode cX12_carry 7 = .ok (.if_icmp .ge 22, 3) := by decide +kernel
theorem dX12_carry_10 : decode cX12_carry 10 = .ok (.aload_n 1, 1) := by decide +kernel
theorem dX12_carry_11 : decode cX12_carry 11 = .ok (.iload_n 2, 1) := by decide +kernel
theorem dX12_carry_12 : decode cX12_carry 12 = .ok (.iload 6, 2) := by decide +kernel
theorem dX12_carry_14 : decode cX12_carry 14 = .ok (.iadd, 1) := by decide +kernel
theorem dX12_carry_15 : decode cX12_carry 15 = .ok (.aload_n 3, 1) := by decide +kernel
theorem dX12_carry_16 : decode cX12_carry 16 = .ok (.iload 4, 2) := by decide +kernel
theorem dX12_carry_18 : decode cX12_carry 18 = .ok (.iload 6, 2) := by decide +kernel
theorem dX12_carry_20 : decode cX12_carry 20 = .ok (.iadd, 1) := by decide +kernel
theorem dX12_carry_21 : decode cX12_carry 21 = .ok (.iaload, 1) := by decide +kernel
theorem dX12_carry_22 : decode cX12_carry 22 = .ok (.iastore, 1) := by decide +kernel
theorem dX12_carry_23 : decode cX12_carry 23 = .ok (.iinc 6 1, 3) := by decide +kernel
theorem dX12_carry_26 : decode cX12_carry 26 = .ok (.goto (-23), 3) := by decide +kernel
theorem dX12_carry_29 : decode cX12_carry 29 = .ok (.return_, 1) := by decide +kernel
theorem dX12_image_0 : decode cX12_image 0 = .ok (.iload_n 1, 1) := by decide +kernel
theorem dX12_image_1 : decode cX12_image 1 = .ok (.i2l, 1) := by decide +kernel
theorem dX12_image_2 : decode cX12_image 2 = .ok (.lconst 0, 1) := by decide +kernel
theorem dX12_image_3 : decode cX12_image 3 = .ok (.lconst 1, 1) := by decide +kernel
theorem dX12_image_4 : decode cX12_image 4 = .ok (.invokestatic 56, 3) := by decide +kernel
theorem dX12_image_7 : decode cX12_image 7 = .ok (.ifCond .ne 8, 3) := by decide +kernel
theorem dX12_image_10 : decode cX12_image 10 = .ok (.aload_n 0, 1) := by decide +kernel
theorem dX12_image_11 : decode cX12_image 11 = .ok (.invokevirtual 75, 3) := by decide +kernel
theorem dX12_image_14 : decode cX12_image 14 = .ok (.ireturn, 1) := by decide +kernel
theorem dX12_image_15 : decode cX12_image 15 = .ok (.sipush 1154, 3) := by decide +kernel
theorem dX12_image_18 : decode cX12_image 18 = .ok (.iload_n 1, 1) := by decide +kernel
theorem dX12_image_19 : decode cX12_image 19 = .ok (.imul, 1) := by decide +kernel
theorem dX12_image_20 : decode cX12_image 20 = .ok (.istore_n 2, 1) := by decide +kernel
theorem dX12_image_21 : decode cX12_image 21 = .ok (.aload_n 0, 1) := by decide +kernel
theorem dX12_image_22 : decode cX12_image 22 = .ok (.aload_n 0, 1) := by decide +kernel
theorem dX12_image_23 : decode cX12_image 23 = .ok (.getfield 49, 3) := by decide +kernel
theorem dX12_image_26 : decode cX12_image 26 = .ok (.iload_n 2, 1) := by decide +kernel
theorem dX12_image_27 : decode cX12_image 27 = .ok (.aload_n 0, 1) := by decide +kernel
theorem dX12_image_28 : decode cX12_image 28 = .ok (.getfield 17, 3) := by decide +kernel
theorem dX12_image_31 : decode cX12_image 31 = .ok (.iconst 0, 1) := by decide +kernel
theorem dX12_image_32 : decode cX12_image 32 = .ok (.bipush 126, 2) := by decide +kernel
theorem dX12_image_34 : decode cX12_image 34 = .ok (.invokevirtual 254, 3) := by decide +kernel
theorem dX12_image_37 : decode cX12_image 37 = .ok (.aload_n 0, 1) := by decide +kernel
theorem dX12_image_38 : decode cX12_image 38 = .ok (.aload_n 0, 1) := by decide +kernel
theorem dX12_image_39 : decode cX12_image 39 = .ok (.getfield 49, 3) := by decide +kernel
theorem dX12_image_42 : decode cX12_image 42 = .ok (.iload_n 2, 1) := by decide +kernel
theorem dX12_image_43 : decode cX12_image 43 = .ok (.bipush 126, 2) := by decide +kernel
theorem dX12_image_45 : decode cX12_image 45 = .ok (.iadd, 1) := by decide +kernel
theorem dX12_image_46 : decode cX12_image 46 = .ok (.aload_n 0, 1) := by decide +kernel
theorem dX12_image_47 : decode cX12_image 47 = .ok (.getfield 20, 3) := by decide +kernel
theorem dX12_image_50 : decode cX12_image 50 = .ok (.iconst 0, 1) := by decide +kernel
theorem dX12_image_51 : decode cX12_image 51 = .ok (.sipush 1008, 3) := by decide +kernel
theorem dX12_image_54 : decode cX12_image 54 = .ok (.invokevirtual 254, 3) := by decide +kernel
theorem dX12_image_57 : decode cX12_image 57 = .ok (.aload_n 0, 1) := by decide +kernel
theorem dX12_image_58 : decode cX12_image 58 = .ok (.aload_n 0, 1) := by decide +kernel
theorem dX12_image_59 : decode cX12_image 59 = .ok (.getfield 49, 3) := by decide +kernel
theorem dX12_image_62 : decode cX12_image 62 = .ok (.iload_n 2, 1) := by decide +kernel
theorem dX12_image_63 : decode cX12_image 63 = .ok (.sipush 1134, 3) := by decide +kernel
theorem dX12_image_66 : decode cX12_image 66 = .ok (.iadd, 1) := by decide +kernel
theorem dX12_image_67 : decode cX12_image 67 = .ok (.aload_n 0, 1) := by decide +kernel
theorem dX12_image_68 : decode cX12_image 68 = .ok (.getfield 13, 3) := by decide +kernel
theorem dX12_image_71 : decode cX12_image 71 = .ok (.iconst 0, 1) := by decide +kernel
theorem dX12_image_72 : decode cX12_image 72 = .ok (.bipush 8, 2) := by decide +kernel
theorem dX12_image_74 : decode cX12_image 74 = .ok (.invokevirtual 254, 3) := by decide +kernel
theorem dX12_image_77 : decode cX12_image 77 = .ok (.aload_n 0, 1) := by decide +kernel
theorem dX12_image_78 : decode cX12_image 78 = .ok (.getfield 49, 3) := by decide +kernel
theorem dX12_image_81 : decode cX12_image 81 = .ok (.iload_n 2, 1) := by decide +kernel
theorem dX12_image_82 : decode cX12_image 82 = .ok (.sipush 1142, 3) := by decide +kernel
theorem dX12_image_85 : decode cX12_image 85 = .ok (.iadd, 1) := by decide +kernel
theorem dX12_image_86 : decode cX12_image 86 = .ok (.aload_n 0, 1) := by decide +kernel
theorem dX12_image_87 : decode cX12_image 87 = .ok (.getfield 7, 3) := by decide +kernel
theorem dX12_image_90 : decode cX12_image 90 = .ok (.iastore, 1) := by decide +kernel
theorem dX12_image_91 : decode cX12_image 91 = .ok (.aload_n 0, 1) := by decide +kernel
theorem dX12_image_92 : decode cX12_image 92 = .ok (.getfield 49, 3) := by decide +kernel
theorem dX12_image_95 : decode cX12_image 95 = .ok (.iload_n 2, 1) := by decide +kernel
theorem dX12_image_96 : decode cX12_image 96 = .ok (.sipush 1143, 3) := by decide +kernel
theorem dX12_image_99 : decode cX12_image 99 = .ok (.iadd, 1) := by decide +kernel
theorem dX12_image_100 : decode cX12_image 100 = .ok (.aload_n 0, 1) := by decide +kernel
theorem dX12_image_101 : decode cX12_image 101 = .ok (.getfield 67, 3) := by decide +kernel
theorem dX12_image_104 : decode cX12_image 104 = .ok (.iastore, 1) := by decide +kernel
theorem dX12_image_105 : decode cX12_image 105 = .ok (.aload_n 0, 1) := by decide +kernel
theorem dX12_image_106 : decode cX12_image 106 = .ok (.getfield 49, 3) := by decide +kernel
theorem dX12_image_109 : decode cX12_image 109 = .ok (.iload_n 2, 1) := by decide +kernel
theorem dX12_image_110 : decode cX12_image 110 = .ok (.sipush 1144, 3) := by decide +kernel
theorem dX12_image_113 : decode cX12_image 113 = .ok (.iadd, 1) := by decide +kernel
theorem dX12_image_114 : decode cX12_image 114 = .ok (.aload_n 0, 1) := by decide +kernel
theorem dX12_image_115 : decode cX12_image 115 = .ok (.getfield 79, 3) := by decide +kernel
theorem dX12_image_118 : decode cX12_image 118 = .ok (.iastore, 1) := by decide +kernel
theorem dX12_image_119 : decode cX12_image 119 = .ok (.aload_n 0, 1) := by decide +kernel
theorem dX12_image_120 : decode cX12_image 120 = .ok (.getfield 49, 3) := by decide +kernel
theorem dX12_image_123 : decode cX12_image 123 = .ok (.iload_n 2, 1) := by decide +kernel
theorem dX12_image_124 : decode cX12_image 124 = .ok (.sipush 1145, 3) := by decide +kernel
theorem dX12_image_127 : decode cX12_image 127 = .ok (.iadd, 1) := by decide +kernel
theorem dX12_image_128 : decode cX12_image 128 = .ok (.aload_n 0, 1) := by decide +kernel
theorem dX12_image_129 : decode cX12_image 129 = .ok (.getfield 70, 3) := by decide +kernel
theorem dX12_image_132 : decode cX12_image 132 = .ok (.iastore, 1) := by decide +kernel
theorem dX12_image_133 : decode cX12_image 133 = .ok (.aload_n 0, 1) := by decide +kernel
theorem dX12_image_134 : decode cX12_image 134 = .ok (.getfield 45, 3) := by decide +kernel
theorem dX12_image_137 : decode cX12_image 137 = .ok (.iload_n 1, 1) := by decide +kernel
theorem dX12_image_138 : decode cX12_image 138 = .ok (.iconst 1, 1) := by decide +kernel
theorem dX12_image_139 : decode cX12_image 139 = .ok (.bastore, 1) := by decide +kernel
theorem dX12_image_140 : decode cX12_image 140 = .ok (.iconst 1, 1) := by decide +kernel
theorem dX12_image_141 : decode cX12_image 141 = .ok (.ireturn, 1) := by decide +kernel
theorem dX12_from_0 : decode cX12_from 0 = .ok (.iload_n 1, 1) := by decide +kernel
theorem dX12_from_1 : decode cX12_from 1 = .ok (.i2l, 1) := by decide +kernel
theorem dX12_from_2 : decode cX12_from 2 = .ok (.lconst 0, 1) := by decide +kernel
theorem dX12_from_3 : decode cX12_from 3 = .ok (.lconst 1, 1) := by decide +kernel
theorem dX12_from_4 : decode cX12_from 4 = .ok (.invokestatic 56, 3) := by decide +kernel
theorem dX12_from_7 : decode cX12_from 7 = .ok (.ifCond .ne 8, 3) := by decide +kernel
theorem dX12_from_10 : decode cX12_from 10 = .ok (.aload_n 0, 1) := by decide +kernel
theorem dX12_from_11 : decode cX12_from 11 = .ok (.invokevirtual 75, 3) := by decide +kernel
theorem dX12_from_14 : decode cX12_from 14 = .ok (.ireturn, 1) := by decide +kernel
theorem dX12_from_15 : decode cX12_from 15 = .ok (.aload_n 0, 1) := by decide +kernel
theorem dX12_from_16 : decode cX12_from 16 = .ok (.getfield 45, 3) := by decide +kernel
theorem dX12_from_19 : decode cX12_from 19 = .ok (.iload_n 1, 1) := by decide +kernel
theorem dX12_from_20 : decode cX12_from 20 = .ok (.baload, 1) := by decide +kernel
theorem dX12_from_21 : decode cX12_from 21 = .ok (.ifCond .ne 11, 3) := by decide +kernel
theorem dX12_from_24 : decode cX12_from 24 = .ok (.aload_n 0, 1) := by decide +kernel
theorem dX12_from_25 : decode cX12_from 25 = .ok (.iconst 1, 1) := by decide +kernel
theorem dX12_from_26 : decode cX12_from 26 = .ok (.bipush (-3), 2) := by decide +kernel
theorem dX12_from_28 : decode cX12_from 28 = .ok (.invokevirtual 52, 3) := by decide +kernel
theorem dX12_from_31 : decode cX12_from 31 = .ok (.ireturn, 1) := by decide +kernel
theorem dX12_from_32 : decode cX12_from 32 = .ok (.sipush 1154, 3) := by decide +kernel
theorem dX12_from_35 : decode cX12_from 35 = .ok (.iload_n 1, 1) := by decide +kernel
theorem dX12_from_36 : decode cX12_from 36 = .ok (.imul, 1) := by decide +kernel
theorem dX12_from_37 : decode cX12_from 37 = .ok (.istore_n 2, 1) := by decide +kernel
theorem dX12_from_38 : decode cX12_from 38 = .ok (.aload_n 0, 1) := by decide +kernel
theorem dX12_from_39 : decode cX12_from 39 = .ok (.aload_n 0, 1) := by decide +kernel
theorem dX12_from_40 : decode cX12_from 40 = .ok (.getfield 17, 3) := by decide +kernel
theorem dX12_from_43 : decode cX12_from 43 = .ok (.iconst 0, 1) := by decide +kernel
theorem dX12_from_44 : decode cX12_from 44 = .ok (.aload_n 0, 1) := by decide +kernel
theorem dX12_from_45 : decode cX12_from 45 = .ok (.getfield 49, 3) := by decide +kernel
theorem dX12_from_48 : decode cX12_from 48 = .ok (.iload_n 2, 1) := by decide +kernel
theorem dX12_from_49 : decode cX12_from 49 = .ok (.bipush 126, 2) := by decide +kernel
theorem dX12_from_51 : decode cX12_from 51 = .ok (.invokevirtual 254, 3) := by decide +kernel
theorem dX12_from_54 : decode cX12_from 54 = .ok (.aload_n 0, 1) := by decide +kernel
theorem dX12_from_55 : decode cX12_from 55 = .ok (.aload_n 0, 1) := by decide +kernel
theorem dX12_from_56 : decode cX12_from 56 = .ok (.getfield 20, 3) := by decide +kernel
theorem dX12_from_59 : decode cX12_from 59 = .ok (.iconst 0, 1) := by decide +kernel
theorem dX12_from_60 : decode cX12_from 60 = .ok (.aload_n 0, 1) := by decide +kernel
theorem dX12_from_61 : decode cX12_from 61 = .ok (.getfield 49, 3) := by decide +kernel
theorem dX12_from_64 : decode cX12_from 64 = .ok (.iload_n 2, 1) := by decide +kernel
theorem dX12_from_65 : decode cX12_from 65 = .ok (.bipush 126, 2) := by decide +kernel
theorem dX12_from_67 : decode cX12_from 67 = .ok (.iadd, 1) := by decide +kernel
theorem dX12_from_68 : decode cX12_from 68 = .ok (.sipush 1008, 3) := by decide +kernel
theorem dX12_from_71 : decode cX12_from 71 = .ok (.invokevirtual 254, 3) := by decide +kernel
theorem dX12_from_74 : decode cX12_from 74 = .ok (.aload_n 0, 1) := by decide +kernel
theorem dX12_from_75 : decode cX12_from 75 = .ok (.aload_n 0, 1) := by decide +kernel
theorem dX12_from_76 : decode cX12_from 76 = .ok (.getfield 13, 3) := by decide +kernel
theorem dX12_from_79 : decode cX12_from 79 = .ok (.iconst 0, 1) := by decide +kernel
theorem dX12_from_80 : decode cX12_from 80 = .ok (.aload_n 0, 1) := by decide +kernel
theorem dX12_from_81 : decode cX12_from 81 = .ok (.getfield 49, 3) := by decide +kernel
theorem dX12_from_84 : decode cX12_from 84 = .ok (.iload_n 2, 1) := by decide +kernel
theorem dX12_from_85 : decode cX12_from 85 = .ok (.sipush 1134, 3) := by decide +kernel
theorem dX12_from_88 : decode cX12_from 88 = .ok (.iadd, 1) := by decide +kernel
theorem dX12_from_89 : decode cX12_from 89 = .ok (.bipush 8, 2) := by decide +kernel
theorem dX12_from_91 : decode cX12_from 91 = .ok (.invokevirtual 254, 3) := by decide +kernel
theorem dX12_from_94 : decode cX12_from 94 = .ok (.aload_n 0, 1) := by decide +kernel
theorem dX12_from_95 : decode cX12_from 95 = .ok (.aload_n 0, 1) := by decide +kernel
theorem dX12_from_96 : decode cX12_from 96 = .ok (.getfield 49, 3) := by decide +kernel
theorem dX12_from_99 : decode cX12_from 99 = .ok (.iload_n 2, 1) := by decide +kernel
theorem dX12_from_100 : decode cX12_from 100 = .ok (.sipush 1142, 3) := by decide +kernel
theorem dX12_from_103 : decode cX12_from 103 = .ok (.iadd, 1) := by decide +kernel
theorem dX12_from_104 : decode cX12_from 104 = .ok (.iaload, 1) := by decide +kernel
theorem dX12_from_105 : decode cX12_from 105 = .ok (.putfield 7, 3) := by decide +kernel
theorem dX12_from_108 : decode cX12_from 108 = .ok (.aload_n 0, 1) := by decide +kernel
theorem dX12_from_109 : decode cX12_from 109 = .ok (.aload_n 0, 1) := by decide +kernel
theorem dX12_from_110 : decode cX12_from 110 = .ok (.getfield 49, 3) := by decide +kernel
theorem dX12_from_113 : decode cX12_from 113 = .ok (.iload_n 2, 1) := by decide +kernel
theorem dX12_from_114 : decode cX12_from 114 = .ok (.sipush 1143, 3) := by decide +kernel
theorem dX12_from_117 : decode cX12_from 117 = .ok (.iadd, 1) := by decide +kernel
theorem dX12_from_118 : decode cX12_from 118 = .ok (.iaload, 1) := by decide +kernel
theorem dX12_from_119 : decode cX12_from 119 = .ok (.putfield 67, 3) := by decide +kernel
theorem dX12_from_122 : decode cX12_from 122 = .ok (.aload_n 0, 1) := by decide +kernel
theorem dX12_from_123 : decode cX12_from 123 = .ok (.aload_n 0, 1) := by decide +kernel
theorem dX12_from_124 : decode cX12_from 124 = .ok (.getfield 49, 3) := by decide +kernel
theorem dX12_from_127 : decode cX12_from 127 = .ok (.iload_n 2, 1) := by decide +kernel
theorem dX12_from_128 : decode cX12_from 128 = .ok (.sipush 1144, 3) := by decide +kernel
theorem dX12_from_131 : decode cX12_from 131 = .ok (.iadd, 1) := by decide +kernel
theorem dX12_from_132 : decode cX12_from 132 = .ok (.iaload, 1) := by decide +kernel
theorem dX12_from_133 : decode cX12_from 133 = .ok (.putfield 79, 3) := by decide +kernel
theorem dX12_from_136 : decode cX12_from 136 = .ok (.aload_n 0, 1) := by decide +kernel
theorem dX12_from_137 : decode cX12_from 137 = .ok (.aload_n 0, 1) := by decide +kernel
theorem dX12_from_138 : decode cX12_from 138 = .ok (.getfield 49, 3) := by decide +kernel
theorem dX12_from_141 : decode cX12_from 141 = .ok (.iload_n 2, 1) := by decide +kernel
theorem dX12_from_142 : decode cX12_from 142 = .ok (.sipush 1145, 3) := by decide +kernel
theorem dX12_from_145 : decode cX12_from 145 = .ok (.iadd, 1) := by decide +kernel
theorem dX12_from_146 : decode cX12_from 146 = .ok (.iaload, 1) := by decide +kernel
theorem dX12_from_147 : decode cX12_from 147 = .ok (.putfield 70, 3) := by decide +kernel
theorem dX12_from_150 : decode cX12_from 150 = .ok (.iconst 1, 1) := by decide +kernel
theorem dX12_from_151 : decode cX12_from 151 = .ok (.ireturn, 1) := by decide +kernel
theorem dX12_status_0 : decode cX12_status 0 = .ok (.iload_n 1, 1) := by decide +kernel
theorem dX12_status_1 : decode cX12_status 1 = .ok (.i2l, 1) := by decide +kernel
theorem dX12_status_2 : decode cX12_status 2 = .ok (.lconst 0, 1) := by decide +kernel
theorem dX12_status_3 : decode cX12_status 3 = .ok (.ldc2_w 258, 3) := by decide +kernel
theorem dX12_status_6 : decode cX12_status 6 = .ok (.invokestatic 56, 3) := by decide +kernel
theorem dX12_status_9 : decode cX12_status 9 = .ok (.ifCond .eq 12, 3) := by decide +kernel
theorem dX12_status_12 : decode cX12_status 12 = .ok (.aload_n 0, 1) := by decide +kernel
theorem dX12_status_13 : decode cX12_status 13 = .ok (.getfield 27, 3) := by decide +kernel
theorem dX12_status_16 : decode cX12_status 16 = .ok (.iload_n 1, 1) := by decide +kernel
theorem dX12_status_17 : decode cX12_status 17 = .ok (.iaload, 1) := by decide +kernel
theorem dX12_status_18 : decode cX12_status 18 = .ok (.goto 9, 3) := by decide +kernel
theorem dX12_status_21 : decode cX12_status 21 = .ok (.aload_n 0, 1) := by decide +kernel
theorem dX12_status_22 : decode cX12_status 22 = .ok (.iconst 0, 1) := by decide +kernel
theorem dX12_status_23 : decode cX12_status 23 = .ok (.iconst (-1), 1) := by decide +kernel
theorem dX12_status_24 : decode cX12_status 24 = .ok (.invokevirtual 52, 3) := by decide +kernel
theorem dX12_status_27 : decode cX12_status 27 = .ok (.ireturn, 1) := by decide +kernel
theorem dX12_countOf_0 : decode cX12_countOf 0 = .ok (.iload_n 1, 1) := by decide +kernel
theorem dX12_countOf_1 : decode cX12_countOf 1 = .ok (.ifCond .ne 10, 3) := by decide +kernel
theorem dX12_countOf_4 : decode cX12_countOf 4 = .ok (.aload_n 0, 1) := by decide +kernel
theorem dX12_countOf_5 : decode cX12_countOf 5 = .ok (.getfield 7, 3) := by decide +kernel
theorem dX12_countOf_8 : decode cX12_countOf 8 = .ok (.goto 73, 3) := by decide +kernel
theorem dX12_countOf_11 : decode cX12_countOf 11 = .ok (.iload_n 1, 1) := by decide +kernel
theorem dX12_countOf_12 : decode cX12_countOf 12 = .ok (.iconst 1, 1) := by decide +kernel
theorem dX12_countOf_13 : decode cX12_countOf 13 = .ok (.if_icmp .ne 13, 3) := by decide +kernel
theorem dX12_countOf_16 : decode cX12_countOf 16 = .ok (.aload_n 0, 1) := by decide +kernel
theorem dX12_countOf_17 : decode cX12_countOf 17 = .ok (.getfield 17, 3) := by decide +kernel
theorem dX12_countOf_20 : decode cX12_countOf 20 = .ok (.bipush 125, 2) := by decide +kernel
theorem dX12_countOf_22 : decode cX12_countOf 22 = .ok (.iaload, 1) := by decide +kernel
theorem dX12_countOf_23 : decode cX12_countOf 23 = .ok (.goto 58, 3) := by decide +kernel
theorem dX12_countOf_26 : decode cX12_countOf 26 = .ok (.iload_n 1, 1) := by decide +kernel
theorem dX12_countOf_27 : decode cX12_countOf 27 = .ok (.iconst 2, 1) := by decide +kernel
theorem dX12_countOf_28 : decode cX12_countOf 28 = .ok (.if_icmp .ne 13, 3) := by decide +kernel
theorem dX12_countOf_31 : decode cX12_countOf 31 = .ok (.aload_n 0, 1) := by decide +kernel
theorem dX12_countOf_32 : decode cX12_countOf 32 = .ok (.getfield 17, 3) := by decide +kernel
theorem dX12_countOf_35 : decode cX12_countOf 35 = .ok (.bipush 124, 2) := by decide +kernel
theorem dX12_countOf_37 : decode cX12_countOf 37 = .ok (.iaload, 1) := by decide +kernel
theorem dX12_countOf_38 : decode cX12_countOf 38 = .ok (.goto 43, 3) := by decide +kernel
theorem dX12_countOf_41 : decode cX12_countOf 41 = .ok (.iload_n 1, 1) := by decide +kernel
theorem dX12_countOf_42 : decode cX12_countOf 42 = .ok (.iconst 3, 1) := by decide +kernel
theorem dX12_countOf_43 : decode cX12_countOf 43 = .ok (.if_icmp .ne 10, 3) := by decide +kernel
theorem dX12_countOf_46 : decode cX12_countOf 46 = .ok (.aload_n 0, 1) := by decide +kernel
theorem dX12_countOf_47 : decode cX12_countOf 47 = .ok (.getfield 79, 3) := by decide +kernel
theorem dX12_countOf_50 : decode cX12_countOf 50 = .ok (.goto 31, 3) := by decide +kernel
theorem dX12_countOf_53 : decode cX12_countOf 53 = .ok (.iload_n 1, 1) := by decide +kernel
theorem dX12_countOf_54 : decode cX12_countOf 54 = .ok (.iconst 4, 1) := by decide +kernel
theorem dX12_countOf_55 : decode cX12_countOf 55 = .ok (.if_icmp .ne 10, 3) := by decide +kernel
theorem dX12_countOf_58 : decode cX12_countOf 58 = .ok (.aload_n 0, 1) := by decide +kernel
theorem dX12_countOf_59 : decode cX12_countOf 59 = .ok (.getfield 67, 3) := by decide +kernel
theorem dX12_countOf_62 : decode cX12_countOf 62 = .ok (.goto 19, 3) := by decide +kernel
theorem dX12_countOf_65 : decode cX12_countOf 65 = .ok (.iload_n 1, 1) := by decide +kernel
theorem dX12_countOf_66 : decode cX12_countOf 66 = .ok (.iconst 5, 1) := by decide +kernel
theorem dX12_countOf_67 : decode cX12_countOf 67 = .ok (.if_icmp .ne 10, 3) := by decide +kernel
theorem dX12_countOf_70 : decode cX12_countOf 70 = .ok (.aload_n 0, 1) := by decide +kernel
theorem dX12_countOf_71 : decode cX12_countOf 71 = .ok (.getfield 70, 3) := by decide +kernel
theorem dX12_countOf_74 : decode cX12_countOf 74 = .ok (.goto 7, 3) := by decide +kernel
theorem dX12_countOf_77 : decode cX12_countOf 77 = .ok (.aload_n 0, 1) := by decide +kernel
theorem dX12_countOf_78 : decode cX12_countOf 78 = .ok (.getfield 114, 3) := by decide +kernel
theorem dX12_countOf_81 : decode cX12_countOf 81 = .ok (.ireturn, 1) := by decide +kernel
theorem dX12_count_0 : decode cX12_count 0 = .ok (.iload_n 1, 1) := by decide +kernel
theorem dX12_count_1 : decode cX12_count 1 = .ok (.i2l, 1) := by decide +kernel
theorem dX12_count_2 : decode cX12_count 2 = .ok (.lconst 0, 1) := by decide +kernel
theorem dX12_count_3 : decode cX12_count 3 = .ok (.ldc2_w 73, 3) := by decide +kernel
theorem dX12_count_6 : decode cX12_count 6 = .ok (.invokestatic 56, 3) := by decide +kernel
theorem dX12_count_9 : decode cX12_count 9 = .ok (.ifCond .eq 11, 3) := by decide +kernel
theorem dX12_count_12 : decode cX12_count 12 = .ok (.aload_n 0, 1) := by decide +kernel
theorem dX12_count_13 : decode cX12_count 13 = .ok (.iload_n 1, 1) := by decide +kernel
theorem dX12_count_14 : decode cX12_count 14 = .ok (.invokevirtual 260, 3) := by decide +kernel
theorem dX12_count_17 : decode cX12_count 17 = .ok (.goto 7, 3) := by decide +kernel
theorem dX12_count_20 : decode cX12_count 20 = .ok (.aload_n 0, 1) := by decide +kernel
theorem dX12_count_21 : decode cX12_count 21 = .ok (.invokevirtual 75, 3) := by decide +kernel
theorem dX12_count_24 : decode cX12_count 24 = .ok (.ireturn, 1) := by decide +kernel
set_option maxHeartbeats 4000000 in
set_option maxRecDepth 100000 in
theorem vlX12_torn_21 (C : VC pr s m args meth c E A cX12_torn 3 (some .int) RX12) (hA : va_A w0 s.heap.size = A) (a : Nat → Nat)  {Post : Int32 → St → Prop} {KX : St → Prop} (hX : ∀ (p : St), KX p → V pr l e rmX12_torn s m args below meth c E A 3 0 0 (MQ below (CQi E Post (fun u => (fl [bModel E a u])) w0 s.heap.size) args s 0 0 A) (fl [bModel E a p]) 55 [] []) : ∀ (n : Nat) (x1 : Int32) (x2 : Int32) (p : St), wLX12_torn_21  Post KX n (x1, x2, p) → V pr l e rmX12_torn s m args below meth c E A 3 0 0 (MQ below (CQi E Post (fun u => (fl [bModel E a u])) w0 s.heap.size) args s 0 0 A) (fl [bModel E a p]) 21 [(0, .ref (a 0)), (1, .int x1), (2, .int x2)] [] := by
  intro n
  induction n with
  | zero => intro x1 x2 p hw; exact absurd hw id
  | succ n hself =>
    intro x1 x2 p hw
    have hw : wlX12_torn_21  Post KX (wLX12_torn_21  Post KX n) x1 x2 p := hw
    refine v_iload_n (pc := 21) C 2 rfl rfl dX12_torn_21 ?_
    refine v_aload_n (pc := 22) C 0 rfl rfl dX12_torn_22 ?_
    refine v_get (pc := 23) C cfX12 rfl 0 0 rfl (by decide) wfX12_7 rfl dX12_torn_23 ?_
    refine v_icmp_ge (pc := 26) C 55 (by decide) dX12_torn_26 (fun hc => ?_) (fun hc => ?_)
    · have hw := hw.1 hc
      refine v_sub (lv' := []) [] rfl ?_
      exact hX p hw
    · have hw := hw.2 hc
      refine v_aload_n (pc := 29) C 0 rfl rfl dX12_torn_29 ?_
      refine v_iload_n (pc := 30) C 2 rfl rfl dX12_torn_30 ?_
      refine v_goAi (pc := 31) C (wc' := (fun (_ : Unit) => (fl [bModel E a p]))) (fun _ => rfl) (v_runVA (pc := 31) C [.int x2] [] (fun sz => ctX12_whoseOf l E a x2 p hw sz) mfX12_whoseOf mvX12_whoseOf wmX12_187 rfl ⟨Nat.le_of_ble_eq_true rfl, Nat.le_of_ble_eq_true rfl⟩ ⟨rfl, rfl⟩ 0 (ci := 12) (qc := (RX12, TX12, 30)) rfl rfl rfl rfl (Nat.le_of_ble_eq_true rfl) ⟨Nat.zero_le _, Nat.zero_le _⟩ dX12_torn_31) (fun r3 _ hw => ?_)
      refine v_iload_n (pc := 34) C 1 rfl rfl dX12_torn_34 ?_
      refine v_iand (pc := 35) C dX12_torn_35 ?_
      refine v_if_ne (pc := 36) C 49 (by decide) dX12_torn_36 (fun hc => ?_) (fun hc => ?_)
      · have hw := hw.1 hc
        obtain ⟨x2_4, ex⟩ : ∃ y : Int32, y = x2 + 1 := ⟨_, rfl⟩
        have hw := hw x2_4 ex
        refine v_iinc (pc := 49) C 2 rfl (by rw [ex, ki_1]) [(2, .int x2_4), (0, .ref (a 0)), (1, .int x1)] rfl (by decide) dX12_torn_49 ?_
        refine v_goto (pc := 52) C 21 (by decide) dX12_torn_52 ?_
        refine v_sub (lv' := [(0, .ref (a 0)), (1, .int x1), (2, .int x2_4)]) [1, 2, 0] rfl ?_
        exact hself x1 x2_4 p hw
      · have hw := hw.2 hc
        refine v_iload_n (pc := 39) C 2 rfl rfl dX12_torn_39 ?_
        refine v_aload_n (pc := 40) C 0 rfl rfl dX12_torn_40 ?_
        refine v_get (pc := 41) C cfX12 rfl 0 4 rfl (by decide) wfX12_17 rfl dX12_torn_41 ?_
        refine v_bipush (pc := 44) C 125 kb_125 dX12_torn_44 ?_
        refine v_iald (pc := 46) C 2 rfl vi_125_126 tn_125 dX12_torn_46 ?_
        refine v_isub (pc := 47) C dX12_torn_47 ?_
        exact v_ireti (pc := 48) C p hA rfl hw dX12_torn_48
set_option maxHeartbeats 4000000 in
set_option maxRecDepth 100000 in
theorem ctX12_torn (l : Launch) (E : VE) (a : Nat → Nat) (x1 : Int32) (p : St)  {Post : Int32 → St → Prop} (hw : wpX12_torn x1 p Post) (sz : Nat) : Met l yX12_torn (mW yX12_torn cX12_torn 3 (some .int)) rmX12_torn (CPre E [.ref (a 0), .int x1] sz (fl [bModel E a p])) (CQi E Post (fun u => (fl [bModel E a u])) (fl [bModel E a p]) sz) 0 0 (va_A (fl [bModel E a p]) sz) := by
  refine v_met (by decide) (Nat.le_of_ble_eq_true rfl) ?_
  intro pr e s m below meth c A hsz hA C
  subst hsz
  refine v_aload_n (pc := 0) C 0 rfl rfl dX12_torn_0 ?_
  refine v_iload_n (pc := 1) C 1 rfl rfl dX12_torn_1 ?_
  refine v_goAi (pc := 2) C (wc' := (fun (_ : Unit) => (fl [bModel E a p]))) (fun _ => rfl) (v_runVA (pc := 2) C [.int x1] [] (fun sz => ctX12_areNotes l E a x1 p hw sz) mfX12_areNotes mvX12_areNotes wmX12_199 rfl ⟨Nat.le_of_ble_eq_true rfl, Nat.le_of_ble_eq_true rfl⟩ ⟨rfl, rfl⟩ 0 (ci := 12) (qc := (RX12, TX12, 30)) rfl rfl rfl rfl (Nat.le_of_ble_eq_true rfl) ⟨Nat.zero_le _, Nat.zero_le _⟩ dX12_torn_2) (fun r1 _ hw => ?_)
  refine v_if_ne (pc := 5) C 13 (by decide) dX12_torn_5 (fun hc => ?_) (fun hc => ?_)
  · have hw := hw.1 hc
    refine v_aload_n (pc := 13) C 0 rfl rfl dX12_torn_13 ?_
    refine v_get (pc := 14) C cfX12 rfl 0 4 rfl (by decide) wfX12_17 rfl dX12_torn_14 ?_
    refine v_bipush (pc := 17) C 125 kb_125 dX12_torn_17 ?_
    refine v_iald (pc := 19) C 2 rfl vi_125_126 tn_125 dX12_torn_19 ?_
    refine v_topi (fun x2_2 ex => ?_)
    have hw := hw x2_2 ex
    refine v_istore_n (pc := 20) C [(2, .int x2_2), (0, .ref (a 0)), (1, .int x1)] rfl rfl (by decide) dX12_torn_20 ?_
    obtain ⟨n, hw⟩ := hw
    refine v_sub (lv' := [(0, .ref (a 0)), (1, .int x1), (2, .int x2_2)]) [1, 2, 0] rfl ?_
    refine vlX12_torn_21 C hA a  (fun p5 hw => ?_) n x1 x2_2 p hw
    refine v_iconst (pc := 55) C (-1) ki_m1 dX12_torn_55 ?_
    exact v_ireti (pc := 56) C p5 hA rfl hw dX12_torn_56
  · have hw := hw.2 hc
    refine v_aload_n (pc := 8) C 0 rfl rfl dX12_torn_8 ?_
    refine v_goAi (pc := 9) C (wc' := (fun (u : St) => (fl [bModel E a u]))) (fun _ => rfl) (v_runVA (pc := 9) C [] [] (fun sz => ctX12_bad l E a p hw sz) mfX12_bad mvX12_bad wmX12_75 rfl ⟨Nat.le_of_ble_eq_true rfl, Nat.le_of_ble_eq_true rfl⟩ ⟨rfl, rfl⟩ 0 (ci := 12) (qc := (RX12, TX12, 30)) rfl rfl rfl rfl (Nat.le_of_ble_eq_true rfl) ⟨Nat.zero_le _, Nat.zero_le _⟩ dX12_torn_9) (fun r6 p7 hw => ?_)
    exact v_ireti (pc := 12) C p7 hA rfl hw dX12_torn_12
set_option maxHeartbeats 4000000 in
set_option maxRecDepth 100000 in
theorem ctX12_draw (l : Launch) (E : VE) (a : Nat → Nat) (x1 : Int32) (p : St)  {Post : Int32 → St → Prop} (hw : wpX12_draw x1 p Post) (sz : Nat) : Met l yX12_draw (mW yX12_draw cX12_draw 2 (some .int)) rmX12_draw (CPre E [.ref (a 0), .int x1] sz (fl [bModel E a p])) (CQi E Post (fun u => (fl [bModel E a u])) (fl [bModel E a p]) sz) 0 0 (va_A (fl [bModel E a p]) sz) := by
  refine v_met (by decide) (Nat.le_of_ble_eq_true rfl) ?_
  intro pr e s m below meth c A hsz hA C
  subst hsz
  refine v_aload_n (pc := 0) C 0 rfl rfl dX12_draw_0 ?_
  refine v_aload_n (pc := 1) C 0 rfl rfl dX12_draw_1 ?_
  refine v_get (pc := 2) C cfX12 rfl 0 26 rfl (by decide) wfX12_236 rfl dX12_draw_2 ?_
  refine v_ldc2 (pc := 5) C 1103515245 wlX12_239 dX12_draw_5 ?_
  refine v_lmul (pc := 8) C dX12_draw_8 ?_
  refine v_ldc2 (pc := 9) C 12345 wlX12_241 dX12_draw_9 ?_
  refine v_ladd (pc := 12) C dX12_draw_12 ?_
  refine v_ldc2 (pc := 13) C 2147483648 wlX12_243 dX12_draw_13 ?_
  refine v_lrem (pc := 16) C (by decide) dX12_draw_16 ?_
  obtain ⟨p1, es⟩ : ∃ y : St, y = p.sL 26 ((((p.L 26) * 1103515245) + 12345) - (((p.L 26) * 1103515245) + 12345) / 2147483648 * 2147483648) := ⟨_, rfl⟩
  have hw := hw p1 es
  refine v_put (pc := 17) C cfX12 rfl 0 26 (ty := .long) (w' := (fl [bModel E a p1])) rfl (by subst es; rfl) (by decide) wfX12_236 rfl rfl rfl rfl (Nat.le_of_ble_eq_true rfl) dX12_draw_17 ?_
  refine v_aload_n (pc := 20) C 0 rfl rfl dX12_draw_20 ?_
  refine v_get (pc := 21) C cfX12 rfl 0 26 rfl (by decide) wfX12_236 rfl dX12_draw_21 ?_
  refine v_ldc2 (pc := 24) C 65536 wlX12_245 dX12_draw_24 ?_
  refine v_ldiv (pc := 27) C (by decide) dX12_draw_27 ?_
  refine v_iload_n (pc := 28) C 1 rfl rfl dX12_draw_28 ?_
  refine v_i2l (pc := 29) C dX12_draw_29 ?_
  obtain ⟨hg, hw⟩ := hw
  refine v_lrem (pc := 30) C hg dX12_draw_30 ?_
  refine v_l2i (pc := 31) C dX12_draw_31 ?_
  exact v_ireti (pc := 32) C p1 hA rfl hw dX12_draw_32
set_option maxHeartbeats 4000000 in
set_option maxRecDepth 100000 in
theorem vjX12_drawn_24 (C : VC pr s m args meth c E A cX12_drawn 6 (some .int) RX12) (hA : va_A w0 s.heap.size = A) (a : Nat → Nat)  {Post : Int32 → St → Prop} (p : St) (hw : wjX12_drawn_24  Post p) : V pr l e rmX12_drawn s m args below meth c E A 6 0 0 (MQ below (CQi E Post (fun u => (fl [bModel E a u])) w0 s.heap.size) args s 0 0 A) (fl [bModel E a p]) 24 [(0, .ref (a 0))] [] := by
  refine v_aload_n (pc := 24) C 0 rfl rfl dX12_drawn_24 ?_
  refine v_goAi (pc := 25) C (wc' := (fun (u : St) => (fl [bModel E a u]))) (fun _ => rfl) (v_runVA (pc := 25) C [] [] (fun sz => ctX12_bad l E a p hw sz) mfX12_bad mvX12_bad wmX12_75 rfl ⟨Nat.le_of_ble_eq_true rfl, Nat.le_of_ble_eq_true rfl⟩ ⟨rfl, rfl⟩ 0 (ci := 12) (qc := (RX12, TX12, 30)) rfl rfl rfl rfl (Nat.le_of_ble_eq_true rfl) ⟨Nat.zero_le _, Nat.zero_le _⟩ dX12_drawn_25) (fun r2 p3 hw => ?_)
  exact v_ireti (pc := 28) C p3 hA rfl hw dX12_drawn_28
set_option maxHeartbeats 4000000 in
set_option maxRecDepth 100000 in
theorem vlX12_drawn_47 (C : VC pr s m args meth c E A cX12_drawn 6 (some .int) RX12) (hA : va_A w0 s.heap.size = A) (a : Nat → Nat)  {Post : Int32 → St → Prop} {KX : Int32 → Int32 → St → Prop} (hX : ∀ (x1 : Int32) (x2 : Int32) (p : St), KX x1 x2 p → V pr l e rmX12_drawn s m args below meth c E A 6 0 0 (MQ below (CQi E Post (fun u => (fl [bModel E a u])) w0 s.heap.size) args s 0 0 A) (fl [bModel E a p]) 71 [(0, .ref (a 0)), (1, .int x1), (2, .int x2)] []) : ∀ (n : Nat) (x1 : Int32) (x2 : Int32) (x3 : Int32) (p : St), wLX12_drawn_47  Post KX n (x1, x2, x3, p) → V pr l e rmX12_drawn s m args below meth c E A 6 0 0 (MQ below (CQi E Post (fun u => (fl [bModel E a u])) w0 s.heap.size) args s 0 0 A) (fl [bModel E a p]) 47 [(0, .ref (a 0)), (1, .int x1), (2, .int x2), (3, .int x3)] [] := by
  intro n
  induction n with
  | zero => intro x1 x2 x3 p hw; exact absurd hw id
  | succ n hself =>
    intro x1 x2 x3 p hw
    have hw : wlX12_drawn_47  Post KX (wLX12_drawn_47  Post KX n) x1 x2 x3 p := hw
    refine v_iload_n (pc := 47) C 3 rfl rfl dX12_drawn_47 ?_
    refine v_bipush (pc := 48) C 126 kb_126 dX12_drawn_48 ?_
    refine v_icmp_ge (pc := 50) C 71 (by decide) dX12_drawn_50 (fun hc => ?_) (fun hc => ?_)
    · have hw := hw.1 hc
      refine v_sub (lv' := [(0, .ref (a 0)), (1, .int x1), (2, .int x2)]) [0, 1, 2] rfl ?_
      exact hX x1 x2 p hw
    · have hw := hw.2 hc
      refine v_aload_n (pc := 53) C 0 rfl rfl dX12_drawn_53 ?_
      refine v_get (pc := 54) C cfX12 rfl 0 25 rfl (by decide) wfX12_42 rfl dX12_drawn_54 ?_
      refine v_iload_n (pc := 57) C 3 rfl rfl dX12_drawn_57 ?_
      refine v_aload_n (pc := 58) C 0 rfl rfl dX12_drawn_58 ?_
      refine v_get (pc := 59) C cfX12 rfl 0 4 rfl (by decide) wfX12_17 rfl dX12_drawn_59 ?_
      refine v_iload_n (pc := 62) C 3 rfl rfl dX12_drawn_62 ?_
      obtain ⟨hg, hw⟩ := hw
      refine v_iald (pc := 63) C 2 rfl hg rfl dX12_drawn_63 ?_
      obtain ⟨hg, hw⟩ := hw
      obtain ⟨p5, es⟩ : ∃ y : St, y = p.sA 25 (upd (p.A 25) x3.toNatClampNeg ((p.A 4) x3.toNatClampNeg)) := ⟨_, rfl⟩
      have hw := hw p5 es
      refine v_iast (pc := 64) C 9 (w' := (fl [bModel E a p5])) rfl rfl (by subst es; rfl) hg dX12_drawn_64 ?_
      obtain ⟨x3_6, ex⟩ : ∃ y : Int32, y = x3 + 1 := ⟨_, rfl⟩
      have hw := hw x3_6 ex
      refine v_iinc (pc := 65) C 3 rfl (by rw [ex, ki_1]) [(3, .int x3_6), (0, .ref (a 0)), (1, .int x1), (2, .int x2)] rfl (by decide) dX12_drawn_65 ?_
      refine v_goto (pc := 68) C 47 (by decide) dX12_drawn_68 ?_
      refine v_sub (lv' := [(0, .ref (a 0)), (1, .int x1), (2, .int x2), (3, .int x3_6)]) [1, 2, 3, 0] rfl ?_
      exact hself x1 x2 x3_6 p5 hw
set_option maxHeartbeats 4000000 in
set_option maxRecDepth 100000 in
theorem vjX12_drawn_153 (C : VC pr s m args meth c E A cX12_drawn 6 (some .int) RX12) (hA : va_A w0 s.heap.size = A) (a : Nat → Nat)  {Post : Int32 → St → Prop} {self : (Int32 × Int32 × St) → Prop} {KX : St → Prop} (x2 : Int32) (x3 : Int32) (z0 : Int32) (z1 : Int32) (z2 : Int32) (p : St) (hw : wjX12_drawn_153  Post self KX x2 x3 z0 z1 z2 p) (hself : ∀ (x2 : Int32) (x3 : Int32) (p : St), self (x2, x3, p) → V pr l e rmX12_drawn s m args below meth c E A 6 0 0 (MQ below (CQi E Post (fun u => (fl [bModel E a u])) w0 s.heap.size) args s 0 0 A) (fl [bModel E a p]) 79 [(0, .ref (a 0)), (2, .int x2), (3, .int x3)] []) (hX : ∀ (p : St), KX p → V pr l e rmX12_drawn s m args below meth c E A 6 0 0 (MQ below (CQi E Post (fun u => (fl [bModel E a u])) w0 s.heap.size) args s 0 0 A) (fl [bModel E a p]) 161 [(0, .ref (a 0))] []) : V pr l e rmX12_drawn s m args below meth c E A 6 0 0 (MQ below (CQi E Post (fun u => (fl [bModel E a u])) w0 s.heap.size) args s 0 0 A) (fl [bModel E a p]) 153 [(0, .ref (a 0)), (2, .int x2), (3, .int x3)] [.int z0, .int z1, .int z2, .ref (a 2)] := by
  refine v_iadd (pc := 153) C dX12_drawn_153 ?_
  obtain ⟨hg, hw⟩ := hw
  obtain ⟨p19, es⟩ : ∃ y : St, y = p.sA 4 (upd (p.A 4) z2.toNatClampNeg (z1 + z0)) := ⟨_, rfl⟩
  have hw := hw p19 es
  refine v_iast (pc := 154) C 2 (w' := (fl [bModel E a p19])) rfl rfl (by subst es; rfl) hg dX12_drawn_154 ?_
  obtain ⟨x3_20, ex⟩ : ∃ y : Int32, y = x3 + 1 := ⟨_, rfl⟩
  have hw := hw x3_20 ex
  refine v_iinc (pc := 155) C 2 rfl (by rw [ex, ki_1]) [(3, .int x3_20), (0, .ref (a 0)), (2, .int x2)] rfl (by decide) dX12_drawn_155 ?_
  refine v_goto (pc := 158) C 79 (by decide) dX12_drawn_158 ?_
  refine v_sub (lv' := [(0, .ref (a 0)), (2, .int x2), (3, .int x3_20)]) [1, 2, 0] rfl ?_
  exact hself x2 x3_20 p19 hw
set_option maxHeartbeats 4000000 in
set_option maxRecDepth 100000 in
theorem vlX12_drawn_79 (C : VC pr s m args meth c E A cX12_drawn 6 (some .int) RX12) (hA : va_A w0 s.heap.size = A) (a : Nat → Nat)  {Post : Int32 → St → Prop} {KX : St → Prop} (hX : ∀ (p : St), KX p → V pr l e rmX12_drawn s m args below meth c E A 6 0 0 (MQ below (CQi E Post (fun u => (fl [bModel E a u])) w0 s.heap.size) args s 0 0 A) (fl [bModel E a p]) 161 [(0, .ref (a 0))] []) : ∀ (n : Nat) (x2 : Int32) (x3 : Int32) (p : St), wLX12_drawn_79  Post KX n (x2, x3, p) → V pr l e rmX12_drawn s m args below meth c E A 6 0 0 (MQ below (CQi E Post (fun u => (fl [bModel E a u])) w0 s.heap.size) args s 0 0 A) (fl [bModel E a p]) 79 [(0, .ref (a 0)), (2, .int x2), (3, .int x3)] [] := by
  intro n
  induction n with
  | zero => intro x2 x3 p hw; exact absurd hw id
  | succ n hself =>
    intro x2 x3 p hw
    have hw : wlX12_drawn_79  Post KX (wLX12_drawn_79  Post KX n) x2 x3 p := hw
    refine v_iload_n (pc := 79) C 2 rfl rfl dX12_drawn_79 ?_
    refine v_iload_n (pc := 80) C 1 rfl rfl dX12_drawn_80 ?_
    refine v_icmp_ge (pc := 81) C 161 (by decide) dX12_drawn_81 (fun hc => ?_) (fun hc => ?_)
    · have hw := hw.1 hc
      refine v_sub (lv' := [(0, .ref (a 0))]) [0] rfl ?_
      exact hX p hw
    · have hw := hw.2 hc
      refine v_aload_n (pc := 84) C 0 rfl rfl dX12_drawn_84 ?_
      refine v_bipush (pc := 85) C 6 kb_6 dX12_drawn_85 ?_
      refine v_goAi (pc := 87) C (wc' := (fun (u : St) => (fl [bModel E a u]))) (fun _ => rfl) (v_runVA (pc := 87) C [.int 6] [] (fun sz => ctX12_draw l E a 6 p hw sz) mfX12_draw mvX12_draw wmX12_251 rfl ⟨Nat.le_of_ble_eq_true rfl, Nat.le_of_ble_eq_true rfl⟩ ⟨rfl, rfl⟩ 0 (ci := 12) (qc := (RX12, TX12, 30)) rfl rfl rfl rfl (Nat.le_of_ble_eq_true rfl) ⟨Nat.zero_le _, Nat.zero_le _⟩ dX12_drawn_87) (fun r11 p12 hw => ?_)
      refine v_istore (pc := 90) C [(4, .int r11), (0, .ref (a 0)), (2, .int x2), (3, .int x3)] rfl (by decide) dX12_drawn_90 ?_
      refine v_aload_n (pc := 92) C 1 rfl rfl dX12_drawn_92 ?_
      refine v_bipush (pc := 93) C 9 kb_9 dX12_drawn_93 ?_
      refine v_goAi (pc := 95) C (wc' := (fun (u : St) => (fl [bModel E a u]))) (fun _ => rfl) (v_runVA (pc := 95) C [.int 9] [] (fun sz => ctX12_draw l E a 9 p12 hw sz) mfX12_draw mvX12_draw wmX12_251 rfl ⟨Nat.le_of_ble_eq_true rfl, Nat.le_of_ble_eq_true rfl⟩ ⟨rfl, rfl⟩ 0 (ci := 12) (qc := (RX12, TX12, 30)) rfl rfl rfl rfl (Nat.le_of_ble_eq_true rfl) ⟨Nat.zero_le _, Nat.zero_le _⟩ dX12_drawn_95) (fun r13 p14 hw => ?_)
      refine v_iconst (pc := 98) C 1 ki_1 dX12_drawn_98 ?_
      refine v_iadd (pc := 99) C dX12_drawn_99 ?_
      refine v_topi (fun x5_15 ex => ?_)
      have hw := hw x5_15 ex
      refine v_istore (pc := 100) C [(5, .int x5_15), (4, .int r11), (0, .ref (a 0)), (2, .int x2), (3, .int x3)] rfl (by decide) dX12_drawn_100 ?_
      refine v_aload_n (pc := 102) C 2 rfl rfl dX12_drawn_102 ?_
      refine v_iload (pc := 103) C 1 rfl dX12_drawn_103 ?_
      refine v_iload (pc := 105) C 0 rfl dX12_drawn_105 ?_
      refine v_aload_n (pc := 107) C 2 rfl rfl dX12_drawn_107 ?_
      refine v_sipush (pc := 108) C 4096 ks_4096 dX12_drawn_108 ?_
      refine v_goAi (pc := 111) C (wc' := (fun (u : St) => (fl [bModel E a u]))) (fun _ => rfl) (v_runVA (pc := 111) C [.int 4096] [.int x5_15, .int r11, .ref (a 0)] (fun sz => ctX12_draw l E a 4096 p14 hw sz) mfX12_draw mvX12_draw wmX12_251 rfl ⟨Nat.le_of_ble_eq_true rfl, Nat.le_of_ble_eq_true rfl⟩ ⟨rfl, rfl⟩ 0 (ci := 12) (qc := (RX12, TX12, 30)) rfl rfl rfl rfl (Nat.le_of_ble_eq_true rfl) ⟨Nat.zero_le _, Nat.zero_le _⟩ dX12_drawn_111) (fun r16 p17 hw => ?_)
      refine v_goAv (pc := 114) C (wc' := (fun (u : St) => (fl [bModel E a u]))) (fun _ => rfl) (v_runVA (pc := 114) C [.int r11, .int x5_15, .int r16] [] (fun sz => ctX12_dentAll l E a r11 x5_15 r16 p17 hw sz) mfX12_dentAll mvX12_dentAll wmX12_97 rfl ⟨Nat.le_of_ble_eq_true rfl, Nat.le_of_ble_eq_true rfl⟩ ⟨rfl, rfl⟩ 0 (ci := 12) (qc := (RX12, TX12, 30)) rfl rfl rfl rfl (Nat.le_of_ble_eq_true rfl) ⟨Nat.zero_le _, Nat.zero_le _⟩ dX12_drawn_114) (fun p18 hw => ?_)
      refine v_aload_n (pc := 117) C 2 rfl rfl dX12_drawn_117 ?_
      refine v_get (pc := 118) C cfX12 rfl 0 4 rfl (by decide) wfX12_17 rfl dX12_drawn_118 ?_
      refine v_bipush (pc := 121) C 125 kb_125 dX12_drawn_121 ?_
      refine v_dup2 (pc := 123) C rfl rfl dX12_drawn_123 ?_
      refine v_iald (pc := 124) C 2 rfl vi_125_126 tn_125 dX12_drawn_124 ?_
      refine v_iload_n (pc := 125) C 4 rfl rfl dX12_drawn_125 ?_
      refine v_iconst (pc := 126) C 3 ki_3 dX12_drawn_126 ?_
      refine v_irem (pc := 127) C (by decide) dX12_drawn_127 ?_
      refine v_iconst (pc := 128) C 2 ki_2 dX12_drawn_128 ?_
      refine v_icmp_ne (pc := 129) C 152 (by decide) dX12_drawn_129 (fun hc => ?_) (fun hc => ?_)
      · have hw := hw.1 hc
        refine v_iconst (pc := 152) C 0 ki_0 dX12_drawn_152 ?_
        refine v_sub (lv' := [(0, .ref (a 0)), (2, .int x2), (3, .int x3)]) [2, 3, 4] rfl ?_
        exact vjX12_drawn_153 C hA a  x2 x3 0 ((p18.A 4) 125) 125 p18 hw hself hX
      · have hw := hw.2 hc
        refine v_aload_n (pc := 132) C 2 rfl rfl dX12_drawn_132 ?_
        refine v_get (pc := 133) C cfX12 rfl 0 4 rfl (by decide) wfX12_17 rfl dX12_drawn_133 ?_
        refine v_bipush (pc := 136) C 125 kb_125 dX12_drawn_136 ?_
        refine v_iald (pc := 138) C 2 rfl vi_125_126 tn_125 dX12_drawn_138 ?_
        refine v_iconst (pc := 139) C 1 ki_1 dX12_drawn_139 ?_
        refine v_iadd (pc := 140) C dX12_drawn_140 ?_
        refine v_aload_n (pc := 141) C 2 rfl rfl dX12_drawn_141 ?_
        refine v_get (pc := 142) C cfX12 rfl 0 0 rfl (by decide) wfX12_7 rfl dX12_drawn_142 ?_
        refine v_icmp_ge (pc := 145) C 152 (by decide) dX12_drawn_145 (fun hc => ?_) (fun hc => ?_)
        · have hw := hw.1 hc
          refine v_iconst (pc := 152) C 0 ki_0 dX12_drawn_152 ?_
          refine v_sub (lv' := [(0, .ref (a 0)), (2, .int x2), (3, .int x3)]) [2, 3, 4] rfl ?_
          exact vjX12_drawn_153 C hA a  x2 x3 0 ((p18.A 4) 125) 125 p18 hw hself hX
        · have hw := hw.2 hc
          refine v_iconst (pc := 148) C 1 ki_1 dX12_drawn_148 ?_
          refine v_goto (pc := 149) C 153 (by decide) dX12_drawn_149 ?_
          refine v_sub (lv' := [(0, .ref (a 0)), (2, .int x2), (3, .int x3)]) [2, 3, 4] rfl ?_
          exact vjX12_drawn_153 C hA a  x2 x3 1 ((p18.A 4) 125) 125 p18 hw hself hX
set_option maxHeartbeats 4000000 in
set_option maxRecDepth 100000 in
theorem vlX12_drawn_166 (C : VC pr s m args meth c E A cX12_drawn 6 (some .int) RX12) (hA : va_A w0 s.heap.size = A) (a : Nat → Nat)  {Post : Int32 → St → Prop} {KX : Int32 → St → Prop} (hX : ∀ (x3 : Int32) (p : St), KX x3 p → V pr l e rmX12_drawn s m args below meth c E A 6 0 0 (MQ below (CQi E Post (fun u => (fl [bModel E a u])) w0 s.heap.size) args s 0 0 A) (fl [bModel E a p]) 194 [(0, .ref (a 0)), (3, .int x3)] []) : ∀ (n : Nat) (x3 : Int32) (x4 : Int32) (p : St), wLX12_drawn_166  Post KX n (x3, x4, p) → V pr l e rmX12_drawn s m args below meth c E A 6 0 0 (MQ below (CQi E Post (fun u => (fl [bModel E a u])) w0 s.heap.size) args s 0 0 A) (fl [bModel E a p]) 166 [(0, .ref (a 0)), (3, .int x3), (4, .int x4)] [] := by
  intro n
  induction n with
  | zero => intro x3 x4 p hw; exact absurd hw id
  | succ n hself =>
    intro x3 x4 p hw
    have hw : wlX12_drawn_166  Post KX (wLX12_drawn_166  Post KX n) x3 x4 p := hw
    refine v_iload (pc := 166) C 2 rfl dX12_drawn_166 ?_
    refine v_bipush (pc := 168) C 12 kb_12 dX12_drawn_168 ?_
    refine v_icmp_ge (pc := 170) C 194 (by decide) dX12_drawn_170 (fun hc => ?_) (fun hc => ?_)
    · have hw := hw.1 hc
      refine v_sub (lv' := [(0, .ref (a 0)), (3, .int x3)]) [0, 1] rfl ?_
      exact hX x3 p hw
    · have hw := hw.2 hc
      refine v_iload_n (pc := 173) C 1 rfl rfl dX12_drawn_173 ?_
      refine v_aload_n (pc := 174) C 0 rfl rfl dX12_drawn_174 ?_
      refine v_aload_n (pc := 175) C 0 rfl rfl dX12_drawn_175 ?_
      refine v_get (pc := 176) C cfX12 rfl 0 0 rfl (by decide) wfX12_7 rfl dX12_drawn_176 ?_
      refine v_iconst (pc := 179) C 1 ki_1 dX12_drawn_179 ?_
      refine v_isub (pc := 180) C dX12_drawn_180 ?_
      refine v_iload (pc := 181) C 2 rfl dX12_drawn_181 ?_
      refine v_goAi (pc := 183) C (wc' := (fun (_ : Unit) => (fl [bModel E a p]))) (fun _ => rfl) (v_runVA (pc := 183) C [.int ((p.I 0) - 1), .int x4] [.int x3] (fun sz => ctX12_dentOf l E a ((p.I 0) - 1) x4 p hw sz) mfX12_dentOf mvX12_dentOf wmX12_181 rfl ⟨Nat.le_of_ble_eq_true rfl, Nat.le_of_ble_eq_true rfl⟩ ⟨rfl, rfl⟩ 0 (ci := 12) (qc := (RX12, TX12, 30)) rfl rfl rfl rfl (Nat.le_of_ble_eq_true rfl) ⟨Nat.zero_le _, Nat.zero_le _⟩ dX12_drawn_183) (fun r22 _ hw => ?_)
      refine v_iadd (pc := 186) C dX12_drawn_186 ?_
      refine v_topi (fun x3_23 ex => ?_)
      have hw := hw x3_23 ex
      refine v_istore_n (pc := 187) C [(3, .int x3_23), (0, .ref (a 0)), (4, .int x4)] rfl rfl (by decide) dX12_drawn_187 ?_
      obtain ⟨x4_24, ex⟩ : ∃ y : Int32, y = x4 + 1 := ⟨_, rfl⟩
      have hw := hw x4_24 ex
      refine v_iinc (pc := 188) C 2 rfl (by rw [ex, ki_1]) [(4, .int x4_24), (3, .int x3_23), (0, .ref (a 0))] rfl (by decide) dX12_drawn_188 ?_
      refine v_goto (pc := 191) C 166 (by decide) dX12_drawn_191 ?_
      refine v_sub (lv' := [(0, .ref (a 0)), (3, .int x3_23), (4, .int x4_24)]) [2, 1, 0] rfl ?_
      exact hself x3_23 x4_24 p hw
set_option maxHeartbeats 4000000 in
set_option maxRecDepth 100000 in
theorem vlX12_drawn_197 (C : VC pr s m args meth c E A cX12_drawn 6 (some .int) RX12) (hA : va_A w0 s.heap.size = A) (a : Nat → Nat)  {Post : Int32 → St → Prop} {KX : Int32 → St → Prop} (hX : ∀ (x3 : Int32) (p : St), KX x3 p → V pr l e rmX12_drawn s m args below meth c E A 6 0 0 (MQ below (CQi E Post (fun u => (fl [bModel E a u])) w0 s.heap.size) args s 0 0 A) (fl [bModel E a p]) 224 [(3, .int x3)] []) : ∀ (n : Nat) (x3 : Int32) (x4 : Int32) (p : St), wLX12_drawn_197  Post KX n (x3, x4, p) → V pr l e rmX12_drawn s m args below meth c E A 6 0 0 (MQ below (CQi E Post (fun u => (fl [bModel E a u])) w0 s.heap.size) args s 0 0 A) (fl [bModel E a p]) 197 [(0, .ref (a 0)), (3, .int x3), (4, .int x4)] [] := by
  intro n
  induction n with
  | zero => intro x3 x4 p hw; exact absurd hw id
  | succ n hself =>
    intro x3 x4 p hw
    have hw : wlX12_drawn_197  Post KX (wLX12_drawn_197  Post KX n) x3 x4 p := hw
    refine v_iload (pc := 197) C 2 rfl dX12_drawn_197 ?_
    refine v_bipush (pc := 199) C 126 kb_126 dX12_drawn_199 ?_
    refine v_icmp_ge (pc := 201) C 224 (by decide) dX12_drawn_201 (fun hc => ?_) (fun hc => ?_)
    · have hw := hw.1 hc
      refine v_sub (lv' := [(3, .int x3)]) [1] rfl ?_
      exact hX x3 p hw
    · have hw := hw.2 hc
      refine v_aload_n (pc := 204) C 0 rfl rfl dX12_drawn_204 ?_
      refine v_get (pc := 205) C cfX12 rfl 0 4 rfl (by decide) wfX12_17 rfl dX12_drawn_205 ?_
      refine v_iload (pc := 208) C 2 rfl dX12_drawn_208 ?_
      refine v_aload_n (pc := 210) C 0 rfl rfl dX12_drawn_210 ?_
      refine v_get (pc := 211) C cfX12 rfl 0 25 rfl (by decide) wfX12_42 rfl dX12_drawn_211 ?_
      refine v_iload (pc := 214) C 2 rfl dX12_drawn_214 ?_
      obtain ⟨hg, hw⟩ := hw
      refine v_iald (pc := 216) C 9 rfl hg rfl dX12_drawn_216 ?_
      obtain ⟨hg, hw⟩ := hw
      obtain ⟨p27, es⟩ : ∃ y : St, y = p.sA 4 (upd (p.A 4) x4.toNatClampNeg ((p.A 25) x4.toNatClampNeg)) := ⟨_, rfl⟩
      have hw := hw p27 es
      refine v_iast (pc := 217) C 2 (w' := (fl [bModel E a p27])) rfl rfl (by subst es; rfl) hg dX12_drawn_217 ?_
      obtain ⟨x4_28, ex⟩ : ∃ y : Int32, y = x4 + 1 := ⟨_, rfl⟩
      have hw := hw x4_28 ex
      refine v_iinc (pc := 218) C 2 rfl (by rw [ex, ki_1]) [(4, .int x4_28), (0, .ref (a 0)), (3, .int x3)] rfl (by decide) dX12_drawn_218 ?_
      refine v_goto (pc := 221) C 197 (by decide) dX12_drawn_221 ?_
      refine v_sub (lv' := [(0, .ref (a 0)), (3, .int x3), (4, .int x4_28)]) [1, 2, 0] rfl ?_
      exact hself x3 x4_28 p27 hw
set_option maxHeartbeats 4000000 in
set_option maxRecDepth 100000 in
theorem ctX12_drawn (l : Launch) (E : VE) (a : Nat → Nat) (x1 : Int32) (x2 : Int32) (p : St)  {Post : Int32 → St → Prop} (hw : wpX12_drawn x1 x2 p Post) (sz : Nat) : Met l yX12_drawn (mW yX12_drawn cX12_drawn 6 (some .int)) rmX12_drawn (CPre E [.ref (a 0), .int x1, .int x2] sz (fl [bModel E a p])) (CQi E Post (fun u => (fl [bModel E a u])) (fl [bModel E a p]) sz) 0 0 (va_A (fl [bModel E a p]) sz) := by
  refine v_met (by decide) (Nat.le_of_ble_eq_true rfl) ?_
  intro pr e s m below meth c A hsz hA C
  subst hsz
  refine v_iload_n (pc := 0) C 1 rfl rfl dX12_drawn_0 ?_
  refine v_i2l (pc := 1) C dX12_drawn_1 ?_
  refine v_lconst (pc := 2) C 0 kl_0 dX12_drawn_2 ?_
  refine v_ldc2 (pc := 3) C 999999 wlX12_247 dX12_drawn_3 ?_
  refine v_goBi (pc := 6) C (bs := [bModel E a p]) (cs := []) (cs' := (fun (_ : Unit) => [])) (bs' := (fun (_ : Unit) => [bModel E a p])) (w' := (fun (_ : Unit) => (fl [bModel E a p]))) [] rfl rfl (fun _ => rfl) (fun _ => rfl) (fun _ => rfl) (v_runSB (pc := 6) C [.long (x1.toInt64), .long 0, .long 999999] [] (fun sz => ctX12_in l E (x1.toInt64) 0 999999 hw sz) [] rfl rfl rfl mfX12_in msX12_in wmX12_56 rfl ⟨Nat.le_of_ble_eq_true rfl, Nat.le_of_ble_eq_true rfl⟩ ⟨rfl, rfl⟩ rfl (Nat.le_of_ble_eq_true rfl) ⟨Nat.zero_le _, Nat.zero_le _⟩ dX12_drawn_6) (fun r1 _ hw => ?_)
  refine v_if_eq (pc := 9) C 24 (by decide) dX12_drawn_9 (fun hc => ?_) (fun hc => ?_)
  · have hw := hw.1 hc
    refine v_sub (lv' := [(0, .ref (a 0))]) [0] rfl ?_
    exact vjX12_drawn_24 C hA a  p hw
  · have hw := hw.2 hc
    refine v_iload_n (pc := 12) C 2 rfl rfl dX12_drawn_12 ?_
    refine v_i2l (pc := 13) C dX12_drawn_13 ?_
    refine v_lconst (pc := 14) C 0 kl_0 dX12_drawn_14 ?_
    refine v_ldc2 (pc := 15) C 20 wlX12_249 dX12_drawn_15 ?_
    refine v_goBi (pc := 18) C (bs := [bModel E a p]) (cs := []) (cs' := (fun (_ : Unit) => [])) (bs' := (fun (_ : Unit) => [bModel E a p])) (w' := (fun (_ : Unit) => (fl [bModel E a p]))) [] rfl rfl (fun _ => rfl) (fun _ => rfl) (fun _ => rfl) (v_runSB (pc := 18) C [.long (x2.toInt64), .long 0, .long 20] [] (fun sz => ctX12_in l E (x2.toInt64) 0 20 hw sz) [] rfl rfl rfl mfX12_in msX12_in wmX12_56 rfl ⟨Nat.le_of_ble_eq_true rfl, Nat.le_of_ble_eq_true rfl⟩ ⟨rfl, rfl⟩ rfl (Nat.le_of_ble_eq_true rfl) ⟨Nat.zero_le _, Nat.zero_le _⟩ dX12_drawn_18) (fun r4 _ hw => ?_)
    refine v_if_ne (pc := 21) C 29 (by decide) dX12_drawn_21 (fun hc => ?_) (fun hc => ?_)
    · have hw := hw.1 hc
      refine v_aload_n (pc := 29) C 0 rfl rfl dX12_drawn_29 ?_
      refine v_get (pc := 30) C cfX12 rfl 0 4 rfl (by decide) wfX12_17 rfl dX12_drawn_30 ?_
      refine v_bipush (pc := 33) C 125 kb_125 dX12_drawn_33 ?_
      refine v_iald (pc := 35) C 2 rfl vi_125_126 tn_125 dX12_drawn_35 ?_
      refine v_aload_n (pc := 36) C 0 rfl rfl dX12_drawn_36 ?_
      refine v_get (pc := 37) C cfX12 rfl 0 0 rfl (by decide) wfX12_7 rfl dX12_drawn_37 ?_
      refine v_icmp_ne (pc := 40) C 45 (by decide) dX12_drawn_40 (fun hc => ?_) (fun hc => ?_)
      · have hw := hw.1 hc
        refine v_iconst (pc := 45) C 0 ki_0 dX12_drawn_45 ?_
        refine v_istore_n (pc := 46) C [(3, .int 0), (0, .ref (a 0)), (1, .int x1), (2, .int x2)] rfl rfl (by decide) dX12_drawn_46 ?_
        obtain ⟨n, hw⟩ := hw
        refine v_sub (lv' := [(0, .ref (a 0)), (1, .int x1), (2, .int x2), (3, .int 0)]) [1, 2, 3, 0] rfl ?_
        refine vlX12_drawn_47 C hA a  (fun y7 y8 p9 hw => ?_) n x1 x2 0 p hw
        refine v_aload_n (pc := 71) C 0 rfl rfl dX12_drawn_71 ?_
        refine v_iload_n (pc := 72) C 1 rfl rfl dX12_drawn_72 ?_
        refine v_i2l (pc := 73) C dX12_drawn_73 ?_
        obtain ⟨p10, es⟩ : ∃ y : St, y = p9.sL 26 (y7.toInt64) := ⟨_, rfl⟩
        have hw := hw p10 es
        refine v_put (pc := 74) C cfX12 rfl 0 26 (ty := .long) (w' := (fl [bModel E a p10])) rfl (by subst es; rfl) (by decide) wfX12_236 rfl rfl rfl rfl (Nat.le_of_ble_eq_true rfl) dX12_drawn_74 ?_
        refine v_iconst (pc := 77) C 0 ki_0 dX12_drawn_77 ?_
        refine v_istore_n (pc := 78) C [(3, .int 0), (0, .ref (a 0)), (1, .int y7), (2, .int y8)] rfl rfl (by decide) dX12_drawn_78 ?_
        obtain ⟨n, hw⟩ := hw
        refine v_sub (lv' := [(0, .ref (a 0)), (2, .int y8), (3, .int 0)]) [1, 3, 0] rfl ?_
        refine vlX12_drawn_79 C hA a  (fun p21 hw => ?_) n y8 0 p10 hw
        refine v_iconst (pc := 161) C 0 ki_0 dX12_drawn_161 ?_
        refine v_istore_n (pc := 162) C [(3, .int 0), (0, .ref (a 0))] rfl rfl (by decide) dX12_drawn_162 ?_
        refine v_iconst (pc := 163) C 0 ki_0 dX12_drawn_163 ?_
        refine v_istore (pc := 164) C [(4, .int 0), (3, .int 0), (0, .ref (a 0))] rfl (by decide) dX12_drawn_164 ?_
        obtain ⟨n, hw⟩ := hw
        refine v_sub (lv' := [(0, .ref (a 0)), (3, .int 0), (4, .int 0)]) [2, 1, 0] rfl ?_
        refine vlX12_drawn_166 C hA a  (fun y25 p26 hw => ?_) n 0 0 p21 hw
        refine v_iconst (pc := 194) C 0 ki_0 dX12_drawn_194 ?_
        refine v_istore (pc := 195) C [(4, .int 0), (0, .ref (a 0)), (3, .int y25)] rfl (by decide) dX12_drawn_195 ?_
        obtain ⟨n, hw⟩ := hw
        refine v_sub (lv' := [(0, .ref (a 0)), (3, .int y25), (4, .int 0)]) [1, 2, 0] rfl ?_
        refine vlX12_drawn_197 C hA a  (fun y29 p30 hw => ?_) n y25 0 p26 hw
        refine v_iload_n (pc := 224) C 0 rfl rfl dX12_drawn_224 ?_
        exact v_ireti (pc := 225) C p30 hA rfl hw dX12_drawn_225
      · have hw := hw.2 hc
        refine v_iconst (pc := 43) C (-1) ki_m1 dX12_drawn_43 ?_
        exact v_ireti (pc := 44) C p hA rfl hw dX12_drawn_44
    · have hw := hw.2 hc
      refine v_sub (lv' := [(0, .ref (a 0))]) [0] rfl ?_
      exact vjX12_drawn_24 C hA a  p hw
set_option maxHeartbeats 4000000 in
set_option maxRecDepth 100000 in
theorem ctX12_part (l : Launch) (E : VE) (a : Nat → Nat) (x1 : Int32) (p : St)  {Post : Int64 → St → Prop} (hw : wpX12_part x1 p Post) (sz : Nat) : Met l yX12_part (mW yX12_part cX12_part 2 (some .long)) rmX12_part (CPre E [.ref (a 0), .int x1] sz (fl [bModel E a p])) (CQl E Post (fun u => (fl [bModel E a u])) (fl [bModel E a p]) sz) 0 0 (va_A (fl [bModel E a p]) sz) := by
  refine v_met (by decide) (Nat.le_of_ble_eq_true rfl) ?_
  intro pr e s m below meth c A hsz hA C
  subst hsz
  refine v_iload_n (pc := 0) C 1 rfl rfl dX12_part_0 ?_
  refine v_if_ne (pc := 1) C 11 (by decide) dX12_part_1 (fun hc => ?_) (fun hc => ?_)
  · have hw := hw.1 hc
    refine v_iload_n (pc := 11) C 1 rfl rfl dX12_part_11 ?_
    refine v_iconst (pc := 12) C 1 ki_1 dX12_part_12 ?_
    refine v_icmp_ne (pc := 13) C 23 (by decide) dX12_part_13 (fun hc => ?_) (fun hc => ?_)
    · have hw := hw.1 hc
      refine v_aload_n (pc := 23) C 0 rfl rfl dX12_part_23 ?_
      refine v_goAi (pc := 24) C (wc' := (fun (u : St) => (fl [bModel E a u]))) (fun _ => rfl) (v_runVA (pc := 24) C [] [] (fun sz => ctX12_bad l E a p hw sz) mfX12_bad mvX12_bad wmX12_75 rfl ⟨Nat.le_of_ble_eq_true rfl, Nat.le_of_ble_eq_true rfl⟩ ⟨rfl, rfl⟩ 0 (ci := 12) (qc := (RX12, TX12, 30)) rfl rfl rfl rfl (Nat.le_of_ble_eq_true rfl) ⟨Nat.zero_le _, Nat.zero_le _⟩ dX12_part_24) (fun r1 p2 hw => ?_)
      refine v_i2l (pc := 27) C dX12_part_27 ?_
      exact v_lret (pc := 28) C p2 hA rfl hw dX12_part_28
    · have hw := hw.2 hc
      refine v_aload_n (pc := 16) C 0 rfl rfl dX12_part_16 ?_
      refine v_get (pc := 17) C cfX12 rfl 0 8 rfl (by decide) wfX12_23 rfl dX12_part_17 ?_
      refine v_goto (pc := 20) C 28 (by decide) dX12_part_20 ?_
      exact v_lret (pc := 28) C p hA rfl hw dX12_part_28
  · have hw := hw.2 hc
    refine v_aload_n (pc := 4) C 0 rfl rfl dX12_part_4 ?_
    refine v_get (pc := 5) C cfX12 rfl 0 7 rfl (by decide) wfX12_227 rfl dX12_part_5 ?_
    refine v_goto (pc := 8) C 28 (by decide) dX12_part_8 ?_
    exact v_lret (pc := 28) C p hA rfl hw dX12_part_28
set_option maxHeartbeats 4000000 in
set_option maxRecDepth 100000 in
theorem vlX12_carry_3 (C : VC pr s m args meth c E A cX12_carry 7 none RX12) (hA : va_A w0 s.heap.size = A) (a : Nat → Nat) (b : Nat → Nat) (q : (Nat → Int32)) (n0 : Nat) (n1 : Nat) {Post : (Nat → Int32) → Prop} {KX : (Nat → Int32) → Prop} (hX : ∀ (p : (Nat → Int32)), KX p → V pr l e rmX12_carry s m args below meth c E A 7 0 0 (MQ below (CQv E Post (fun u => (fl [bArr E a n0 u, bArr E b n1 q])) w0 s.heap.size) args s 0 0 A) (fl [bArr E a n0 p, bArr E b n1 q]) 29 [] []) : ∀ (n : Nat) (x2 : Int32) (x4 : Int32) (x5 : Int32) (x6 : Int32) (p : (Nat → Int32)), wLX12_carry_3 q n0 n1 Post KX n (x2, x4, x5, x6, p) → V pr l e rmX12_carry s m args below meth c E A 7 0 0 (MQ below (CQv E Post (fun u => (fl [bArr E a n0 u, bArr E b n1 q])) w0 s.heap.size) args s 0 0 A) (fl [bArr E a n0 p, bArr E b n1 q]) 3 [(1, .ref (a 0)), (2, .int x2), (3, .ref (b 0)), (4, .int x4), (5, .int x5), (6, .int x6)] [] := by
  intro n
  induction n with
  | zero => intro x2 x4 x5 x6 p hw; exact absurd hw id
  | succ n hself =>
    intro x2 x4 x5 x6 p hw
    have hw : wlX12_carry_3 q n0 n1 Post KX (wLX12_carry_3 q n0 n1 Post KX n) x2 x4 x5 x6 p := hw
    refine v_iload (pc := 3) C 5 rfl dX12_carry_3 ?_
    refine v_iload (pc := 5) C 4 rfl dX12_carry_5 ?_
    refine v_icmp_ge (pc := 7) C 29 (by decide) dX12_carry_7 (fun hc => ?_) (fun hc => ?_)
    · have hw := hw.1 hc
      refine v_sub (lv' := []) [] rfl ?_
      exact hX p hw
    · have hw := hw.2 hc
      refine v_aload_n (pc := 10) C 0 rfl rfl dX12_carry_10 ?_
      refine v_iload_n (pc := 11) C 1 rfl rfl dX12_carry_11 ?_
      refine v_iload (pc := 12) C 5 rfl dX12_carry_12 ?_
      refine v_iadd (pc := 14) C dX12_carry_14 ?_
      refine v_aload_n (pc := 15) C 2 rfl rfl dX12_carry_15 ?_
      refine v_iload (pc := 16) C 3 rfl dX12_carry_16 ?_
      refine v_iload (pc := 18) C 5 rfl dX12_carry_18 ?_
      refine v_iadd (pc := 20) C dX12_carry_20 ?_
      obtain ⟨hg, hw⟩ := hw
      refine v_iald (pc := 21) C 1 rfl hg rfl dX12_carry_21 ?_
      obtain ⟨hg, hw⟩ := hw
      obtain ⟨p1, es⟩ : ∃ y : (Nat → Int32), y = (upd p (x2 + x6).toNatClampNeg (q (x4 + x6).toNatClampNeg)) := ⟨_, rfl⟩
      have hw := hw p1 es
      refine v_iast (pc := 22) C 0 (w' := (fl [bArr E a n0 p1, bArr E b n1 q])) rfl rfl (by subst es; rfl) hg dX12_carry_22 ?_
      obtain ⟨x6_2, ex⟩ : ∃ y : Int32, y = x6 + 1 := ⟨_, rfl⟩
      have hw := hw x6_2 ex
      refine v_iinc (pc := 23) C 5 rfl (by rw [ex, ki_1]) [(6, .int x6_2), (1, .ref (a 0)), (2, .int x2), (3, .ref (b 0)), (4, .int x4), (5, .int x5)] rfl (by decide) dX12_carry_23 ?_
      refine v_goto (pc := 26) C 3 (by decide) dX12_carry_26 ?_
      refine v_sub (lv' := [(1, .ref (a 0)), (2, .int x2), (3, .ref (b 0)), (4, .int x4), (5, .int x5), (6, .int x6_2)]) [1, 2, 3, 4, 5, 0] rfl ?_
      exact hself x2 x4 x5 x6_2 p1 hw
set_option maxHeartbeats 4000000 in
set_option maxRecDepth 100000 in
theorem ctX12_carry (l : Launch) (E : VE) (h0 : Nat) (a : Nat → Nat) (b : Nat → Nat) (x2 : Int32) (x4 : Int32) (x5 : Int32) (p : (Nat → Int32)) (q : (Nat → Int32)) (n0 : Nat) (n1 : Nat) {Post : (Nat → Int32) → Prop} (hw : wpX12_carry x2 x4 x5 p q n0 n1 Post) (sz : Nat) : Met l yX12_carry (mW yX12_carry cX12_carry 7 none) rmX12_carry (CPre E [.ref h0, .ref (a 0), .int x2, .ref (b 0), .int x4, .int x5] sz (fl [bArr E a n0 p, bArr E b n1 q])) (CQv E Post (fun u => (fl [bArr E a n0 u, bArr E b n1 q])) (fl [bArr E a n0 p, bArr E b n1 q]) sz) 0 0 (va_A (fl [bArr E a n0 p, bArr E b n1 q]) sz) := by
  refine v_met (by decide) (Nat.le_of_ble_eq_true rfl) ?_
  intro pr e s m below meth c A hsz hA C
  subst hsz
  refine v_iconst (pc := 0) C 0 ki_0 dX12_carry_0 ?_
  refine v_istore (pc := 1) C [(6, .int 0), (0, .ref h0), (1, .ref (a 0)), (2, .int x2), (3, .ref (b 0)), (4, .int x4), (5, .int x5)] rfl (by decide) dX12_carry_1 ?_
  obtain ⟨n, hw⟩ := hw
  refine v_sub (lv' := [(1, .ref (a 0)), (2, .int x2), (3, .ref (b 0)), (4, .int x4), (5, .int x5), (6, .int 0)]) [2, 3, 4, 5, 6, 0] rfl ?_
  refine vlX12_carry_3 C hA a b q n0 n1 (fun p3 hw => ?_) n x2 x4 x5 0 p hw
  exact v_vret (pc := 29) C p3 hA rfl hw dX12_carry_29
set_option maxHeartbeats 4000000 in
set_option maxRecDepth 100000 in
theorem ctX12_image (l : Launch) (E : VE) (a : Nat → Nat) (x1 : Int32) (p : St)  {Post : Int32 → St → Prop} (hw : wpX12_image x1 p Post) (sz : Nat) : Met l yX12_image (mW yX12_image cX12_image 3 (some .int)) rmX12_image (CPre E [.ref (a 0), .int x1] sz (fl [bModel E a p])) (CQi E Post (fun u => (fl [bModel E a u])) (fl [bModel E a p]) sz) 0 0 (va_A (fl [bModel E a p]) sz) := by
  refine v_met (by decide) (Nat.le_of_ble_eq_true rfl) ?_
  intro pr e s m below meth c A hsz hA C
  subst hsz
  refine v_iload_n (pc := 0) C 1 rfl rfl dX12_image_0 ?_
  refine v_i2l (pc := 1) C dX12_image_1 ?_
  refine v_lconst (pc := 2) C 0 kl_0 dX12_image_2 ?_
  refine v_lconst (pc := 3) C 1 kl_1 dX12_image_3 ?_
  refine v_goBi (pc := 4) C (bs := [bModel E a p]) (cs := []) (cs' := (fun (_ : Unit) => [])) (bs' := (fun (_ : Unit) => [bModel E a p])) (w' := (fun (_ : Unit) => (fl [bModel E a p]))) [] rfl rfl (fun _ => rfl) (fun _ => rfl) (fun _ => rfl) (v_runSB (pc := 4) C [.long (x1.toInt64), .long 0, .long 1] [] (fun sz => ctX12_in l E (x1.toInt64) 0 1 hw sz) [] rfl rfl rfl mfX12_in msX12_in wmX12_56 rfl ⟨Nat.le_of_ble_eq_true rfl, Nat.le_of_ble_eq_true rfl⟩ ⟨rfl, rfl⟩ rfl (Nat.le_of_ble_eq_true rfl) ⟨Nat.zero_le _, Nat.zero_le _⟩ dX12_image_4) (fun r1 _ hw => ?_)
  refine v_if_ne (pc := 7) C 15 (by decide) dX12_image_7 (fun hc => ?_) (fun hc => ?_)
  · have hw := hw.1 hc
    refine v_sipush (pc := 15) C 1154 ks_1154 dX12_image_15 ?_
    refine v_iload_n (pc := 18) C 1 rfl rfl dX12_image_18 ?_
    refine v_imul (pc := 19) C dX12_image_19 ?_
    refine v_topi (fun x2_2 ex => ?_)
    have hw := hw x2_2 ex
    refine v_istore_n (pc := 20) C [(2, .int x2_2), (0, .ref (a 0)), (1, .int x1)] rfl rfl (by decide) dX12_image_20 ?_
    refine v_aload_n (pc := 21) C 1 rfl rfl dX12_image_21 ?_
    refine v_aload_n (pc := 22) C 1 rfl rfl dX12_image_22 ?_
    refine v_get (pc := 23) C cfX12 rfl 0 28 rfl (by decide) wfX12_49 rfl dX12_image_23 ?_
    refine v_iload_n (pc := 26) C 0 rfl rfl dX12_image_26 ?_
    refine v_aload_n (pc := 27) C 1 rfl rfl dX12_image_27 ?_
    refine v_get (pc := 28) C cfX12 rfl 0 4 rfl (by decide) wfX12_17 rfl dX12_image_28 ?_
    refine v_iconst (pc := 31) C 0 ki_0 dX12_image_31 ?_
    refine v_bipush (pc := 32) C 126 kb_126 dX12_image_32 ?_
    refine v_gov (pc := 34) C (wc := (fl [bArr E (fun _ => (a 11)) 2308 (p.A 28), bArr E (fun _ => (a 2)) 126 (p.A 4)])) (wc' := (fun (u : (Nat → Int32)) => (fl [bArr E (fun _ => (a 11)) 2308 u, bArr E (fun _ => (a 2)) 126 (p.A 4)]))) (w' := (fun (u : (Nat → Int32)) => (fl [bModel E a (p.sA 28 u)]))) [11, 2] rfl (fun _ => rfl) (fun _ => rfl) (v_runV (pc := 34) C [.ref (a 11), .int x2_2, .ref (a 2), .int 0, .int 126] [] (fun sz => ctX12_carry l E (a 0) (fun _ => (a 11)) (fun _ => (a 2)) x2_2 0 126 (p.A 28) (p.A 4) 2308 126 hw sz) [11, 2] rfl rfl mfX12_carry mvX12_carry wmX12_254 rfl ⟨Nat.le_of_ble_eq_true rfl, Nat.le_of_ble_eq_true rfl⟩ ⟨rfl, rfl⟩ 0 (ci := 12) (qc := (RX12, TX12, 30)) rfl rfl rfl rfl (Nat.le_of_ble_eq_true rfl) ⟨Nat.zero_le _, Nat.zero_le _⟩ dX12_image_34) (fun p3 hw => ?_)
    refine v_aload_n (pc := 37) C 1 rfl rfl dX12_image_37 ?_
    refine v_aload_n (pc := 38) C 1 rfl rfl dX12_image_38 ?_
    refine v_get (pc := 39) C cfX12 rfl 0 28 rfl (by decide) wfX12_49 rfl dX12_image_39 ?_
    refine v_iload_n (pc := 42) C 0 rfl rfl dX12_image_42 ?_
    refine v_bipush (pc := 43) C 126 kb_126 dX12_image_43 ?_
    refine v_iadd (pc := 45) C dX12_image_45 ?_
    refine v_aload_n (pc := 46) C 1 rfl rfl dX12_image_46 ?_
    refine v_get (pc := 47) C cfX12 rfl 0 5 rfl (by decide) wfX12_20 rfl dX12_image_47 ?_
    refine v_iconst (pc := 50) C 0 ki_0 dX12_image_50 ?_
    refine v_sipush (pc := 51) C 1008 ks_1008 dX12_image_51 ?_
    refine v_gov (pc := 54) C (wc := (fl [bArr E (fun _ => (a 11)) 2308 ((p.sA 28 p3).A 28), bArr E (fun _ => (a 3)) 1008 ((p.sA 28 p3).A 5)])) (wc' := (fun (u : (Nat → Int32)) => (fl [bArr E (fun _ => (a 11)) 2308 u, bArr E (fun _ => (a 3)) 1008 ((p.sA 28 p3).A 5)]))) (w' := (fun (u : (Nat → Int32)) => (fl [bModel E a ((p.sA 28 p3).sA 28 u)]))) [11, 3] rfl (fun _ => rfl) (fun _ => rfl) (v_runV (pc := 54) C [.ref (a 11), .int (x2_2 + 126), .ref (a 3), .int 0, .int 1008] [] (fun sz => ctX12_carry l E (a 0) (fun _ => (a 11)) (fun _ => (a 3)) (x2_2 + 126) 0 1008 ((p.sA 28 p3).A 28) ((p.sA 28 p3).A 5) 2308 1008 hw sz) [11, 3] rfl rfl mfX12_carry mvX12_carry wmX12_254 rfl ⟨Nat.le_of_ble_eq_true rfl, Nat.le_of_ble_eq_true rfl⟩ ⟨rfl, rfl⟩ 0 (ci := 12) (qc := (RX12, TX12, 30)) rfl rfl rfl rfl (Nat.le_of_ble_eq_true rfl) ⟨Nat.zero_le _, Nat.zero_le _⟩ dX12_image_54) (fun p4 hw => ?_)
    refine v_aload_n (pc := 57) C 1 rfl rfl dX12_image_57 ?_
    refine v_aload_n (pc := 58) C 1 rfl rfl dX12_image_58 ?_
    refine v_get (pc := 59) C cfX12 rfl 0 28 rfl (by decide) wfX12_49 rfl dX12_image_59 ?_
    refine v_iload_n (pc := 62) C 0 rfl rfl dX12_image_62 ?_
    refine v_sipush (pc := 63) C 1134 ks_1134 dX12_image_63 ?_
    refine v_iadd (pc := 66) C dX12_image_66 ?_
    refine v_aload_n (pc := 67) C 1 rfl rfl dX12_image_67 ?_
    refine v_get (pc := 68) C cfX12 rfl 0 2 rfl (by decide) wfX12_13 rfl dX12_image_68 ?_
    refine v_iconst (pc := 71) C 0 ki_0 dX12_image_71 ?_
    refine v_bipush (pc := 72) C 8 kb_8 dX12_image_72 ?_
    refine v_gov (pc := 74) C (wc := (fl [bArr E (fun _ => (a 11)) 2308 (((p.sA 28 p3).sA 28 p4).A 28), bArr E (fun _ => (a 1)) 8 (((p.sA 28 p3).sA 28 p4).A 2)])) (wc' := (fun (u : (Nat → Int32)) => (fl [bArr E (fun _ => (a 11)) 2308 u, bArr E (fun _ => (a 1)) 8 (((p.sA 28 p3).sA 28 p4).A 2)]))) (w' := (fun (u : (Nat → Int32)) => (fl [bModel E a (((p.sA 28 p3).sA 28 p4).sA 28 u)]))) [11, 1] rfl (fun _ => rfl) (fun _ => rfl) (v_runV (pc := 74) C [.ref (a 11), .int (x2_2 + 1134), .ref (a 1), .int 0, .int 8] [] (fun sz => ctX12_carry l E (a 0) (fun _ => (a 11)) (fun _ => (a 1)) (x2_2 + 1134) 0 8 (((p.sA 28 p3).sA 28 p4).A 28) (((p.sA 28 p3).sA 28 p4).A 2) 2308 8 hw sz) [11, 1] rfl rfl mfX12_carry mvX12_carry wmX12_254 rfl ⟨Nat.le_of_ble_eq_true rfl, Nat.le_of_ble_eq_true rfl⟩ ⟨rfl, rfl⟩ 0 (ci := 12) (qc := (RX12, TX12, 30)) rfl rfl rfl rfl (Nat.le_of_ble_eq_true rfl) ⟨Nat.zero_le _, Nat.zero_le _⟩ dX12_image_74) (fun p5 hw => ?_)
    refine v_aload_n (pc := 77) C 1 rfl rfl dX12_image_77 ?_
    refine v_get (pc := 78) C cfX12 rfl 0 28 rfl (by decide) wfX12_49 rfl dX12_image_78 ?_
    refine v_iload_n (pc := 81) C 0 rfl rfl dX12_image_81 ?_
    refine v_sipush (pc := 82) C 1142 ks_1142 dX12_image_82 ?_
    refine v_iadd (pc := 85) C dX12_image_85 ?_
    refine v_aload_n (pc := 86) C 1 rfl rfl dX12_image_86 ?_
    refine v_get (pc := 87) C cfX12 rfl 0 0 rfl (by decide) wfX12_7 rfl dX12_image_87 ?_
    obtain ⟨hg, hw⟩ := hw
    obtain ⟨p6, es⟩ : ∃ y : St, y = (((p.sA 28 p3).sA 28 p4).sA 28 p5).sA 28 (upd ((((p.sA 28 p3).sA 28 p4).sA 28 p5).A 28) (x2_2 + 1142).toNatClampNeg ((((p.sA 28 p3).sA 28 p4).sA 28 p5).I 0)) := ⟨_, rfl⟩
    have hw := hw p6 es
    refine v_iast (pc := 90) C 11 (w' := (fl [bModel E a p6])) rfl rfl (by subst es; rfl) hg dX12_image_90 ?_
    refine v_aload_n (pc := 91) C 1 rfl rfl dX12_image_91 ?_
    refine v_get (pc := 92) C cfX12 rfl 0 28 rfl (by decide) wfX12_49 rfl dX12_image_92 ?_
    refine v_iload_n (pc := 95) C 0 rfl rfl dX12_image_95 ?_
    refine v_sipush (pc := 96) C 1143 ks_1143 dX12_image_96 ?_
    refine v_iadd (pc := 99) C dX12_image_99 ?_
    refine v_aload_n (pc := 100) C 1 rfl rfl dX12_image_100 ?_
    refine v_get (pc := 101) C cfX12 rfl 0 1 rfl (by decide) wfX12_67 rfl dX12_image_101 ?_
    obtain ⟨hg, hw⟩ := hw
    obtain ⟨p7, es⟩ : ∃ y : St, y = p6.sA 28 (upd (p6.A 28) (x2_2 + 1143).toNatClampNeg (p6.I 1)) := ⟨_, rfl⟩
    have hw := hw p7 es
    refine v_iast (pc := 104) C 11 (w' := (fl [bModel E a p7])) rfl rfl (by subst es; rfl) hg dX12_image_104 ?_
    refine v_aload_n (pc := 105) C 1 rfl rfl dX12_image_105 ?_
    refine v_get (pc := 106) C cfX12 rfl 0 28 rfl (by decide) wfX12_49 rfl dX12_image_106 ?_
    refine v_iload_n (pc := 109) C 0 rfl rfl dX12_image_109 ?_
    refine v_sipush (pc := 110) C 1144 ks_1144 dX12_image_110 ?_
    refine v_iadd (pc := 113) C dX12_image_113 ?_
    refine v_aload_n (pc := 114) C 1 rfl rfl dX12_image_114 ?_
    refine v_get (pc := 115) C cfX12 rfl 0 3 rfl (by decide) wfX12_79 rfl dX12_image_115 ?_
    obtain ⟨hg, hw⟩ := hw
    obtain ⟨p8, es⟩ : ∃ y : St, y = p7.sA 28 (upd (p7.A 28) (x2_2 + 1144).toNatClampNeg (p7.I 3)) := ⟨_, rfl⟩
    have hw := hw p8 es
    refine v_iast (pc := 118) C 11 (w' := (fl [bModel E a p8])) rfl rfl (by subst es; rfl) hg dX12_image_118 ?_
    refine v_aload_n (pc := 119) C 1 rfl rfl dX12_image_119 ?_
    refine v_get (pc := 120) C cfX12 rfl 0 28 rfl (by decide) wfX12_49 rfl dX12_image_120 ?_
    refine v_iload_n (pc := 123) C 0 rfl rfl dX12_image_123 ?_
    refine v_sipush (pc := 124) C 1145 ks_1145 dX12_image_124 ?_
    refine v_iadd (pc := 127) C dX12_image_127 ?_
    refine v_aload_n (pc := 128) C 1 rfl rfl dX12_image_128 ?_
    refine v_get (pc := 129) C cfX12 rfl 0 6 rfl (by decide) wfX12_70 rfl dX12_image_129 ?_
    obtain ⟨hg, hw⟩ := hw
    obtain ⟨p9, es⟩ : ∃ y : St, y = p8.sA 28 (upd (p8.A 28) (x2_2 + 1145).toNatClampNeg (p8.I 6)) := ⟨_, rfl⟩
    have hw := hw p9 es
    refine v_iast (pc := 132) C 11 (w' := (fl [bModel E a p9])) rfl rfl (by subst es; rfl) hg dX12_image_132 ?_
    refine v_aload_n (pc := 133) C 1 rfl rfl dX12_image_133 ?_
    refine v_get (pc := 134) C cfX12 rfl 0 27 rfl (by decide) wfX12_45 rfl dX12_image_134 ?_
    refine v_iload_n (pc := 137) C 2 rfl rfl dX12_image_137 ?_
    refine v_iconst (pc := 138) C 1 ki_1 dX12_image_138 ?_
    obtain ⟨hg, hw⟩ := hw
    obtain ⟨p10, es⟩ : ∃ y : St, y = p9.sA 27 (upd (p9.A 27) x1.toNatClampNeg (vp_nar .boolean 1)) := ⟨_, rfl⟩
    have hw := hw p10 es
    refine v_zast (pc := 139) C 10 (w' := (fl [bModel E a p10])) rfl rfl (by subst es; rfl) hg dX12_image_139 ?_
    refine v_iconst (pc := 140) C 1 ki_1 dX12_image_140 ?_
    exact v_ireti (pc := 141) C p10 hA rfl hw dX12_image_141
  · have hw := hw.2 hc
    refine v_aload_n (pc := 10) C 0 rfl rfl dX12_image_10 ?_
    refine v_goAi (pc := 11) C (wc' := (fun (u : St) => (fl [bModel E a u]))) (fun _ => rfl) (v_runVA (pc := 11) C [] [] (fun sz => ctX12_bad l E a p hw sz) mfX12_bad mvX12_bad wmX12_75 rfl ⟨Nat.le_of_ble_eq_true rfl, Nat.le_of_ble_eq_true rfl⟩ ⟨rfl, rfl⟩ 0 (ci := 12) (qc := (RX12, TX12, 30)) rfl rfl rfl rfl (Nat.le_of_ble_eq_true rfl) ⟨Nat.zero_le _, Nat.zero_le _⟩ dX12_image_11) (fun r11 p12 hw => ?_)
    exact v_ireti (pc := 14) C p12 hA rfl hw dX12_image_14
set_option maxHeartbeats 4000000 in
set_option maxRecDepth 100000 in
theorem ctX12_from (l : Launch) (E : VE) (a : Nat → Nat) (x1 : Int32) (p : St)  {Post : Int32 → St → Prop} (hw : wpX12_from x1 p Post) (sz : Nat) : Met l yX12_from (mW yX12_from cX12_from 3 (some .int)) rmX12_from (CPre E [.ref (a 0), .int x1] sz (fl [bModel E a p])) (CQi E Post (fun u => (fl [bModel E a u])) (fl [bModel E a p]) sz) 0 0 (va_A (fl [bModel E a p]) sz) := by
  refine v_met (by decide) (Nat.le_of_ble_eq_true rfl) ?_
  intro pr e s m below meth c A hsz hA C
  subst hsz
  refine v_iload_n (pc := 0) C 1 rfl rfl dX12_from_0 ?_
  refine v_i2l (pc := 1) C dX12_from_1 ?_
  refine v_lconst (pc := 2) C 0 kl_0 dX12_from_2 ?_
  refine v_lconst (pc := 3) C 1 kl_1 dX12_from_3 ?_
  refine v_goBi (pc := 4) C (bs := [bModel E a p]) (cs := []) (cs' := (fun (_ : Unit) => [])) (bs' := (fun (_ : Unit) => [bModel E a p])) (w' := (fun (_ : Unit) => (fl [bModel E a p]))) [] rfl rfl (fun _ => rfl) (fun _ => rfl) (fun _ => rfl) (v_runSB (pc := 4) C [.long (x1.toInt64), .long 0, .long 1] [] (fun sz => ctX12_in l E (x1.toInt64) 0 1 hw sz) [] rfl rfl rfl mfX12_in msX12_in wmX12_56 rfl ⟨Nat.le_of_ble_eq_true rfl, Nat.le_of_ble_eq_true rfl⟩ ⟨rfl, rfl⟩ rfl (Nat.le_of_ble_eq_true rfl) ⟨Nat.zero_le _, Nat.zero_le _⟩ dX12_from_4) (fun r1 _ hw => ?_)
  refine v_if_ne (pc := 7) C 15 (by decide) dX12_from_7 (fun hc => ?_) (fun hc => ?_)
  · have hw := hw.1 hc
    refine v_aload_n (pc := 15) C 0 rfl rfl dX12_from_15 ?_
    refine v_get (pc := 16) C cfX12 rfl 0 27 rfl (by decide) wfX12_45 rfl dX12_from_16 ?_
    refine v_iload_n (pc := 19) C 1 rfl rfl dX12_from_19 ?_
    obtain ⟨hg, hw⟩ := hw
    refine v_zald (pc := 20) C 10 rfl hg rfl dX12_from_20 ?_
    refine v_if_ne (pc := 21) C 32 (by decide) dX12_from_21 (fun hc => ?_) (fun hc => ?_)
    · have hw := hw.1 hc
      refine v_sipush (pc := 32) C 1154 ks_1154 dX12_from_32 ?_
      refine v_iload_n (pc := 35) C 1 rfl rfl dX12_from_35 ?_
      refine v_imul (pc := 36) C dX12_from_36 ?_
      refine v_topi (fun x2_2 ex => ?_)
      have hw := hw x2_2 ex
      refine v_istore_n (pc := 37) C [(2, .int x2_2), (0, .ref (a 0)), (1, .int x1)] rfl rfl (by decide) dX12_from_37 ?_
      refine v_aload_n (pc := 38) C 1 rfl rfl dX12_from_38 ?_
      refine v_aload_n (pc := 39) C 1 rfl rfl dX12_from_39 ?_
      refine v_get (pc := 40) C cfX12 rfl 0 4 rfl (by decide) wfX12_17 rfl dX12_from_40 ?_
      refine v_iconst (pc := 43) C 0 ki_0 dX12_from_43 ?_
      refine v_aload_n (pc := 44) C 1 rfl rfl dX12_from_44 ?_
      refine v_get (pc := 45) C cfX12 rfl 0 28 rfl (by decide) wfX12_49 rfl dX12_from_45 ?_
      refine v_iload_n (pc := 48) C 0 rfl rfl dX12_from_48 ?_
      refine v_bipush (pc := 49) C 126 kb_126 dX12_from_49 ?_
      refine v_gov (pc := 51) C (wc := (fl [bArr E (fun _ => (a 2)) 126 (p.A 4), bArr E (fun _ => (a 11)) 2308 (p.A 28)])) (wc' := (fun (u : (Nat → Int32)) => (fl [bArr E (fun _ => (a 2)) 126 u, bArr E (fun _ => (a 11)) 2308 (p.A 28)]))) (w' := (fun (u : (Nat → Int32)) => (fl [bModel E a (p.sA 4 u)]))) [2, 11] rfl (fun _ => rfl) (fun _ => rfl) (v_runV (pc := 51) C [.ref (a 2), .int 0, .ref (a 11), .int x2_2, .int 126] [] (fun sz => ctX12_carry l E (a 0) (fun _ => (a 2)) (fun _ => (a 11)) 0 x2_2 126 (p.A 4) (p.A 28) 126 2308 hw sz) [2, 11] rfl rfl mfX12_carry mvX12_carry wmX12_254 rfl ⟨Nat.le_of_ble_eq_true rfl, Nat.le_of_ble_eq_true rfl⟩ ⟨rfl, rfl⟩ 0 (ci := 12) (qc := (RX12, TX12, 30)) rfl rfl rfl rfl (Nat.le_of_ble_eq_true rfl) ⟨Nat.zero_le _, Nat.zero_le _⟩ dX12_from_51) (fun p3 hw => ?_)
      refine v_aload_n (pc := 54) C 1 rfl rfl dX12_from_54 ?_
      refine v_aload_n (pc := 55) C 1 rfl rfl dX12_from_55 ?_
      refine v_get (pc := 56) C cfX12 rfl 0 5 rfl (by decide) wfX12_20 rfl dX12_from_56 ?_
      refine v_iconst (pc := 59) C 0 ki_0 dX12_from_59 ?_
      refine v_aload_n (pc := 60) C 1 rfl rfl dX12_from_60 ?_
      refine v_get (pc := 61) C cfX12 rfl 0 28 rfl (by decide) wfX12_49 rfl dX12_from_61 ?_
      refine v_iload_n (pc := 64) C 0 rfl rfl dX12_from_64 ?_
      refine v_bipush (pc := 65) C 126 kb_126 dX12_from_65 ?_
      refine v_iadd (pc := 67) C dX12_from_67 ?_
      refine v_sipush (pc := 68) C 1008 ks_1008 dX12_from_68 ?_
      refine v_gov (pc := 71) C (wc := (fl [bArr E (fun _ => (a 3)) 1008 ((p.sA 4 p3).A 5), bArr E (fun _ => (a 11)) 2308 ((p.sA 4 p3).A 28)])) (wc' := (fun (u : (Nat → Int32)) => (fl [bArr E (fun _ => (a 3)) 1008 u, bArr E (fun _ => (a 11)) 2308 ((p.sA 4 p3).A 28)]))) (w' := (fun (u : (Nat → Int32)) => (fl [bModel E a ((p.sA 4 p3).sA 5 u)]))) [3, 11] rfl (fun _ => rfl) (fun _ => rfl) (v_runV (pc := 71) C [.ref (a 3), .int 0, .ref (a 11), .int (x2_2 + 126), .int 1008] [] (fun sz => ctX12_carry l E (a 0) (fun _ => (a 3)) (fun _ => (a 11)) 0 (x2_2 + 126) 1008 ((p.sA 4 p3).A 5) ((p.sA 4 p3).A 28) 1008 2308 hw sz) [3, 11] rfl rfl mfX12_carry mvX12_carry wmX12_254 rfl ⟨Nat.le_of_ble_eq_true rfl, Nat.le_of_ble_eq_true rfl⟩ ⟨rfl, rfl⟩ 0 (ci := 12) (qc := (RX12, TX12, 30)) rfl rfl rfl rfl (Nat.le_of_ble_eq_true rfl) ⟨Nat.zero_le _, Nat.zero_le _⟩ dX12_from_71) (fun p4 hw => ?_)
      refine v_aload_n (pc := 74) C 1 rfl rfl dX12_from_74 ?_
      refine v_aload_n (pc := 75) C 1 rfl rfl dX12_from_75 ?_
      refine v_get (pc := 76) C cfX12 rfl 0 2 rfl (by decide) wfX12_13 rfl dX12_from_76 ?_
      refine v_iconst (pc := 79) C 0 ki_0 dX12_from_79 ?_
      refine v_aload_n (pc := 80) C 1 rfl rfl dX12_from_80 ?_
      refine v_get (pc := 81) C cfX12 rfl 0 28 rfl (by decide) wfX12_49 rfl dX12_from_81 ?_
      refine v_iload_n (pc := 84) C 0 rfl rfl dX12_from_84 ?_
      refine v_sipush (pc := 85) C 1134 ks_1134 dX12_from_85 ?_
      refine v_iadd (pc := 88) C dX12_from_88 ?_
      refine v_bipush (pc := 89) C 8 kb_8 dX12_from_89 ?_
      refine v_gov (pc := 91) C (wc := (fl [bArr E (fun _ => (a 1)) 8 (((p.sA 4 p3).sA 5 p4).A 2), bArr E (fun _ => (a 11)) 2308 (((p.sA 4 p3).sA 5 p4).A 28)])) (wc' := (fun (u : (Nat → Int32)) => (fl [bArr E (fun _ => (a 1)) 8 u, bArr E (fun _ => (a 11)) 2308 (((p.sA 4 p3).sA 5 p4).A 28)]))) (w' := (fun (u : (Nat → Int32)) => (fl [bModel E a (((p.sA 4 p3).sA 5 p4).sA 2 u)]))) [1, 11] rfl (fun _ => rfl) (fun _ => rfl) (v_runV (pc := 91) C [.ref (a 1), .int 0, .ref (a 11), .int (x2_2 + 1134), .int 8] [] (fun sz => ctX12_carry l E (a 0) (fun _ => (a 1)) (fun _ => (a 11)) 0 (x2_2 + 1134) 8 (((p.sA 4 p3).sA 5 p4).A 2) (((p.sA 4 p3).sA 5 p4).A 28) 8 2308 hw sz) [1, 11] rfl rfl mfX12_carry mvX12_carry wmX12_254 rfl ⟨Nat.le_of_ble_eq_true rfl, Nat.le_of_ble_eq_true rfl⟩ ⟨rfl, rfl⟩ 0 (ci := 12) (qc := (RX12, TX12, 30)) rfl rfl rfl rfl (Nat.le_of_ble_eq_true rfl) ⟨Nat.zero_le _, Nat.zero_le _⟩ dX12_from_91) (fun p5 hw => ?_)
      refine v_aload_n (pc := 94) C 1 rfl rfl dX12_from_94 ?_
      refine v_aload_n (pc := 95) C 1 rfl rfl dX12_from_95 ?_
      refine v_get (pc := 96) C cfX12 rfl 0 28 rfl (by decide) wfX12_49 rfl dX12_from_96 ?_
      refine v_iload_n (pc := 99) C 0 rfl rfl dX12_from_99 ?_
      refine v_sipush (pc := 100) C 1142 ks_1142 dX12_from_100 ?_
      refine v_iadd (pc := 103) C dX12_from_103 ?_
      obtain ⟨hg, hw⟩ := hw
      refine v_iald (pc := 104) C 11 rfl hg rfl dX12_from_104 ?_
      obtain ⟨p6, es⟩ : ∃ y : St, y = (((p.sA 4 p3).sA 5 p4).sA 2 p5).sI 0 (((((p.sA 4 p3).sA 5 p4).sA 2 p5).A 28) (x2_2 + 1142).toNatClampNeg) := ⟨_, rfl⟩
      have hw := hw p6 es
      refine v_put (pc := 105) C cfX12 rfl 0 0 (ty := .int) (w' := (fl [bModel E a p6])) rfl (by subst es; rfl) (by decide) wfX12_7 rfl rfl rfl rfl (Nat.le_of_ble_eq_true rfl) dX12_from_105 ?_
      refine v_aload_n (pc := 108) C 1 rfl rfl dX12_from_108 ?_
      refine v_aload_n (pc := 109) C 1 rfl rfl dX12_from_109 ?_
      refine v_get (pc := 110) C cfX12 rfl 0 28 rfl (by decide) wfX12_49 rfl dX12_from_110 ?_
      refine v_iload_n (pc := 113) C 0 rfl rfl dX12_from_113 ?_
      refine v_sipush (pc := 114) C 1143 ks_1143 dX12_from_114 ?_
      refine v_iadd (pc := 117) C dX12_from_117 ?_
      obtain ⟨hg, hw⟩ := hw
      refine v_iald (pc := 118) C 11 rfl hg rfl dX12_from_118 ?_
      obtain ⟨p7, es⟩ : ∃ y : St, y = p6.sI 1 ((p6.A 28) (x2_2 + 1143).toNatClampNeg) := ⟨_, rfl⟩
      have hw := hw p7 es
      refine v_put (pc := 119) C cfX12 rfl 0 1 (ty := .int) (w' := (fl [bModel E a p7])) rfl (by subst es; rfl) (by decide) wfX12_67 rfl rfl rfl rfl (Nat.le_of_ble_eq_true rfl) dX12_from_119 ?_
      refine v_aload_n (pc := 122) C 1 rfl rfl dX12_from_122 ?_
      refine v_aload_n (pc := 123) C 1 rfl rfl dX12_from_123 ?_
      refine v_get (pc := 124) C cfX12 rfl 0 28 rfl (by decide) wfX12_49 rfl dX12_from_124 ?_
      refine v_iload_n (pc := 127) C 0 rfl rfl dX12_from_127 ?_
      refine v_sipush (pc := 128) C 1144 ks_1144 dX12_from_128 ?_
      refine v_iadd (pc := 131) C dX12_from_131 ?_
      obtain ⟨hg, hw⟩ := hw
      refine v_iald (pc := 132) C 11 rfl hg rfl dX12_from_132 ?_
      obtain ⟨p8, es⟩ : ∃ y : St, y = p7.sI 3 ((p7.A 28) (x2_2 + 1144).toNatClampNeg) := ⟨_, rfl⟩
      have hw := hw p8 es
      refine v_put (pc := 133) C cfX12 rfl 0 3 (ty := .int) (w' := (fl [bModel E a p8])) rfl (by subst es; rfl) (by decide) wfX12_79 rfl rfl rfl rfl (Nat.le_of_ble_eq_true rfl) dX12_from_133 ?_
      refine v_aload_n (pc := 136) C 1 rfl rfl dX12_from_136 ?_
      refine v_aload_n (pc := 137) C 1 rfl rfl dX12_from_137 ?_
      refine v_get (pc := 138) C cfX12 rfl 0 28 rfl (by decide) wfX12_49 rfl dX12_from_138 ?_
      refine v_iload_n (pc := 141) C 0 rfl rfl dX12_from_141 ?_
      refine v_sipush (pc := 142) C 1145 ks_1145 dX12_from_142 ?_
      refine v_iadd (pc := 145) C dX12_from_145 ?_
      obtain ⟨hg, hw⟩ := hw
      refine v_iald (pc := 146) C 11 rfl hg rfl dX12_from_146 ?_
      obtain ⟨p9, es⟩ : ∃ y : St, y = p8.sI 6 ((p8.A 28) (x2_2 + 1145).toNatClampNeg) := ⟨_, rfl⟩
      have hw := hw p9 es
      refine v_put (pc := 147) C cfX12 rfl 0 6 (ty := .int) (w' := (fl [bModel E a p9])) rfl (by subst es; rfl) (by decide) wfX12_70 rfl rfl rfl rfl (Nat.le_of_ble_eq_true rfl) dX12_from_147 ?_
      refine v_iconst (pc := 150) C 1 ki_1 dX12_from_150 ?_
      exact v_ireti (pc := 151) C p9 hA rfl hw dX12_from_151
    · have hw := hw.2 hc
      refine v_aload_n (pc := 24) C 0 rfl rfl dX12_from_24 ?_
      refine v_iconst (pc := 25) C 1 ki_1 dX12_from_25 ?_
      refine v_bipush (pc := 26) C (-3) kb_m3 dX12_from_26 ?_
      refine v_goAi (pc := 28) C (wc' := (fun (u : St) => (fl [bModel E a u]))) (fun _ => rfl) (v_runVA (pc := 28) C [.int 1, .int (-3)] [] (fun sz => ctX12_refuse l E a 1 (-3) p hw sz) mfX12_refuse mvX12_refuse wmX12_52 rfl ⟨Nat.le_of_ble_eq_true rfl, Nat.le_of_ble_eq_true rfl⟩ ⟨rfl, rfl⟩ 0 (ci := 12) (qc := (RX12, TX12, 30)) rfl rfl rfl rfl (Nat.le_of_ble_eq_true rfl) ⟨Nat.zero_le _, Nat.zero_le _⟩ dX12_from_28) (fun r10 p11 hw => ?_)
      exact v_ireti (pc := 31) C p11 hA rfl hw dX12_from_31
  · have hw := hw.2 hc
    refine v_aload_n (pc := 10) C 0 rfl rfl dX12_from_10 ?_
    refine v_goAi (pc := 11) C (wc' := (fun (u : St) => (fl [bModel E a u]))) (fun _ => rfl) (v_runVA (pc := 11) C [] [] (fun sz => ctX12_bad l E a p hw sz) mfX12_bad mvX12_bad wmX12_75 rfl ⟨Nat.le_of_ble_eq_true rfl, Nat.le_of_ble_eq_true rfl⟩ ⟨rfl, rfl⟩ 0 (ci := 12) (qc := (RX12, TX12, 30)) rfl rfl rfl rfl (Nat.le_of_ble_eq_true rfl) ⟨Nat.zero_le _, Nat.zero_le _⟩ dX12_from_11) (fun r12 p13 hw => ?_)
    exact v_ireti (pc := 14) C p13 hA rfl hw dX12_from_14
set_option maxHeartbeats 4000000 in
set_option maxRecDepth 100000 in
theorem ctX12_status (l : Launch) (E : VE) (a : Nat → Nat) (x1 : Int32) (p : St)  {Post : Int32 → St → Prop} (hw : wpX12_status x1 p Post) (sz : Nat) : Met l yX12_status (mW yX12_status cX12_status 2 (some .int)) rmX12_status (CPre E [.ref (a 0), .int x1] sz (fl [bModel E a p])) (CQi E Post (fun u => (fl [bModel E a u])) (fl [bModel E a p]) sz) 0 0 (va_A (fl [bModel E a p]) sz) := by
  refine v_met (by decide) (Nat.le_of_ble_eq_true rfl) ?_
  intro pr e s m below meth c A hsz hA C
  subst hsz
  refine v_iload_n (pc := 0) C 1 rfl rfl dX12_status_0 ?_
  refine v_i2l (pc := 1) C dX12_status_1 ?_
  refine v_lconst (pc := 2) C 0 kl_0 dX12_status_2 ?_
  refine v_ldc2 (pc := 3) C 2 wlX12_258 dX12_status_3 ?_
  refine v_goBi (pc := 6) C (bs := [bModel E a p]) (cs := []) (cs' := (fun (_ : Unit) => [])) (bs' := (fun (_ : Unit) => [bModel E a p])) (w' := (fun (_ : Unit) => (fl [bModel E a p]))) [] rfl rfl (fun _ => rfl) (fun _ => rfl) (fun _ => rfl) (v_runSB (pc := 6) C [.long (x1.toInt64), .long 0, .long 2] [] (fun sz => ctX12_in l E (x1.toInt64) 0 2 hw sz) [] rfl rfl rfl mfX12_in msX12_in wmX12_56 rfl ⟨Nat.le_of_ble_eq_true rfl, Nat.le_of_ble_eq_true rfl⟩ ⟨rfl, rfl⟩ rfl (Nat.le_of_ble_eq_true rfl) ⟨Nat.zero_le _, Nat.zero_le _⟩ dX12_status_6) (fun r1 _ hw => ?_)
  refine v_if_eq (pc := 9) C 21 (by decide) dX12_status_9 (fun hc => ?_) (fun hc => ?_)
  · have hw := hw.1 hc
    refine v_aload_n (pc := 21) C 0 rfl rfl dX12_status_21 ?_
    refine v_iconst (pc := 22) C 0 ki_0 dX12_status_22 ?_
    refine v_iconst (pc := 23) C (-1) ki_m1 dX12_status_23 ?_
    refine v_goAi (pc := 24) C (wc' := (fun (u : St) => (fl [bModel E a u]))) (fun _ => rfl) (v_runVA (pc := 24) C [.int 0, .int (-1)] [] (fun sz => ctX12_refuse l E a 0 (-1) p hw sz) mfX12_refuse mvX12_refuse wmX12_52 rfl ⟨Nat.le_of_ble_eq_true rfl, Nat.le_of_ble_eq_true rfl⟩ ⟨rfl, rfl⟩ 0 (ci := 12) (qc := (RX12, TX12, 30)) rfl rfl rfl rfl (Nat.le_of_ble_eq_true rfl) ⟨Nat.zero_le _, Nat.zero_le _⟩ dX12_status_24) (fun r2 p3 hw => ?_)
    exact v_ireti (pc := 27) C p3 hA rfl hw dX12_status_27
  · have hw := hw.2 hc
    refine v_aload_n (pc := 12) C 0 rfl rfl dX12_status_12 ?_
    refine v_get (pc := 13) C cfX12 rfl 0 9 rfl (by decide) wfX12_27 rfl dX12_status_13 ?_
    refine v_iload_n (pc := 16) C 1 rfl rfl dX12_status_16 ?_
    obtain ⟨hg, hw⟩ := hw
    refine v_iald (pc := 17) C 4 rfl hg rfl dX12_status_17 ?_
    refine v_goto (pc := 18) C 27 (by decide) dX12_status_18 ?_
    exact v_ireti (pc := 27) C p hA rfl hw dX12_status_27
set_option maxHeartbeats 4000000 in
set_option maxRecDepth 100000 in
theorem ctX12_countOf (l : Launch) (E : VE) (a : Nat → Nat) (x1 : Int32) (p : St)  {Post : Int32 → Prop} (hw : wpX12_countOf x1 p Post) (sz : Nat) : Met l yX12_countOf (mW yX12_countOf cX12_countOf 2 (some .int)) rmX12_countOf (CPre E [.ref (a 0), .int x1] sz (fl [bModel E a p])) (CQi E (fun (z : Int32) (_ : Unit) => Post z) (fun _ => (fl [bModel E a p])) (fl [bModel E a p]) sz) 0 0 (va_A (fl [bModel E a p]) sz) := by
  refine v_met (by decide) (Nat.le_of_ble_eq_true rfl) ?_
  intro pr e s m below meth c A hsz hA C
  subst hsz
  refine v_iload_n (pc := 0) C 1 rfl rfl dX12_countOf_0 ?_
  refine v_if_ne (pc := 1) C 11 (by decide) dX12_countOf_1 (fun hc => ?_) (fun hc => ?_)
  · have hw := hw.1 hc
    refine v_iload_n (pc := 11) C 1 rfl rfl dX12_countOf_11 ?_
    refine v_iconst (pc := 12) C 1 ki_1 dX12_countOf_12 ?_
    refine v_icmp_ne (pc := 13) C 26 (by decide) dX12_countOf_13 (fun hc => ?_) (fun hc => ?_)
    · have hw := hw.1 hc
      refine v_iload_n (pc := 26) C 1 rfl rfl dX12_countOf_26 ?_
      refine v_iconst (pc := 27) C 2 ki_2 dX12_countOf_27 ?_
      refine v_icmp_ne (pc := 28) C 41 (by decide) dX12_countOf_28 (fun hc => ?_) (fun hc => ?_)
      · have hw := hw.1 hc
        refine v_iload_n (pc := 41) C 1 rfl rfl dX12_countOf_41 ?_
        refine v_iconst (pc := 42) C 3 ki_3 dX12_countOf_42 ?_
        refine v_icmp_ne (pc := 43) C 53 (by decide) dX12_countOf_43 (fun hc => ?_) (fun hc => ?_)
        · have hw := hw.1 hc
          refine v_iload_n (pc := 53) C 1 rfl rfl dX12_countOf_53 ?_
          refine v_iconst (pc := 54) C 4 ki_4 dX12_countOf_54 ?_
          refine v_icmp_ne (pc := 55) C 65 (by decide) dX12_countOf_55 (fun hc => ?_) (fun hc => ?_)
          · have hw := hw.1 hc
            refine v_iload_n (pc := 65) C 1 rfl rfl dX12_countOf_65 ?_
            refine v_iconst (pc := 66) C 5 ki_5 dX12_countOf_66 ?_
            refine v_icmp_ne (pc := 67) C 77 (by decide) dX12_countOf_67 (fun hc => ?_) (fun hc => ?_)
            · have hw := hw.1 hc
              refine v_aload_n (pc := 77) C 0 rfl rfl dX12_countOf_77 ?_
              refine v_get (pc := 78) C cfX12 rfl 0 11 rfl (by decide) wfX12_114 rfl dX12_countOf_78 ?_
              exact v_ireti (pc := 81) C () hA rfl hw dX12_countOf_81
            · have hw := hw.2 hc
              refine v_aload_n (pc := 70) C 0 rfl rfl dX12_countOf_70 ?_
              refine v_get (pc := 71) C cfX12 rfl 0 6 rfl (by decide) wfX12_70 rfl dX12_countOf_71 ?_
              refine v_goto (pc := 74) C 81 (by decide) dX12_countOf_74 ?_
              exact v_ireti (pc := 81) C () hA rfl hw dX12_countOf_81
          · have hw := hw.2 hc
            refine v_aload_n (pc := 58) C 0 rfl rfl dX12_countOf_58 ?_
            refine v_get (pc := 59) C cfX12 rfl 0 1 rfl (by decide) wfX12_67 rfl dX12_countOf_59 ?_
            refine v_goto (pc := 62) C 81 (by decide) dX12_countOf_62 ?_
            exact v_ireti (pc := 81) C () hA rfl hw dX12_countOf_81
        · have hw := hw.2 hc
          refine v_aload_n (pc := 46) C 0 rfl rfl dX12_countOf_46 ?_
          refine v_get (pc := 47) C cfX12 rfl 0 3 rfl (by decide) wfX12_79 rfl dX12_countOf_47 ?_
          refine v_goto (pc := 50) C 81 (by decide) dX12_countOf_50 ?_
          exact v_ireti (pc := 81) C () hA rfl hw dX12_countOf_81
      · have hw := hw.2 hc
        refine v_aload_n (pc := 31) C 0 rfl rfl dX12_countOf_31 ?_
        refine v_get (pc := 32) C cfX12 rfl 0 4 rfl (by decide) wfX12_17 rfl dX12_countOf_32 ?_
        refine v_bipush (pc := 35) C 124 kb_124 dX12_countOf_35 ?_
        refine v_iald (pc := 37) C 2 rfl vi_124_126 tn_124 dX12_countOf_37 ?_
        refine v_goto (pc := 38) C 81 (by decide) dX12_countOf_38 ?_
        exact v_ireti (pc := 81) C () hA rfl hw dX12_countOf_81
    · have hw := hw.2 hc
      refine v_aload_n (pc := 16) C 0 rfl rfl dX12_countOf_16 ?_
      refine v_get (pc := 17) C cfX12 rfl 0 4 rfl (by decide) wfX12_17 rfl dX12_countOf_17 ?_
      refine v_bipush (pc := 20) C 125 kb_125 dX12_countOf_20 ?_
      refine v_iald (pc := 22) C 2 rfl vi_125_126 tn_125 dX12_countOf_22 ?_
      refine v_goto (pc := 23) C 81 (by decide) dX12_countOf_23 ?_
      exact v_ireti (pc := 81) C () hA rfl hw dX12_countOf_81
  · have hw := hw.2 hc
    refine v_aload_n (pc := 4) C 0 rfl rfl dX12_countOf_4 ?_
    refine v_get (pc := 5) C cfX12 rfl 0 0 rfl (by decide) wfX12_7 rfl dX12_countOf_5 ?_
    refine v_goto (pc := 8) C 81 (by decide) dX12_countOf_8 ?_
    exact v_ireti (pc := 81) C () hA rfl hw dX12_countOf_81
set_option maxHeartbeats 4000000 in
set_option maxRecDepth 100000 in
theorem ctX12_count (l : Launch) (E : VE) (a : Nat → Nat) (x1 : Int32) (p : St)  {Post : Int32 → St → Prop} (hw : wpX12_count x1 p Post) (sz : Nat) : Met l yX12_count (mW yX12_count cX12_count 2 (some .int)) rmX12_count (CPre E [.ref (a 0), .int x1] sz (fl [bModel E a p])) (CQi E Post (fun u => (fl [bModel E a u])) (fl [bModel E a p]) sz) 0 0 (va_A (fl [bModel E a p]) sz) := by
  refine v_met (by decide) (Nat.le_of_ble_eq_true rfl) ?_
  intro pr e s m below meth c A hsz hA C
  subst hsz
  refine v_iload_n (pc := 0) C 1 rfl rfl dX12_count_0 ?_
  refine v_i2l (pc := 1) C dX12_count_1 ?_
  refine v_lconst (pc := 2) C 0 kl_0 dX12_count_2 ?_
  refine v_ldc2 (pc := 3) C 6 wlX12_73 dX12_count_3 ?_
  refine v_goBi (pc := 6) C (bs := [bModel E a p]) (cs := []) (cs' := (fun (_ : Unit) => [])) (bs' := (fun (_ : Unit) => [bModel E a p])) (w' := (fun (_ : Unit) => (fl [bModel E a p]))) [] rfl rfl (fun _ => rfl) (fun _ => rfl) (fun _ => rfl) (v_runSB (pc := 6) C [.long (x1.toInt64), .long 0, .long 6] [] (fun sz => ctX12_in l E (x1.toInt64) 0 6 hw sz) [] rfl rfl rfl mfX12_in msX12_in wmX12_56 rfl ⟨Nat.le_of_ble_eq_true rfl, Nat.le_of_ble_eq_true rfl⟩ ⟨rfl, rfl⟩ rfl (Nat.le_of_ble_eq_true rfl) ⟨Nat.zero_le _, Nat.zero_le _⟩ dX12_count_6) (fun r1 _ hw => ?_)
  refine v_if_eq (pc := 9) C 20 (by decide) dX12_count_9 (fun hc => ?_) (fun hc => ?_)
  · have hw := hw.1 hc
    refine v_aload_n (pc := 20) C 0 rfl rfl dX12_count_20 ?_
    refine v_goAi (pc := 21) C (wc' := (fun (u : St) => (fl [bModel E a u]))) (fun _ => rfl) (v_runVA (pc := 21) C [] [] (fun sz => ctX12_bad l E a p hw sz) mfX12_bad mvX12_bad wmX12_75 rfl ⟨Nat.le_of_ble_eq_true rfl, Nat.le_of_ble_eq_true rfl⟩ ⟨rfl, rfl⟩ 0 (ci := 12) (qc := (RX12, TX12, 30)) rfl rfl rfl rfl (Nat.le_of_ble_eq_true rfl) ⟨Nat.zero_le _, Nat.zero_le _⟩ dX12_count_21) (fun r2 p3 hw => ?_)
    exact v_ireti (pc := 24) C p3 hA rfl hw dX12_count_24
  · have hw := hw.2 hc
    refine v_aload_n (pc := 12) C 0 rfl rfl dX12_count_12 ?_
    refine v_iload_n (pc := 13) C 1 rfl rfl dX12_count_13 ?_
    refine v_goAi (pc := 14) C (wc' := (fun (_ : Unit) => (fl [bModel E a p]))) (fun _ => rfl) (v_runVA (pc := 14) C [.int x1] [] (fun sz => ctX12_countOf l E a x1 p hw sz) mfX12_countOf mvX12_countOf wmX12_260 rfl ⟨Nat.le_of_ble_eq_true rfl, Nat.le_of_ble_eq_true rfl⟩ ⟨rfl, rfl⟩ 0 (ci := 12) (qc := (RX12, TX12, 30)) rfl rfl rfl rfl (Nat.le_of_ble_eq_true rfl) ⟨Nat.zero_le _, Nat.zero_le _⟩ dX12_count_14) (fun r4 _ hw => ?_)
    refine v_goto (pc := 17) C 24 (by decide) dX12_count_17 ?_
    exact v_ireti (pc := 24) C p hA rfl hw dX12_count_24
end

section
variable {pr : Program} {l : Launch} {e : Env} {s : State} {m : MethodId} {args : Array Value} {below : List Frame} {meth : Method} {c : Code} {E : VE} {A : Nat → Prop} {w0 : va_W}
theorem dX11_shown_0 : decode cX11_shown 0 = .ok (.aload_n 0, 1) := by decide +kernel
theorem dX11_shown_1 : decode cX11_shown 1 = .ok (.getfield 19, 3) := by decide +kernel
theorem dX11_shown_4 : decode cX11_shown 4 = .ok (.iload_n 1, 1) := by decide +kernel
theorem dX11_shown_5 : decode cX11_shown 5 = .ok (.invokevirtual 155, 3) := by decide +kernel
theorem dX11_shown_8 : decode cX11_shown 8 = .ok (.ifCond .eq 14, 3) := by decide +kernel
theorem dX11_shown_11 : decode cX11_shown 11 = .ok (.iload_n 2, 1) := by decide +kernel
theorem dX11_shown_12 : decode cX11_shown 12 = .ok (.iconst 1, 1) := by decide +kernel
theorem dX11_shown_13 : decode cX11_shown 13 = .ok (.if_icmp .lt 9, 3) := by decide +kernel
theorem dX11_shown_16 : decode cX11_shown 16 = .ok (.iload_n 2, 1) := by decide +kernel
theorem dX11_shown_17 : decode cX11_shown 17 = .ok (.bipush 9, 2) := by decide +kernel
theorem dX11_shown_19 : decode cX11_shown 19 = .ok (.if_icmp .le 10, 3) := by decide +kernel
theorem dX11_shown_22 : decode cX11_shown 22 = .ok (.aload_n 0, 1) := by decide +kernel
theorem dX11_shown_23 : decode cX11_shown 23 = .ok (.bipush (-2), 2) := by decide +kernel
theorem dX11_shown_25 : decode cX11_shown 25 = .ok (.invokevirtual 77, 3) := by decide +kernel
theorem dX11_shown_28 : decode cX11_shown 28 = .ok (.ireturn, 1) := by decide +kernel
theorem dX11_shown_29 : decode cX11_shown 29 = .ok (.aload_n 0, 1) := by decide +kernel
theorem dX11_shown_30 : decode cX11_shown 30 = .ok (.getfield 19, 3) := by decide +kernel
theorem dX11_shown_33 : decode cX11_shown 33 = .ok (.iload_n 1, 1) := by decide +kernel
theorem dX11_shown_34 : decode cX11_shown 34 = .ok (.iload_n 2, 1) := by decide +kernel
theorem dX11_shown_35 : decode cX11_shown 35 = .ok (.invokevirtual 208, 3) := by decide +kernel
theorem dX11_shown_38 : decode cX11_shown 38 = .ok (.ireturn, 1) := by decide +kernel
theorem dJ6_bitCount_0f7a4_0 : decode cJ6_bitCount_0f7a4 0 = .ok (.iload_n 0, 1) := by decide +kernel
theorem dJ6_bitCount_0f7a4_1 : decode cJ6_bitCount_0f7a4 1 = .ok (.iload_n 0, 1) := by decide +kernel
theorem dJ6_bitCount_0f7a4_2 : decode cJ6_bitCount_0f7a4 2 = .ok (.iconst 1, 1) := by decide +kernel
theorem dJ6_bitCount_0f7a4_3 : decode cJ6_bitCount_0f7a4 3 = .ok (.iushr, 1) := by decide +kernel
theorem dJ6_bitCount_0f7a4_4 : decode cJ6_bitCount_0f7a4 4 = .ok (.ldc_w 265, 3) := by decide +kernel
theorem dJ6_bitCount_0f7a4_7 : decode cJ6_bitCount_0f7a4 7 = .ok (.iand, 1) := by decide +kernel
theorem dJ6_bitCount_0f7a4_8 : decode cJ6_bitCount_0f7a4 8 = .ok (.isub, 1) := by decide +kernel
theorem dJ6_bitCount_0f7a4_9 : decode cJ6_bitCount_0f7a4 9 = .ok (.istore_n 0, 1) := by decide +kernel
theorem dJ6_bitCount_0f7a4_10 : decode cJ6_bitCount_0f7a4 10 = .ok (.iload_n 0, 1) := by decide +kernel
theorem dJ6_bitCount_0f7a4_11 : decode cJ6_bitCount_0f7a4 11 = .ok (.ldc_w 266, 3) := by decide +kernel
theorem dJ6_bitCount_0f7a4_14 : decode cJ6_bitCount_0f7a4 14 = .ok (.iand, 1) := by decide +kernel
theorem dJ6_bitCount_0f7a4_15 : decode cJ6_bitCount_0f7a4 15 = .ok (.iload_n 0, 1) := by decide +kernel
theorem dJ6_bitCount_0f7a4_16 : decode cJ6_bitCount_0f7a4 16 = .ok (.iconst 2, 1) := by decide +kernel
theorem dJ6_bitCount_0f7a4_17 : decode cJ6_bitCount_0f7a4 17 = .ok (.iushr, 1) := by decide +kernel
theorem dJ6_bitCount_0f7a4_18 : decode cJ6_bitCount_0f7a4 18 = .ok (.ldc_w 266, 3) := by decide +kernel
theorem dJ6_bitCount_0f7a4_21 : decode cJ6_bitCount_0f7a4 21 = .ok (.iand, 1) := by decide +kernel
theorem dJ6_bitCount_0f7a4_22 : decode cJ6_bitCount_0f7a4 22 = .ok (.iadd, 1) := by decide +kernel
theorem dJ6_bitCount_0f7a4_23 : decode cJ6_bitCount_0f7a4 23 = .ok (.istore_n 0, 1) := by decide +kernel
theorem dJ6_bitCount_0f7a4_24 : decode cJ6_bitCount_0f7a4 24 = .ok (.iload_n 0, 1) := by decide +kernel
theorem dJ6_bitCount_0f7a4_25 : decode cJ6_bitCount_0f7a4 25 = .ok (.iload_n 0, 1) := by decide +kernel
theorem dJ6_bitCount_0f7a4_26 : decode cJ6_bitCount_0f7a4 26 = .ok (.iconst 4, 1) := by decide +kernel
theorem dJ6_bitCount_0f7a4_27 : decode cJ6_bitCount_0f7a4 27 = .ok (.iushr, 1) := by decide +kernel
theorem dJ6_bitCount_0f7a4_28 : decode cJ6_bitCount_0f7a4 28 = .ok (.iadd, 1) := by decide +kernel
theorem dJ6_bitCount_0f7a4_29 : decode cJ6_bitCount_0f7a4 29 = .ok (.ldc_w 267, 3) := by decide +kernel
theorem dJ6_bitCount_0f7a4_32 : decode cJ6_bitCount_0f7a4 32 = .ok (.iand, 1) := by decide +kernel
theorem dJ6_bitCount_0f7a4_33 : decode cJ6_bitCount_0f7a4 33 = .ok (.istore_n 0, 1) := by decide +kernel
theorem dJ6_bitCount_0f7a4_34 : decode cJ6_bitCount_0f7a4 34 = .ok (.iload_n 0, 1) := by decide +kernel
theorem dJ6_bitCount_0f7a4_35 : decode cJ6_bitCount_0f7a4 35 = .ok (.iload_n 0, 1) := by decide +kernel
theorem dJ6_bitCount_0f7a4_36 : decode cJ6_bitCount_0f7a4 36 = .ok (.bipush 8, 2) := by decide +kernel
theorem dJ6_bitCount_0f7a4_38 : decode cJ6_bitCount_0f7a4 38 = .ok (.iushr, 1) := by decide +kernel
theorem dJ6_bitCount_0f7a4_39 : decode cJ6_bitCount_0f7a4 39 = .ok (.iadd, 1) := by decide +kernel
theorem dJ6_bitCount_0f7a4_40 : decode cJ6_bitCount_0f7a4 40 = .ok (.istore_n 0, 1) := by decide +kernel
theorem dJ6_bitCount_0f7a4_41 : decode cJ6_bitCount_0f7a4 41 = .ok (.iload_n 0, 1) := by decide +kernel
theorem dJ6_bitCount_0f7a4_42 : decode cJ6_bitCount_0f7a4 42 = .ok (.iload_n 0, 1) := by decide +kernel
theorem dJ6_bitCount_0f7a4_43 : decode cJ6_bitCount_0f7a4 43 = .ok (.bipush 16, 2) := by decide +kernel
theorem dJ6_bitCount_0f7a4_45 : decode cJ6_bitCount_0f7a4 45 = .ok (.iushr, 1) := by decide +kernel
theorem dJ6_bitCount_0f7a4_46 : decode cJ6_bitCount_0f7a4 46 = .ok (.iadd, 1) := by decide +kernel
theorem dJ6_bitCount_0f7a4_47 : decode cJ6_bitCount_0f7a4 47 = .ok (.istore_n 0, 1) := by decide +kernel
theorem dJ6_bitCount_0f7a4_48 : decode cJ6_bitCount_0f7a4 48 = .ok (.iload_n 0, 1) := by decide +kernel
theorem dJ6_bitCount_0f7a4_49 : decode cJ6_bitCount_0f7a4 49 = .ok (.bipush 63, 2) := by decide +kernel
theorem dJ6_bitCount_0f7a4_51 : decode cJ6_bitCount_0f7a4 51 = .ok (.iand, 1) := by decide +kernel
theorem dJ6_bitCount_0f7a4_52 : decode cJ6_bitCount_0f7a4 52 = .ok (.ireturn, 1) := by decide +kernel
theorem dX11_wordsThatFit_0 : decode cX11_wordsThatFit 0 = .ok (.iconst 0, 1) := by decide +kernel
theorem dX11_wordsThatFit_1 : decode cX11_wordsThatFit 1 = .ok (.istore_n 1, 1) := by decide +kernel
theorem dX11_wordsThatFit_2 : decode cX11_wordsThatFit 2 = .ok (.iconst 0, 1) := by decide +kernel
theorem dX11_wordsThatFit_3 : decode cX11_wordsThatFit 3 = .ok (.istore_n 2, 1) := by decide +kernel
theorem dX11_wordsThatFit_4 : decode cX11_wordsThatFit 4 = .ok (.iload_n 2, 1) := by decide +kernel
theorem dX11_wordsThatFit_5 : decode cX11_wordsThatFit 5 = .ok (.aload_n 0, 1) := by decide +kernel
theorem dX11_wordsThatFit_6 : decode cX11_wordsThatFit 6 = .ok (.getfield 19, 3) := by decide +kernel
theorem dX11_wordsThatFit_9 : decode cX11_wordsThatFit 9 = .ok (.getfield 132, 3) := by decide +kernel
theorem dX11_wordsThatFit_12 : decode cX11_wordsThatFit 12 = .ok (.if_icmp .ge 34, 3) := by decide +kernel
theorem dX11_wordsThatFit_15 : decode cX11_wordsThatFit 15 = .ok (.aload_n 0, 1) := by decide +kernel
theorem dX11_wordsThatFit_16 : decode cX11_wordsThatFit 16 = .ok (.getfield 35, 3) := by decide +kernel
theorem dX11_wordsThatFit_19 : decode cX11_wordsThatFit 19 = .ok (.aload_n 0, 1) := by decide +kernel
theorem dX11_wordsThatFit_20 : decode cX11_wordsThatFit 20 = .ok (.getfield 19, 3) := by decide +kernel
theorem dX11_wordsThatFit_23 : decode cX11_wordsThatFit 23 = .ok (.getfield 135, 3) := by decide +kernel
theorem dX11_wordsThatFit_26 : decode cX11_wordsThatFit 26 = .ok (.iload_n 2, 1) := by decide +kernel
theorem dX11_wordsThatFit_27 : decode cX11_wordsThatFit 27 = .ok (.iaload, 1) := by decide +kernel
theorem dX11_wordsThatFit_28 : decode cX11_wordsThatFit 28 = .ok (.invokevirtual 235, 3) := by decide +kernel
theorem dX11_wordsThatFit_31 : decode cX11_wordsThatFit 31 = .ok (.ifCond .eq 9, 3) := by decide +kernel
theorem dX11_wordsThatFit_34 : decode cX11_wordsThatFit 34 = .ok (.iload_n 1, 1) := by decide +kernel
theorem dX11_wordsThatFit_35 : decode cX11_wordsThatFit 35 = .ok (.iconst 1, 1) := by decide +kernel
theorem dX11_wordsThatFit_36 : decode cX11_wordsThatFit 36 = .ok (.iload_n 2, 1) := by decide +kernel
theorem dX11_wordsThatFit_37 : decode cX11_wordsThatFit 37 = .ok (.ishl, 1) := by decide +kernel
theorem dX11_wordsThatFit_38 : decode cX11_wordsThatFit 38 = .ok (.ior, 1) := by decide +kernel
theorem dX11_wordsThatFit_39 : decode cX11_wordsThatFit 39 = .ok (.istore_n 1, 1) := by decide +kernel
theorem dX11_wordsThatFit_40 : decode cX11_wordsThatFit 40 = .ok (.iinc 2 1, 3) := by decide +kernel
theorem dX11_wordsThatFit_43 : decode cX11_wordsThatFit 43 = .ok (.goto (-39), 3) := by decide +kernel
theorem dX11_wordsThatFit_46 : decode cX11_wordsThatFit 46 = .ok (.iload_n 1, 1) := by decide +kernel
theorem dX11_wordsThatFit_47 : decode cX11_wordsThatFit 47 = .ok (.ireturn, 1) := by decide +kernel
theorem dX11_lost_0 : decode cX11_lost 0 = .ok (.aload_n 0, 1) := by decide +kernel
theorem dX11_lost_1 : decode cX11_lost 1 = .ok (.getfield 19, 3) := by decide +kernel
theorem dX11_lost_4 : decode cX11_lost 4 = .ok (.iload_n 1, 1) := by decide +kernel
theorem dX11_lost_5 : decode cX11_lost 5 = .ok (.invokevirtual 155, 3) := by decide +kernel
theorem dX11_lost_8 : decode cX11_lost 8 = .ok (.ifCond .eq 27, 3) := by decide +kernel
theorem dX11_lost_11 : decode cX11_lost 11 = .ok (.aload_n 0, 1) := by decide +kernel
theorem dX11_lost_12 : decode cX11_lost 12 = .ok (.getfield 19, 3) := by decide +kernel
theorem dX11_lost_15 : decode cX11_lost 15 = .ok (.iload_n 2, 1) := by decide +kernel
theorem dX11_lost_16 : decode cX11_lost 16 = .ok (.invokevirtual 211, 3) := by decide +kernel
theorem dX11_lost_19 : decode cX11_lost 19 = .ok (.ifCond .eq 16, 3) := by decide +kernel
theorem dX11_lost_22 : decode cX11_lost 22 = .ok (.iload_n 3, 1) := by decide +kernel
theorem dX11_lost_23 : decode cX11_lost 23 = .ok (.iload 4, 2) := by decide +kernel
theorem dX11_lost_25 : decode cX11_lost 25 = .ok (.invokestatic 95, 3) := by decide +kernel
theorem dX11_lost_28 : decode cX11_lost 28 = .ok (.ifCond .eq 7, 3) := by decide +kernel
theorem dX11_lost_31 : decode cX11_lost 31 = .ok (.iconst 1, 1) := by decide +kernel
theorem dX11_lost_32 : decode cX11_lost 32 = .ok (.goto 4, 3) := by decide +kernel
theorem dX11_lost_35 : decode cX11_lost 35 = .ok (.iconst 0, 1) := by decide +kernel
theorem dX11_lost_36 : decode cX11_lost 36 = .ok (.istore 7, 2) := by decide +kernel
theorem dX11_lost_38 : decode cX11_lost 38 = .ok (.iload 7, 2) := by decide +kernel
theorem dX11_lost_40 : decode cX11_lost 40 = .ok (.ifCond .eq 22, 3) := by decide +kernel
theorem dX11_lost_43 : decode cX11_lost 43 = .ok (.iload 5, 2) := by decide +kernel
theorem dX11_lost_45 : decode cX11_lost 45 = .ok (.invokestatic 195, 3) := by decide +kernel
theorem dX11_lost_48 : decode cX11_lost 48 = .ok (.ifCond .eq 14, 3) := by decide +kernel
theorem dX11_lost_51 : decode cX11_lost 51 = .ok (.iload 6, 2) := by decide +kernel
theorem dX11_lost_53 : decode cX11_lost 53 = .ok (.ifCond .lt 9, 3) := by decide +kernel
theorem dX11_lost_56 : decode cX11_lost 56 = .ok (.iload 6, 2) := by decide +kernel
theorem dX11_lost_58 : decode cX11_lost 58 = .ok (.iconst 3, 1) := by decide +kernel
theorem dX11_lost_59 : decode cX11_lost 59 = .ok (.if_icmp .le 10, 3) := by decide +kernel
theorem dX11_lost_62 : decode cX11_lost 62 = .ok (.aload_n 0, 1) := by decide +kernel
theorem dX11_lost_63 : decode cX11_lost 63 = .ok (.bipush (-10), 2) := by decide +kernel
theorem dX11_lost_65 : decode cX11_lost 65 = .ok (.invokevirtual 77, 3) := by decide +kernel
theorem dX11_lost_68 : decode cX11_lost 68 = .ok (.ireturn, 1) := by decide +kernel
theorem dX11_lost_69 : decode cX11_lost 69 = .ok (.aload_n 0, 1) := by decide +kernel
theorem dX11_lost_70 : decode cX11_lost 70 = .ok (.getfield 35, 3) := by decide +kernel
theorem dX11_lost_73 : decode cX11_lost 73 = .ok (.aload_n 0, 1) := by decide +kernel
theorem dX11_lost_74 : decode cX11_lost 74 = .ok (.getfield 19, 3) := by decide +kernel
theorem dX11_lost_77 : decode cX11_lost 77 = .ok (.iload_n 1, 1) := by decide +kernel
theorem dX11_lost_78 : decode cX11_lost 78 = .ok (.iload_n 2, 1) := by decide +kernel
theorem dX11_lost_79 : decode cX11_lost 79 = .ok (.invokevirtual 214, 3) := by decide +kernel
theorem dX11_lost_82 : decode cX11_lost 82 = .ok (.aload_n 0, 1) := by decide +kernel
theorem dX11_lost_83 : decode cX11_lost 83 = .ok (.getfield 35, 3) := by decide +kernel
theorem dX11_lost_86 : decode cX11_lost 86 = .ok (.aload_n 0, 1) := by decide +kernel
theorem dX11_lost_87 : decode cX11_lost 87 = .ok (.getfield 12, 3) := by decide +kernel
theorem dX11_lost_90 : decode cX11_lost 90 = .ok (.iload_n 3, 1) := by decide +kernel
theorem dX11_lost_91 : decode cX11_lost 91 = .ok (.iload 4, 2) := by decide +kernel
theorem dX11_lost_93 : decode cX11_lost 93 = .ok (.iload 5, 2) := by decide +kernel
theorem dX11_lost_95 : decode cX11_lost 95 = .ok (.invokevirtual 198, 3) := by decide +kernel
theorem dX11_lost_98 : decode cX11_lost 98 = .ok (.invokevirtual 218, 3) := by decide +kernel
theorem dX11_lost_101 : decode cX11_lost 101 = .ok (.istore 8, 2) := by decide +kernel
theorem dX11_lost_103 : decode cX11_lost 103 = .ok (.iload 8, 2) := by decide +kernel
theorem dX11_lost_105 : decode cX11_lost 105 = .ok (.ifCond .ne 15, 3) := by decide +kernel
theorem dX11_lost_108 : decode cX11_lost 108 = .ok (.iload 6, 2) := by decide +kernel
theorem dX11_lost_110 : decode cX11_lost 110 = .ok (.iconst 2, 1) := by decide +kernel
theorem dX11_lost_111 : decode cX11_lost 111 = .ok (.if_icmp .ge 7, 3) := by decide +kernel
theorem dX11_lost_114 : decode cX11_lost 114 = .ok (.iconst (-1), 1) := by decide +kernel
theorem dX11_lost_115 : decode cX11_lost 115 = .ok (.goto 4, 3) := by decide +kernel
theorem dX11_lost_118 : decode cX11_lost 118 = .ok (.iconst 0, 1) := by decide +kernel
theorem dX11_lost_119 : decode cX11_lost 119 = .ok (.ireturn, 1) := by decide +kernel
theorem dX11_lost_120 : decode cX11_lost 120 = .ok (.iload 6, 2) := by decide +kernel
theorem dX11_lost_122 : decode cX11_lost 122 = .ok (.tableswitch 65 0 2 #[26, 34, 42], 26) := by decide +kernel
theorem dX11_lost_148 : decode cX11_lost 148 = .ok (.aload_n 0, 1) := by decide +kernel
theorem dX11_lost_149 : decode cX11_lost 149 = .ok (.getfield 35, 3) := by decide +kernel
theorem dX11_lost_152 : decode cX11_lost 152 = .ok (.getfield 221, 3) := by decide +kernel
theorem dX11_lost_155 : decode cX11_lost 155 = .ok (.ireturn, 1) := by decide +kernel
theorem dX11_lost_156 : decode cX11_lost 156 = .ok (.aload_n 0, 1) := by decide +kernel
theorem dX11_lost_157 : decode cX11_lost 157 = .ok (.getfield 35, 3) := by decide +kernel
theorem dX11_lost_160 : decode cX11_lost 160 = .ok (.getfield 224, 3) := by decide +kernel
theorem dX11_lost_163 : decode cX11_lost 163 = .ok (.ireturn, 1) := by decide +kernel
theorem dX11_lost_164 : decode cX11_lost 164 = .ok (.iconst 1, 1) := by decide +kernel
theorem dX11_lost_165 : decode cX11_lost 165 = .ok (.aload_n 0, 1) := by decide +kernel
theorem dX11_lost_166 : decode cX11_lost 166 = .ok (.getfield 35, 3) := by decide +kernel
theorem dX11_lost_169 : decode cX11_lost 169 = .ok (.getfield 224, 3) := by decide +kernel
theorem dX11_lost_172 : decode cX11_lost 172 = .ok (.aload_n 0, 1) := by decide +kernel
theorem dX11_lost_173 : decode cX11_lost 173 = .ok (.getfield 35, 3) := by decide +kernel
theorem dX11_lost_176 : decode cX11_lost 176 = .ok (.getfield 221, 3) := by decide +kernel
theorem dX11_lost_179 : decode cX11_lost 179 = .ok (.iconst (-1), 1) := by decide +kernel
theorem dX11_lost_180 : decode cX11_lost 180 = .ok (.ixor, 1) := by decide +kernel
theorem dX11_lost_181 : decode cX11_lost 181 = .ok (.iand, 1) := by decide +kernel
theorem dX11_lost_182 : decode cX11_lost 182 = .ok (.invokestatic 227, 3) := by decide +kernel
theorem dX11_lost_185 : decode cX11_lost 185 = .ok (.ishl, 1) := by decide +kernel
theorem dX11_lost_186 : decode cX11_lost 186 = .ok (.ireturn, 1) := by decide +kernel
theorem dX11_lost_187 : decode cX11_lost 187 = .ok (.aload_n 0, 1) := by decide +kernel
theorem dX11_lost_188 : decode cX11_lost 188 = .ok (.invokevirtual 232, 3) := by decide +kernel
theorem dX11_lost_191 : decode cX11_lost 191 = .ok (.ireturn, 1) := by decide +kernel
theorem dX11_pen_0 : decode cX11_pen 0 = .ok (.aload_n 0, 1) := by decide +kernel
theorem dX11_pen_1 : decode cX11_pen 1 = .ok (.getfield 19, 3) := by decide +kernel
theorem dX11_pen_4 : decode cX11_pen 4 = .ok (.iload_n 1, 1) := by decide +kernel
theorem dX11_pen_5 : decode cX11_pen 5 = .ok (.invokevirtual 155, 3) := by decide +kernel
theorem dX11_pen_8 : decode cX11_pen 8 = .ok (.ifCond .eq 25, 3) := by decide +kernel
theorem dX11_pen_11 : decode cX11_pen 11 = .ok (.aload_n 0, 1) := by decide +kernel
theorem dX11_pen_12 : decode cX11_pen 12 = .ok (.getfield 19, 3) := by decide +kernel
theorem dX11_pen_15 : decode cX11_pen 15 = .ok (.iload_n 2, 1) := by decide +kernel
theorem dX11_pen_16 : decode cX11_pen 16 = .ok (.invokevirtual 211, 3) := by decide +kernel
theorem dX11_pen_19 : decode cX11_pen 19 = .ok (.ifCond .eq 14, 3) := by decide +kernel
theorem dX11_pen_22 : decode cX11_pen 22 = .ok (.iload_n 3, 1) := by decide +kernel
theorem dX11_pen_23 : decode cX11_pen 23 = .ok (.invokestatic 195, 3) := by decide +kernel
theorem dX11_pen_26 : decode cX11_pen 26 = .ok (.ifCond .eq 7, 3) := by decide +kernel
theorem dX11_pen_29 : decode cX11_pen 29 = .ok (.iconst 1, 1) := by decide +kernel
theorem dX11_pen_30 : decode cX11_pen 30 = .ok (.goto 4, 3) := by decide +kernel
theorem dX11_pen_33 : decode cX11_pen 33 = .ok (.iconst 0, 1) := by decide +kernel
theorem dX11_pen_34 : decode cX11_pen 34 = .ok (.istore 6, 2) := by decide +kernel
theorem dX11_pen_36 : decode cX11_pen 36 = .ok (.iload 6, 2) := by decide +kernel
theorem dX11_pen_38 : decode cX11_pen 38 = .ok (.ifCond .eq 27, 3) := by decide +kernel
theorem dX11_pen_41 : decode cX11_pen 41 = .ok (.iload 4, 2) := by decide +kernel
theorem dX11_pen_43 : decode cX11_pen 43 = .ok (.invokestatic 99, 3) := by decide +kernel
theorem dX11_pen_46 : decode cX11_pen 46 = .ok (.ifCond .eq 19, 3) := by decide +kernel
theorem dX11_pen_49 : decode cX11_pen 49 = .ok (.iload 4, 2) := by decide +kernel
theorem dX11_pen_51 : decode cX11_pen 51 = .ok (.ifCond .eq 14, 3) := by decide +kernel
theorem dX11_pen_54 : decode cX11_pen 54 = .ok (.iload 5, 2) := by decide +kernel
theorem dX11_pen_56 : decode cX11_pen 56 = .ok (.ifCond .lt 9, 3) := by decide +kernel
theorem dX11_pen_59 : decode cX11_pen 59 = .ok (.iload 5, 2) := by decide +kernel
theorem dX11_pen_61 : decode cX11_pen 61 = .ok (.iconst 1, 1) := by decide +kernel
theorem dX11_pen_62 : decode cX11_pen 62 = .ok (.if_icmp .le 10, 3) := by decide +kernel
theorem dX11_pen_65 : decode cX11_pen 65 = .ok (.aload_n 0, 1) := by decide +kernel
theorem dX11_pen_66 : decode cX11_pen 66 = .ok (.bipush (-10), 2) := by decide +kernel
theorem dX11_pen_68 : decode cX11_pen 68 = .ok (.invokevirtual 77, 3) := by decide +kernel
theorem dX11_pen_71 : decode cX11_pen 71 = .ok (.ireturn, 1) := by decide +kernel
theorem dX11_pen_72 : decode cX11_pen 72 = .ok (.aload_n 0, 1) := by decide +kernel
theorem dX11_pen_73 : decode cX11_pen 73 = .ok (.getfield 35, 3) := by decide +kernel
theorem dX11_pen_76 : decode cX11_pen 76 = .ok (.aload_n 0, 1) := by decide +kernel
theorem dX11_pen_77 : decode cX11_pen 77 = .ok (.getfield 19, 3) := by decide +kernel
theorem dX11_pen_80 : decode cX11_pen 80 = .ok (.iload_n 1, 1) := by decide +kernel
theorem dX11_pen_81 : decode cX11_pen 81 = .ok (.iload_n 2, 1) := by decide +kernel
theorem dX11_pen_82 : decode cX11_pen 82 = .ok (.invokevirtual 214, 3) := by decide +kernel
theorem dX11_pen_85 : decode cX11_pen 85 = .ok (.iconst 0, 1) := by decide +kernel
theorem dX11_pen_86 : decode cX11_pen 86 = .ok (.istore 7, 2) := by decide +kernel
theorem dX11_pen_88 : decode cX11_pen 88 = .ok (.iconst (-1), 1) := by decide +kernel
theorem dX11_pen_89 : decode cX11_pen 89 = .ok (.istore 8, 2) := by decide +kernel
theorem dX11_pen_91 : decode cX11_pen 91 = .ok (.iconst 0, 1) := by decide +kernel
theorem dX11_pen_92 : decode cX11_pen 92 = .ok (.istore 9, 2) := by decide +kernel
theorem dX11_pen_94 : decode cX11_pen 94 = .ok (.iload 9, 2) := by decide +kernel
theorem dX11_pen_96 : decode cX11_pen 96 = .ok (.bipush 6, 2) := by decide +kernel
theorem dX11_pen_98 : decode cX11_pen 98 = .ok (.if_icmp .ge 83, 3) := by decide +kernel
theorem dX11_pen_101 : decode cX11_pen 101 = .ok (.iconst 1, 1) := by decide +kernel
theorem dX11_pen_102 : decode cX11_pen 102 = .ok (.istore 10, 2) := by decide +kernel
theorem dX11_pen_104 : decode cX11_pen 104 = .ok (.iload 10, 2) := by decide +kernel
theorem dX11_pen_106 : decode cX11_pen 106 = .ok (.bipush 9, 2) := by decide +kernel
theorem dX11_pen_108 : decode cX11_pen 108 = .ok (.if_icmp .gt 67, 3) := by decide +kernel
theorem dX11_pen_111 : decode cX11_pen 111 = .ok (.aload_n 0, 1) := by decide +kernel
theorem dX11_pen_112 : decode cX11_pen 112 = .ok (.getfield 35, 3) := by decide +kernel
theorem dX11_pen_115 : decode cX11_pen 115 = .ok (.aload_n 0, 1) := by decide +kernel
theorem dX11_pen_116 : decode cX11_pen 116 = .ok (.getfield 12, 3) := by decide +kernel
theorem dX11_pen_119 : decode cX11_pen 119 = .ok (.iload 9, 2) := by decide +kernel
theorem dX11_pen_121 : decode cX11_pen 121 = .ok (.iload 10, 2) := by decide +kernel
theorem dX11_pen_123 : decode cX11_pen 123 = .ok (.iload_n 3, 1) := by decide +kernel
theorem dX11_pen_124 : decode cX11_pen 124 = .ok (.invokevirtual 198, 3) := by decide +kernel
theorem dX11_pen_127 : decode cX11_pen 127 = .ok (.invokevirtual 218, 3) := by decide +kernel
theorem dX11_pen_130 : decode cX11_pen 130 = .ok (.ifCond .eq 39, 3) := by decide +kernel
theorem dX11_pen_133 : decode cX11_pen 133 = .ok (.aload_n 0, 1) := by decide +kernel
theorem dX11_pen_134 : decode cX11_pen 134 = .ok (.getfield 35, 3) := by decide +kernel
theorem dX11_pen_137 : decode cX11_pen 137 = .ok (.iload 4, 2) := by decide +kernel
theorem dX11_pen_139 : decode cX11_pen 139 = .ok (.invokevirtual 235, 3) := by decide +kernel
theorem dX11_pen_142 : decode cX11_pen 142 = .ok (.ifCond .eq 27, 3) := by decide +kernel
theorem dX11_pen_145 : decode cX11_pen 145 = .ok (.iinc 7 1, 3) := by decide +kernel
theorem dX11_pen_148 : decode cX11_pen 148 = .ok (.iload 8, 2) := by decide +kernel
theorem dX11_pen_150 : decode cX11_pen 150 = .ok (.iconst (-1), 1) := by decide +kernel
theorem dX11_pen_151 : decode cX11_pen 151 = .ok (.if_icmp .ne 14, 3) := by decide +kernel
theorem dX11_pen_154 : decode cX11_pen 154 = .ok (.bipush 10, 2) := by decide +kernel
theorem dX11_pen_156 : decode cX11_pen 156 = .ok (.iload 9, 2) := by decide +kernel
theorem dX11_pen_158 : decode cX11_pen 158 = .ok (.imul, 1) := by decide +kernel
theorem dX11_pen_159 : decode cX11_pen 159 = .ok (.iload 10, 2) := by decide +kernel
theorem dX11_pen_161 : decode cX11_pen 161 = .ok (.iadd, 1) := by decide +kernel
theorem dX11_pen_162 : decode cX11_pen 162 = .ok (.goto 5, 3) := by decide +kernel
theorem dX11_pen_165 : decode cX11_pen 165 = .ok (.iload 8, 2) := by decide +kernel
theorem dX11_pen_167 : decode cX11_pen 167 = .ok (.istore 8, 2) := by decide +kernel
theorem dX11_pen_169 : decode cX11_pen 169 = .ok (.iinc 10 1, 3) := by decide +kernel
theorem dX11_pen_172 : decode cX11_pen 172 = .ok (.goto (-68), 3) := by decide +kernel
theorem dX11_pen_175 : decode cX11_pen 175 = .ok (.iinc 9 1, 3) := by decide +kernel
theorem dX11_pen_178 : decode cX11_pen 178 = .ok (.goto (-84), 3) := by decide +kernel
theorem dX11_pen_181 : decode cX11_pen 181 = .ok (.iload 5, 2) := by decide +kernel
theorem dX11_pen_183 : decode cX11_pen 183 = .ok (.ifCond .ne 8, 3) := by decide +kernel
theorem dX11_pen_186 : decode cX11_pen 186 = .ok (.iload 7, 2) := by decide +kernel
theorem dX11_pen_188 : decode cX11_pen 188 = .ok (.goto 5, 3) := by decide +kernel
theorem dX11_pen_191 : decode cX11_pen 191 = .ok (.iload 8, 2) := by decide +kernel
theorem dX11_pen_193 : decode cX11_pen 193 = .ok (.ireturn, 1) := by decide +kernel
theorem dX11_orders_0 : decode cX11_orders 0 = .ok (.iload_n 1, 1) := by decide +kernel
theorem dX11_orders_1 : decode cX11_orders 1 = .ok (.iconst (-1), 1) := by decide +kernel
theorem dX11_orders_2 : decode cX11_orders 2 = .ok (.if_icmp .ge 10, 3) := by decide +kernel
theorem dX11_orders_5 : decode cX11_orders 5 = .ok (.aload_n 0, 1) := by decide +kernel
theorem dX11_orders_6 : decode cX11_orders 6 = .ok (.bipush (-10), 2) := by decide +kernel
theorem dX11_orders_8 : decode cX11_orders 8 = .ok (.invokevirtual 77, 3) := by decide +kernel
theorem dX11_orders_11 : decode cX11_orders 11 = .ok (.ireturn, 1) := by decide +kernel
theorem dX11_orders_12 : decode cX11_orders 12 = .ok (.iload_n 1, 1) := by decide +kernel
theorem dX11_orders_13 : decode cX11_orders 13 = .ok (.iconst (-1), 1) := by decide +kernel
theorem dX11_orders_14 : decode cX11_orders 14 = .ok (.if_icmp .ne 18, 3) := by decide +kernel
theorem dX11_orders_17 : decode cX11_orders 17 = .ok (.aload_n 0, 1) := by decide +kernel
theorem dX11_orders_18 : decode cX11_orders 18 = .ok (.getfield 42, 3) := by decide +kernel
theorem dX11_orders_21 : decode cX11_orders 21 = .ok (.aload_n 0, 1) := by decide +kernel
theorem dX11_orders_22 : decode cX11_orders 22 = .ok (.getfield 19, 3) := by decide +kernel
theorem dX11_orders_25 : decode cX11_orders 25 = .ok (.sipush 720, 3) := by decide +kernel
theorem dX11_orders_28 : decode cX11_orders 28 = .ok (.invokevirtual 238, 3) := by decide +kernel
theorem dX11_orders_31 : decode cX11_orders 31 = .ok (.ireturn, 1) := by decide +kernel
theorem dX11_orders_32 : decode cX11_orders 32 = .ok (.iload_n 1, 1) := by decide +kernel
theorem dX11_orders_33 : decode cX11_orders 33 = .ok (.aload_n 0, 1) := by decide +kernel
theorem dX11_orders_34 : decode cX11_orders 34 = .ok (.getfield 19, 3) := by decide +kernel
theorem dX11_orders_37 : decode cX11_orders 37 = .ok (.getfield 81, 3) := by decide +kernel
theorem dX11_orders_40 : decode cX11_orders 40 = .ok (.if_icmp .lt 6, 3) := by decide +kernel
theorem dX11_orders_43 : decode cX11_orders 43 = .ok (.bipush (-5), 2) := by decide +kernel
theorem dX11_orders_45 : decode cX11_orders 45 = .ok (.ireturn, 1) := by decide +kernel
theorem dX11_orders_46 : decode cX11_orders 46 = .ok (.aload_n 0, 1) := by decide +kernel
theorem dX11_orders_47 : decode cX11_orders 47 = .ok (.getfield 42, 3) := by decide +kernel
theorem dX11_orders_50 : decode cX11_orders 50 = .ok (.aload_n 0, 1) := by decide +kernel
theorem dX11_orders_51 : decode cX11_orders 51 = .ok (.getfield 19, 3) := by decide +kernel
theorem dX11_orders_54 : decode cX11_orders 54 = .ok (.iconst 1, 1) := by decide +kernel
theorem dX11_orders_55 : decode cX11_orders 55 = .ok (.invokevirtual 238, 3) := by decide +kernel
theorem dX11_orders_58 : decode cX11_orders 58 = .ok (.ifCond .ne 7, 3) := by decide +kernel
theorem dX11_orders_61 : decode cX11_orders 61 = .ok (.iconst (-1), 1) := by decide +kernel
theorem dX11_orders_62 : decode cX11_orders 62 = .ok (.goto 11, 3) := by decide +kernel
theorem dX11_orders_65 : decode cX11_orders 65 = .ok (.aload_n 0, 1) := by decide +kernel
theorem dX11_orders_66 : decode cX11_orders 66 = .ok (.getfield 42, 3) := by decide +kernel
theorem dX11_orders_69 : decode cX11_orders 69 = .ok (.iload_n 1, 1) := by decide +kernel
theorem dX11_orders_70 : decode cX11_orders 70 = .ok (.invokevirtual 242, 3) := by decide +kernel
theorem dX11_orders_73 : decode cX11_orders 73 = .ok (.ireturn, 1) := by decide +kernel
theorem dX11_press_0 : decode cX11_press 0 = .ok (.iload_n 1, 1) := by decide +kernel
theorem dX11_press_1 : decode cX11_press 1 = .ok (.ifCond .lt 21, 3) := by decide +kernel
theorem dX11_press_4 : decode cX11_press 4 = .ok (.iload_n 1, 1) := by decide +kernel
theorem dX11_press_5 : decode cX11_press 5 = .ok (.bipush 6, 2) := by decide +kernel
theorem dX11_press_7 : decode cX11_press 7 = .ok (.if_icmp .ge 15, 3) := by decide +kernel
theorem dX11_press_10 : decode cX11_press 10 = .ok (.iload_n 2, 1) := by decide +kernel
theorem dX11_press_11 : decode cX11_press 11 = .ok (.iconst 1, 1) := by decide +kernel
theorem dX11_press_12 : decode cX11_press 12 = .ok (.if_icmp .lt 10, 3) := by decide +kernel
theorem dX11_press_15 : decode cX11_press 15 = .ok (.iload_n 2, 1) := by decide +kernel
theorem dX11_press_16 : decode cX11_press 16 = .ok (.invokestatic 195, 3) := by decide +kernel
theorem dX11_press_19 : decode cX11_press 19 = .ok (.ifCond .ne 10, 3) := by decide +kernel
theorem dX11_press_22 : decode cX11_press 22 = .ok (.aload_n 0, 1) := by decide +kernel
theorem dX11_press_23 : decode cX11_press 23 = .ok (.bipush (-2), 2) := by decide +kernel
theorem dX11_press_25 : decode cX11_press 25 = .ok (.invokevirtual 77, 3) := by decide +kernel
theorem dX11_press_28 : decode cX11_press 28 = .ok (.ireturn, 1) := by decide +kernel
theorem dX11_press_29 : decode cX11_press 29 = .ok (.iconst 1, 1) := by decide +kernel
theorem dX11_press_30 : decode cX11_press 30 = .ok (.istore_n 3, 1) := by decide +kernel
theorem dX11_press_31 : decode cX11_press 31 = .ok (.iload_n 3, 1) := by decide +kernel
theorem dX11_press_32 : decode cX11_press 32 = .ok (.bipush 9, 2) := by decide +kernel
theorem dX11_press_34 : decode cX11_press 34 = .ok (.if_icmp .gt 25, 3) := by decide +kernel
theorem dX11_press_37 : decode cX11_press 37 = .ok (.aload_n 0, 1) := by decide +kernel
theorem dX11_press_38 : decode cX11_press 38 = .ok (.getfield 12, 3) := by decide +kernel
theorem dX11_press_41 : decode cX11_press 41 = .ok (.iload_n 1, 1) := by decide +kernel
theorem dX11_press_42 : decode cX11_press 42 = .ok (.iload_n 3, 1) := by decide +kernel
theorem dX11_press_43 : decode cX11_press 43 = .ok (.iload_n 2, 1) := by decide +kernel
theorem dX11_press_44 : decode cX11_press 44 = .ok (.invokevirtual 198, 3) := by decide +kernel
theorem dX11_press_47 : decode cX11_press 47 = .ok (.iconst 2, 1) := by decide +kernel
theorem dX11_press_48 : decode cX11_press 48 = .ok (.if_icmp .lt 5, 3) := by decide +kernel
theorem dX11_press_51 : decode cX11_press 51 = .ok (.iload_n 3, 1) := by decide +kernel
theorem dX11_press_52 : decode cX11_press 52 = .ok (.ireturn, 1) := by decide +kernel
theorem dX11_press_53 : decode cX11_press 53 = .ok (.iinc 3 1, 3) := by decide +kernel
theorem dX11_press_56 : decode cX11_press 56 = .ok (.goto (-25), 3) := by decide +kernel
theorem dX11_press_59 : decode cX11_press 59 = .ok (.iconst (-1), 1) := by decide +kernel
theorem dX11_press_60 : decode cX11_press 60 = .ok (.ireturn, 1) := by decide +kernel
theorem dX11_copies_0 : decode cX11_copies 0 = .ok (.iconst 1, 1) := by decide +kernel
theorem dX11_copies_1 : decode cX11_copies 1 = .ok (.aload_n 0, 1) := by decide +kernel
theorem dX11_copies_2 : decode cX11_copies 2 = .ok (.getfield 19, 3) := by decide +kernel
theorem dX11_copies_5 : decode cX11_copies 5 = .ok (.invokevirtual 164, 3) := by decide +kernel
theorem dX11_copies_8 : decode cX11_copies 8 = .ok (.ishl, 1) := by decide +kernel
theorem dX11_copies_9 : decode cX11_copies 9 = .ok (.iconst 1, 1) := by decide +kernel
theorem dX11_copies_10 : decode cX11_copies 10 = .ok (.isub, 1) := by decide +kernel
theorem dX11_copies_11 : decode cX11_copies 11 = .ok (.istore 5, 2) := by decide +kernel
theorem dX11_copies_13 : decode cX11_copies 13 = .ok (.aload_n 0, 1) := by decide +kernel
theorem dX11_copies_14 : decode cX11_copies 14 = .ok (.getfield 19, 3) := by decide +kernel
theorem dX11_copies_17 : decode cX11_copies 17 = .ok (.iload_n 1, 1) := by decide +kernel
theorem dX11_copies_18 : decode cX11_copies 18 = .ok (.invokevirtual 88, 3) := by decide +kernel
theorem dX11_copies_21 : decode cX11_copies 21 = .ok (.ifCond .eq 22, 3) := by decide +kernel
theorem dX11_copies_24 : decode cX11_copies 24 = .ok (.iload_n 1, 1) := by decide +kernel
theorem dX11_copies_25 : decode cX11_copies 25 = .ok (.iload 5, 2) := by decide +kernel
theorem dX11_copies_27 : decode cX11_copies 27 = .ok (.iand, 1) := by decide +kernel
theorem dX11_copies_28 : decode cX11_copies 28 = .ok (.ifCond .ne 15, 3) := by decide +kernel
theorem dX11_copies_31 : decode cX11_copies 31 = .ok (.iload_n 2, 1) := by decide +kernel
theorem dX11_copies_32 : decode cX11_copies 32 = .ok (.iload_n 3, 1) := by decide +kernel
theorem dX11_copies_33 : decode cX11_copies 33 = .ok (.invokestatic 95, 3) := by decide +kernel
theorem dX11_copies_36 : decode cX11_copies 36 = .ok (.ifCond .eq 7, 3) := by decide +kernel
theorem dX11_copies_39 : decode cX11_copies 39 = .ok (.iconst 1, 1) := by decide +kernel
theorem dX11_copies_40 : decode cX11_copies 40 = .ok (.goto 4, 3) := by decide +kernel
theorem dX11_copies_43 : decode cX11_copies 43 = .ok (.iconst 0, 1) := by decide +kernel
theorem dX11_copies_44 : decode cX11_copies 44 = .ok (.istore 6, 2) := by decide +kernel
theorem dX11_copies_46 : decode cX11_copies 46 = .ok (.iload 6, 2) := by decide +kernel
theorem dX11_copies_48 : decode cX11_copies 48 = .ok (.ifCond .eq 14, 3) := by decide +kernel
theorem dX11_copies_51 : decode cX11_copies 51 = .ok (.iload 4, 2) := by decide +kernel
theorem dX11_copies_53 : decode cX11_copies 53 = .ok (.ifCond .lt 9, 3) := by decide +kernel
theorem dX11_copies_56 : decode cX11_copies 56 = .ok (.iload 4, 2) := by decide +kernel
theorem dX11_copies_58 : decode cX11_copies 58 = .ok (.iconst 1, 1) := by decide +kernel
theorem dX11_copies_59 : decode cX11_copies 59 = .ok (.if_icmp .le 10, 3) := by decide +kernel
theorem dX11_copies_62 : decode cX11_copies 62 = .ok (.aload_n 0, 1) := by decide +kernel
theorem dX11_copies_63 : decode cX11_copies 63 = .ok (.bipush (-10), 2) := by decide +kernel
theorem dX11_copies_65 : decode cX11_copies 65 = .ok (.invokevirtual 77, 3) := by decide +kernel
theorem dX11_copies_68 : decode cX11_copies 68 = .ok (.ireturn, 1) := by decide +kernel
theorem dX11_copies_69 : decode cX11_copies 69 = .ok (.iconst 0, 1) := by decide +kernel
theorem dX11_copies_70 : decode cX11_copies 70 = .ok (.istore 7, 2) := by decide +kernel
theorem dX11_copies_72 : decode cX11_copies 72 = .ok (.aload_n 0, 1) := by decide +kernel
theorem dX11_copies_73 : decode cX11_copies 73 = .ok (.getfield 19, 3) := by decide +kernel
theorem dX11_copies_76 : decode cX11_copies 76 = .ok (.invokevirtual 164, 3) := by decide +kernel
theorem dX11_copies_79 : decode cX11_copies 79 = .ok (.istore 8, 2) := by decide +kernel
theorem dX11_copies_81 : decode cX11_copies 81 = .ok (.iload 8, 2) := by decide +kernel
theorem dX11_copies_83 : decode cX11_copies 83 = .ok (.aload_n 0, 1) := by decide +kernel
theorem dX11_copies_84 : decode cX11_copies 84 = .ok (.getfield 19, 3) := by decide +kernel
theorem dX11_copies_87 : decode cX11_copies 87 = .ok (.getfield 81, 3) := by decide +kernel
theorem dX11_copies_90 : decode cX11_copies 90 = .ok (.if_icmp .ge 63, 3) := by decide +kernel
theorem dX11_copies_93 : decode cX11_copies 93 = .ok (.iload_n 1, 1) := by decide +kernel
theorem dX11_copies_94 : decode cX11_copies 94 = .ok (.iload 8, 2) := by decide +kernel
theorem dX11_copies_96 : decode cX11_copies 96 = .ok (.ishr, 1) := by decide +kernel
theorem dX11_copies_97 : decode cX11_copies 97 = .ok (.iconst 1, 1) := by decide +kernel
theorem dX11_copies_98 : decode cX11_copies 98 = .ok (.iand, 1) := by decide +kernel
theorem dX11_copies_99 : decode cX11_copies 99 = .ok (.ifCond .eq 48, 3) := by decide +kernel
theorem dX11_copies_102 : decode cX11_copies 102 = .ok (.iload 8, 2) := by decide +kernel
theorem dX11_copies_104 : decode cX11_copies 104 = .ok (.aload_n 0, 1) := by decide +kernel
theorem dX11_copies_105 : decode cX11_copies 105 = .ok (.getfield 19, 3) := by decide +kernel
theorem dX11_copies_108 : decode cX11_copies 108 = .ok (.invokevirtual 164, 3) := by decide +kernel
theorem dX11_copies_111 : decode cX11_copies 111 = .ok (.isub, 1) := by decide +kernel
theorem dX11_copies_112 : decode cX11_copies 112 = .ok (.istore 9, 2) := by decide +kernel
theorem dX11_copies_114 : decode cX11_copies 114 = .ok (.iload 9, 2) := by decide +kernel
theorem dX11_copies_116 : decode cX11_copies 116 = .ok (.ifCond .eq 18, 3) := by decide +kernel
theorem dX11_copies_119 : decode cX11_copies 119 = .ok (.aload_n 0, 1) := by decide +kernel
theorem dX11_copies_120 : decode cX11_copies 120 = .ok (.getfield 12, 3) := by decide +kernel
theorem dX11_copies_123 : decode cX11_copies 123 = .ok (.iload_n 2, 1) := by decide +kernel
theorem dX11_copies_124 : decode cX11_copies 124 = .ok (.iload_n 3, 1) := by decide +kernel
theorem dX11_copies_125 : decode cX11_copies 125 = .ok (.iload 9, 2) := by decide +kernel
theorem dX11_copies_127 : decode cX11_copies 127 = .ok (.invokevirtual 198, 3) := by decide +kernel
theorem dX11_copies_130 : decode cX11_copies 130 = .ok (.iconst 2, 1) := by decide +kernel
theorem dX11_copies_131 : decode cX11_copies 131 = .ok (.if_icmp .ge 5, 3) := by decide +kernel
theorem dX11_copies_134 : decode cX11_copies 134 = .ok (.iconst (-1), 1) := by decide +kernel
theorem dX11_copies_135 : decode cX11_copies 135 = .ok (.ireturn, 1) := by decide +kernel
theorem dX11_copies_136 : decode cX11_copies 136 = .ok (.iload 7, 2) := by decide +kernel
theorem dX11_copies_138 : decode cX11_copies 138 = .ok (.iconst 1, 1) := by decide +kernel
theorem dX11_copies_139 : decode cX11_copies 139 = .ok (.iload 8, 2) := by decide +kernel
theorem dX11_copies_141 : decode cX11_copies 141 = .ok (.iconst 1, 1) := by decide +kernel
theorem dX11_copies_142 : decode cX11_copies 142 = .ok (.isub, 1) := by decide +kernel
theorem dX11_copies_143 : decode cX11_copies 143 = .ok (.ishl, 1) := by decide +kernel
theorem dX11_copies_144 : decode cX11_copies 144 = .ok (.ior, 1) := by decide +kernel
theorem dX11_copies_145 : decode cX11_copies 145 = .ok (.istore 7, 2) := by decide +kernel
theorem dX11_copies_147 : decode cX11_copies 147 = .ok (.iinc 8 1, 3) := by decide +kernel
theorem dX11_copies_150 : decode cX11_copies 150 = .ok (.goto (-69), 3) := by decide +kernel
theorem dX11_copies_153 : decode cX11_copies 153 = .ok (.iload 7, 2) := by decide +kernel
theorem dX11_copies_155 : decode cX11_copies 155 = .ok (.aload_n 0, 1) := by decide +kernel
theorem dX11_copies_156 : decode cX11_copies 156 = .ok (.getfield 19, 3) := by decide +kernel
theorem dX11_copies_159 : decode cX11_copies 159 = .ok (.getfield 92, 3) := by decide +kernel
theorem dX11_copies_162 : decode cX11_copies 162 = .ok (.iconst (-1), 1) := by decide +kernel
theorem dX11_copies_163 : decode cX11_copies 163 = .ok (.ixor, 1) := by decide +kernel
theorem dX11_copies_164 : decode cX11_copies 164 = .ok (.iand, 1) := by decide +kernel
theorem dX11_copies_165 : decode cX11_copies 165 = .ok (.istore 8, 2) := by decide +kernel
theorem dX11_copies_167 : decode cX11_copies 167 = .ok (.iload 4, 2) := by decide +kernel
theorem dX11_copies_169 : decode cX11_copies 169 = .ok (.ifCond .ne 11, 3) := by decide +kernel
theorem dX11_copies_172 : decode cX11_copies 172 = .ok (.iload 8, 2) := by decide +kernel
theorem dX11_copies_174 : decode cX11_copies 174 = .ok (.invokestatic 227, 3) := by decide +kernel
theorem dX11_copies_177 : decode cX11_copies 177 = .ok (.goto 5, 3) := by decide +kernel
theorem dX11_copies_180 : decode cX11_copies 180 = .ok (.iload 8, 2) := by decide +kernel
theorem dX11_copies_182 : decode cX11_copies 182 = .ok (.ireturn, 1) := by decide +kernel
theorem dX11_keepFraction_0 : decode cX11_keepFraction 0 = .ok (.lload_n 1, 1) := by decide +kernel
theorem dX11_keepFraction_1 : decode cX11_keepFraction 1 = .ok (.lstore 5, 2) := by decide +kernel
theorem dX11_keepFraction_3 : decode cX11_keepFraction 3 = .ok (.lload_n 3, 1) := by decide +kernel
theorem dX11_keepFraction_4 : decode cX11_keepFraction 4 = .ok (.lstore 7, 2) := by decide +kernel
theorem dX11_keepFraction_6 : decode cX11_keepFraction 6 = .ok (.iconst 0, 1) := by decide +kernel
theorem dX11_keepFraction_7 : decode cX11_keepFraction 7 = .ok (.istore 9, 2) := by decide +kernel
theorem dX11_keepFraction_9 : decode cX11_keepFraction 9 = .ok (.iload 9, 2) := by decide +kernel
theorem dX11_keepFraction_11 : decode cX11_keepFraction 11 = .ok (.sipush 128, 3) := by decide +kernel
theorem dX11_keepFraction_14 : decode cX11_keepFraction 14 = .ok (.if_icmp .ge 31, 3) := by decide +kernel
theorem dX11_keepFraction_17 : decode cX11_keepFraction 17 = .ok (.lload 7, 2) := by decide +kernel
theorem dX11_keepFraction_19 : decode cX11_keepFraction 19 = .ok (.lconst 0, 1) := by decide +kernel
theorem dX11_keepFraction_20 : decode cX11_keepFraction 20 = .ok (.lcmp, 1) := by decide +kernel
theorem dX11_keepFraction_21 : decode cX11_keepFraction 21 = .ok (.ifCond .eq 24, 3) := by decide +kernel
theorem dX11_keepFraction_24 : decode cX11_keepFraction 24 = .ok (.lload 5, 2) := by decide +kernel
theorem dX11_keepFraction_26 : decode cX11_keepFraction 26 = .ok (.lload 7, 2) := by decide +kernel
theorem dX11_keepFraction_28 : decode cX11_keepFraction 28 = .ok (.lrem, 1) := by decide +kernel
theorem dX11_keepFraction_29 : decode cX11_keepFraction 29 = .ok (.lstore 10, 2) := by decide +kernel
theorem dX11_keepFraction_31 : decode cX11_keepFraction 31 = .ok (.lload 7, 2) := by decide +kernel
theorem dX11_keepFraction_33 : decode cX11_keepFraction 33 = .ok (.lstore 5, 2) := by decide +kernel
theorem dX11_keepFraction_35 : decode cX11_keepFraction 35 = .ok (.lload 10, 2) := by decide +kernel
theorem dX11_keepFraction_37 : decode cX11_keepFraction 37 = .ok (.lstore 7, 2) := by decide +kernel
theorem dX11_keepFraction_39 : decode cX11_keepFraction 39 = .ok (.iinc 9 1, 3) := by decide +kernel
theorem dX11_keepFraction_42 : decode cX11_keepFraction 42 = .ok (.goto (-33), 3) := by decide +kernel
theorem dX11_keepFraction_45 : decode cX11_keepFraction 45 = .ok (.lload 5, 2) := by decide +kernel
theorem dX11_keepFraction_47 : decode cX11_keepFraction 47 = .ok (.lconst 0, 1) := by decide +kernel
theorem dX11_keepFraction_48 : decode cX11_keepFraction 48 = .ok (.lcmp, 1) := by decide +kernel
theorem dX11_keepFraction_49 : decode cX11_keepFraction 49 = .ok (.ifCond .le 19, 3) := by decide +kernel
theorem dX11_keepFraction_52 : decode cX11_keepFraction 52 = .ok (.aload_n 0, 1) := by decide +kernel
theorem dX11_keepFraction_53 : decode cX11_keepFraction 53 = .ok (.lload_n 1, 1) := by decide +kernel
theorem dX11_keepFraction_54 : decode cX11_keepFraction 54 = .ok (.lload 5, 2) := by decide +kernel
theorem dX11_keepFraction_56 : decode cX11_keepFraction 56 = .ok (.ldiv, 1) := by decide +kernel
theorem dX11_keepFraction_57 : decode cX11_keepFraction 57 = .ok (.putfield 61, 3) := by decide +kernel
theorem dX11_keepFraction_60 : decode cX11_keepFraction 60 = .ok (.aload_n 0, 1) := by decide +kernel
theorem dX11_keepFraction_61 : decode cX11_keepFraction 61 = .ok (.lload_n 3, 1) := by decide +kernel
theorem dX11_keepFraction_62 : decode cX11_keepFraction 62 = .ok (.lload 5, 2) := by decide +kernel
theorem dX11_keepFraction_64 : decode cX11_keepFraction 64 = .ok (.ldiv, 1) := by decide +kernel
theorem dX11_keepFraction_65 : decode cX11_keepFraction 65 = .ok (.putfield 65, 3) := by decide +kernel
theorem dX11_keepFraction_68 : decode cX11_keepFraction 68 = .ok (.return_, 1) := by decide +kernel
set_option maxHeartbeats 4000000 in
set_option maxRecDepth 100000 in
theorem vjX11_shown_22 (C : VC pr s m args meth c E A cX11_shown 3 (some .int) RX11) (hA : va_A w0 s.heap.size = A) (a : Nat → Nat → Nat)  {Post : Int32 → (Nat → St) → Prop} (t : Nat → St) (hw : wjX11_shown_22  Post t) : V pr l e rmX11_shown s m args below meth c E A 3 0 0 (MQ below (CQi E Post (fun u => wBig E a u) w0 s.heap.size) args s 0 0 A) (wBig E a t) 22 [(0, .ref (a 0 0))] [] := by
  refine v_aload_n (pc := 22) C 0 rfl rfl dX11_shown_22 ?_
  refine v_bipush (pc := 23) C (-2) kb_m2 dX11_shown_23 ?_
  refine v_goAi (pc := 25) C (wc' := (fun (u : (Nat → St)) => (wBig E a u))) (fun _ => rfl) (v_runVA (pc := 25) C [.int (-2)] [] (fun sz => ctX11_bad l E a (-2) t hw sz) mfX11_bad mvX11_bad wmX11_77 rfl ⟨Nat.le_of_ble_eq_true rfl, Nat.le_of_ble_eq_true rfl⟩ ⟨rfl, rfl⟩ 0 (ci := 11) (qc := (RX11, TX11, 15)) rfl rfl rfl rfl (Nat.le_of_ble_eq_true rfl) ⟨Nat.zero_le _, Nat.zero_le _⟩ dX11_shown_25) (fun r2 t3 hw => ?_)
  exact v_ireti (pc := 28) C t3 hA rfl hw dX11_shown_28
set_option maxHeartbeats 4000000 in
set_option maxRecDepth 100000 in
theorem ctX11_shown (l : Launch) (E : VE) (a : Nat → Nat → Nat) (x1 : Int32) (x2 : Int32) (t : Nat → St)  {Post : Int32 → (Nat → St) → Prop} (hw : wpX11_shown x1 x2 t Post) (sz : Nat) : Met l yX11_shown (mW yX11_shown cX11_shown 3 (some .int)) rmX11_shown (CPre E [.ref (a 0 0), .int x1, .int x2] sz (wBig E a t)) (CQi E Post (fun u => wBig E a u) (wBig E a t) sz) 0 0 (va_A (wBig E a t) sz) := by
  refine v_met (by decide) (Nat.le_of_ble_eq_true rfl) ?_
  intro pr e s m below meth c A hsz hA C
  subst hsz
  refine v_aload_n (pc := 0) C 0 rfl rfl dX11_shown_0 ?_
  refine v_get (pc := 1) C cfX11 rfl 0 1 rfl (by decide) wfX11_19 rfl dX11_shown_1 ?_
  refine v_iload_n (pc := 4) C 1 rfl rfl dX11_shown_4 ?_
  refine v_goBi (pc := 5) C (bs := (bsBig E a t)) (cs := [bPad E (a 2) (t 2)]) (cs' := (fun (_ : Unit) => [bPad E (a 2) (t 2)])) (bs' := (fun (_ : Unit) => (bsBig E a t))) (w' := (fun (_ : Unit) => (wBig E a t))) [2] (wBig_fl E a t) rfl (fun _ => rfl) (fun _ => rfl) (fun _ => (wBig_fl _ _ _).symm) (v_runVB (pc := 5) C [.int x1] [] (fun sz => ctX4_hasSheet l E (a 2) x1 (t 2) hw sz) [2] (wBig_fl E a t) rfl rfl mfX4_hasSheet mvX4_hasSheet wmX11_155 rfl ⟨Nat.le_of_ble_eq_true rfl, Nat.le_of_ble_eq_true rfl⟩ ⟨rfl, rfl⟩ 10 (ci := 4) (qc := (RX4, TX4, 12)) rfl rfl rfl rfl (Nat.le_of_ble_eq_true rfl) ⟨Nat.zero_le _, Nat.zero_le _⟩ dX11_shown_5) (fun r1 _ hw => ?_)
  refine v_if_eq (pc := 8) C 22 (by decide) dX11_shown_8 (fun hc => ?_) (fun hc => ?_)
  · have hw := hw.1 hc
    refine v_sub (lv' := [(0, .ref (a 0 0))]) [0] rfl ?_
    exact vjX11_shown_22 C hA a  t hw
  · have hw := hw.2 hc
    refine v_iload_n (pc := 11) C 2 rfl rfl dX11_shown_11 ?_
    refine v_iconst (pc := 12) C 1 ki_1 dX11_shown_12 ?_
    refine v_icmp_lt (pc := 13) C 22 (by decide) dX11_shown_13 (fun hc => ?_) (fun hc => ?_)
    · have hw := hw.1 hc
      refine v_sub (lv' := [(0, .ref (a 0 0))]) [0] rfl ?_
      exact vjX11_shown_22 C hA a  t hw
    · have hw := hw.2 hc
      refine v_iload_n (pc := 16) C 2 rfl rfl dX11_shown_16 ?_
      refine v_bipush (pc := 17) C 9 kb_9 dX11_shown_17 ?_
      refine v_icmp_le (pc := 19) C 29 (by decide) dX11_shown_19 (fun hc => ?_) (fun hc => ?_)
      · have hw := hw.1 hc
        refine v_aload_n (pc := 29) C 0 rfl rfl dX11_shown_29 ?_
        refine v_get (pc := 30) C cfX11 rfl 0 1 rfl (by decide) wfX11_19 rfl dX11_shown_30 ?_
        refine v_iload_n (pc := 33) C 1 rfl rfl dX11_shown_33 ?_
        refine v_iload_n (pc := 34) C 2 rfl rfl dX11_shown_34 ?_
        refine v_goBi (pc := 35) C (bs := (bsBig E a t)) (cs := [bPad E (a 2) (t 2)]) (cs' := (fun (_ : Unit) => [bPad E (a 2) (t 2)])) (bs' := (fun (_ : Unit) => (bsBig E a t))) (w' := (fun (_ : Unit) => (wBig E a t))) [2] (wBig_fl E a t) rfl (fun _ => rfl) (fun _ => rfl) (fun _ => (wBig_fl _ _ _).symm) (v_runVB (pc := 35) C [.int x1, .int x2] [] (fun sz => ctX4_dentedAtLeast l E (a 2) x1 x2 (t 2) hw sz) [2] (wBig_fl E a t) rfl rfl mfX4_dentedAtLeast mvX4_dentedAtLeast wmX11_208 rfl ⟨Nat.le_of_ble_eq_true rfl, Nat.le_of_ble_eq_true rfl⟩ ⟨rfl, rfl⟩ 10 (ci := 4) (qc := (RX4, TX4, 12)) rfl rfl rfl rfl (Nat.le_of_ble_eq_true rfl) ⟨Nat.zero_le _, Nat.zero_le _⟩ dX11_shown_35) (fun r4 _ hw => ?_)
        exact v_ireti (pc := 38) C t hA rfl hw dX11_shown_38
      · have hw := hw.2 hc
        refine v_sub (lv' := [(0, .ref (a 0 0))]) [0] rfl ?_
        exact vjX11_shown_22 C hA a  t hw
set_option maxHeartbeats 4000000 in
set_option maxRecDepth 100000 in
theorem ctJ6_bitCount_0f7a4 (l : Launch) (E : VE)  (x0 : Int32)   {Post : Int32 → Prop} (hw : wpJ6_bitCount_0f7a4 x0 Post) (sz : Nat) : Met l yJ6_bitCount_0f7a4 (mW yJ6_bitCount_0f7a4 cJ6_bitCount_0f7a4 1 (some .int)) rmJ6_bitCount_0f7a4 (CPre E [.int x0] sz (fl [])) (CQi E (fun (z : Int32) (_ : Unit) => Post z) (fun _ => (fl [])) (fl []) sz) 0 0 (va_A (fl []) sz) := by
  refine v_met (by decide) (Nat.le_of_ble_eq_true rfl) ?_
  intro pr e s m below meth c A hsz hA C
  subst hsz
  refine v_iload_n (pc := 0) C 0 rfl rfl dJ6_bitCount_0f7a4_0 ?_
  refine v_iload_n (pc := 1) C 0 rfl rfl dJ6_bitCount_0f7a4_1 ?_
  refine v_iconst (pc := 2) C 1 ki_1 dJ6_bitCount_0f7a4_2 ?_
  refine v_iushr (pc := 3) C dJ6_bitCount_0f7a4_3 ?_
  refine v_ldcw (pc := 4) C 1431655765 wkJ6_265 dJ6_bitCount_0f7a4_4 ?_
  refine v_iand (pc := 7) C dJ6_bitCount_0f7a4_7 ?_
  refine v_isub (pc := 8) C dJ6_bitCount_0f7a4_8 ?_
  refine v_topi (fun x0_1 ex => ?_)
  have hw := hw x0_1 ex
  refine v_istore_n (pc := 9) C [(0, .int x0_1)] rfl rfl (by decide) dJ6_bitCount_0f7a4_9 ?_
  refine v_iload_n (pc := 10) C 0 rfl rfl dJ6_bitCount_0f7a4_10 ?_
  refine v_ldcw (pc := 11) C 858993459 wkJ6_266 dJ6_bitCount_0f7a4_11 ?_
  refine v_iand (pc := 14) C dJ6_bitCount_0f7a4_14 ?_
  refine v_iload_n (pc := 15) C 0 rfl rfl dJ6_bitCount_0f7a4_15 ?_
  refine v_iconst (pc := 16) C 2 ki_2 dJ6_bitCount_0f7a4_16 ?_
  refine v_iushr (pc := 17) C dJ6_bitCount_0f7a4_17 ?_
  refine v_ldcw (pc := 18) C 858993459 wkJ6_266 dJ6_bitCount_0f7a4_18 ?_
  refine v_iand (pc := 21) C dJ6_bitCount_0f7a4_21 ?_
  refine v_iadd (pc := 22) C dJ6_bitCount_0f7a4_22 ?_
  refine v_topi (fun x0_2 ex => ?_)
  have hw := hw x0_2 ex
  refine v_istore_n (pc := 23) C [(0, .int x0_2)] rfl rfl (by decide) dJ6_bitCount_0f7a4_23 ?_
  refine v_iload_n (pc := 24) C 0 rfl rfl dJ6_bitCount_0f7a4_24 ?_
  refine v_iload_n (pc := 25) C 0 rfl rfl dJ6_bitCount_0f7a4_25 ?_
  refine v_iconst (pc := 26) C 4 ki_4 dJ6_bitCount_0f7a4_26 ?_
  refine v_iushr (pc := 27) C dJ6_bitCount_0f7a4_27 ?_
  refine v_iadd (pc := 28) C dJ6_bitCount_0f7a4_28 ?_
  refine v_ldcw (pc := 29) C 252645135 wkJ6_267 dJ6_bitCount_0f7a4_29 ?_
  refine v_iand (pc := 32) C dJ6_bitCount_0f7a4_32 ?_
  refine v_topi (fun x0_3 ex => ?_)
  have hw := hw x0_3 ex
  refine v_istore_n (pc := 33) C [(0, .int x0_3)] rfl rfl (by decide) dJ6_bitCount_0f7a4_33 ?_
  refine v_iload_n (pc := 34) C 0 rfl rfl dJ6_bitCount_0f7a4_34 ?_
  refine v_iload_n (pc := 35) C 0 rfl rfl dJ6_bitCount_0f7a4_35 ?_
  refine v_bipush (pc := 36) C 8 kb_8 dJ6_bitCount_0f7a4_36 ?_
  refine v_iushr (pc := 38) C dJ6_bitCount_0f7a4_38 ?_
  refine v_iadd (pc := 39) C dJ6_bitCount_0f7a4_39 ?_
  refine v_topi (fun x0_4 ex => ?_)
  have hw := hw x0_4 ex
  refine v_istore_n (pc := 40) C [(0, .int x0_4)] rfl rfl (by decide) dJ6_bitCount_0f7a4_40 ?_
  refine v_iload_n (pc := 41) C 0 rfl rfl dJ6_bitCount_0f7a4_41 ?_
  refine v_iload_n (pc := 42) C 0 rfl rfl dJ6_bitCount_0f7a4_42 ?_
  refine v_bipush (pc := 43) C 16 kb_16 dJ6_bitCount_0f7a4_43 ?_
  refine v_iushr (pc := 45) C dJ6_bitCount_0f7a4_45 ?_
  refine v_iadd (pc := 46) C dJ6_bitCount_0f7a4_46 ?_
  refine v_topi (fun x0_5 ex => ?_)
  have hw := hw x0_5 ex
  refine v_istore_n (pc := 47) C [(0, .int x0_5)] rfl rfl (by decide) dJ6_bitCount_0f7a4_47 ?_
  refine v_iload_n (pc := 48) C 0 rfl rfl dJ6_bitCount_0f7a4_48 ?_
  refine v_bipush (pc := 49) C 63 kb_63 dJ6_bitCount_0f7a4_49 ?_
  refine v_iand (pc := 51) C dJ6_bitCount_0f7a4_51 ?_
  exact v_ireti (pc := 52) C () hA rfl hw dJ6_bitCount_0f7a4_52
set_option maxHeartbeats 4000000 in
set_option maxRecDepth 100000 in
theorem vlX11_wordsThatFit_4 (C : VC pr s m args meth c E A cX11_wordsThatFit 3 (some .int) RX11) (hA : va_A w0 s.heap.size = A) (a : Nat → Nat → Nat) (t : Nat → St) {Post : Int32 → Prop} {KX : Int32 → Prop} (hX : ∀ (x1 : Int32), KX x1 → V pr l e rmX11_wordsThatFit s m args below meth c E A 3 0 0 (MQ below (CQi E (fun (z : Int32) (_ : Unit) => Post z) (fun _ => (wBig E a t)) w0 s.heap.size) args s 0 0 A) (wBig E a t) 46 [(1, .int x1)] []) : ∀ (n : Nat) (x1 : Int32) (x2 : Int32), wLX11_wordsThatFit_4 t Post KX n (x1, x2) → V pr l e rmX11_wordsThatFit s m args below meth c E A 3 0 0 (MQ below (CQi E (fun (z : Int32) (_ : Unit) => Post z) (fun _ => (wBig E a t)) w0 s.heap.size) args s 0 0 A) (wBig E a t) 4 [(0, .ref (a 0 0)), (1, .int x1), (2, .int x2)] [] := by
  intro n
  induction n with
  | zero => intro x1 x2 hw; exact absurd hw id
  | succ n hself =>
    intro x1 x2 hw
    have hw : wlX11_wordsThatFit_4 t Post KX (wLX11_wordsThatFit_4 t Post KX n) x1 x2 := hw
    refine v_iload_n (pc := 4) C 2 rfl rfl dX11_wordsThatFit_4 ?_
    refine v_aload_n (pc := 5) C 0 rfl rfl dX11_wordsThatFit_5 ?_
    refine v_get (pc := 6) C cfX11 rfl 0 1 rfl (by decide) wfX11_19 rfl dX11_wordsThatFit_6 ?_
    refine v_getN (pc := 9) C cfX4 rfl 10 11 rfl (by decide) wfX11_132 rfl dX11_wordsThatFit_9 ?_
    refine v_icmp_ge (pc := 12) C 46 (by decide) dX11_wordsThatFit_12 (fun hc => ?_) (fun hc => ?_)
    · have hw := hw.1 hc
      refine v_sub (lv' := [(1, .int x1)]) [1] rfl ?_
      exact hX x1 hw
    · have hw := hw.2 hc
      refine v_aload_n (pc := 15) C 0 rfl rfl dX11_wordsThatFit_15 ?_
      refine v_get (pc := 16) C cfX11 rfl 0 5 rfl (by decide) wfX11_35 rfl dX11_wordsThatFit_16 ?_
      refine v_aload_n (pc := 19) C 0 rfl rfl dX11_wordsThatFit_19 ?_
      refine v_get (pc := 20) C cfX11 rfl 0 1 rfl (by decide) wfX11_19 rfl dX11_wordsThatFit_20 ?_
      refine v_getN (pc := 23) C cfX4 rfl 10 10 rfl (by decide) wfX11_135 rfl dX11_wordsThatFit_23 ?_
      refine v_iload_n (pc := 26) C 2 rfl rfl dX11_wordsThatFit_26 ?_
      obtain ⟨hg, hw⟩ := hw
      refine v_iald (pc := 27) C 18 rfl hg rfl dX11_wordsThatFit_27 ?_
      refine v_goBi (pc := 28) C (bs := (bsBig E a t)) (cs := [bLost E (a 6) (t 6)]) (cs' := (fun (_ : Unit) => [bLost E (a 6) (t 6)])) (bs' := (fun (_ : Unit) => (bsBig E a t))) (w' := (fun (_ : Unit) => (wBig E a t))) [6] (wBig_fl E a t) rfl (fun _ => rfl) (fun _ => rfl) (fun _ => (wBig_fl _ _ _).symm) (v_runVB (pc := 28) C [.int (((t 2).A 10) x2.toNatClampNeg)] [] (fun sz => ctX2_isFit l E (a 6) (((t 2).A 10) x2.toNatClampNeg) (t 6) hw sz) [6] (wBig_fl E a t) rfl rfl mfX2_isFit mvX2_isFit wmX11_235 rfl ⟨Nat.le_of_ble_eq_true rfl, Nat.le_of_ble_eq_true rfl⟩ ⟨rfl, rfl⟩ 46 (ci := 2) (qc := (RX2, TX2, 4)) rfl rfl rfl rfl (Nat.le_of_ble_eq_true rfl) ⟨Nat.zero_le _, Nat.zero_le _⟩ dX11_wordsThatFit_28) (fun r1 _ hw => ?_)
      refine v_if_eq (pc := 31) C 40 (by decide) dX11_wordsThatFit_31 (fun hc => ?_) (fun hc => ?_)
      · have hw := hw.1 hc
        obtain ⟨x2_2, ex⟩ : ∃ y : Int32, y = x2 + 1 := ⟨_, rfl⟩
        have hw := hw x2_2 ex
        refine v_iinc (pc := 40) C 2 rfl (by rw [ex, ki_1]) [(2, .int x2_2), (0, .ref (a 0 0)), (1, .int x1)] rfl (by decide) dX11_wordsThatFit_40 ?_
        refine v_goto (pc := 43) C 4 (by decide) dX11_wordsThatFit_43 ?_
        refine v_sub (lv' := [(0, .ref (a 0 0)), (1, .int x1), (2, .int x2_2)]) [1, 2, 0] rfl ?_
        exact hself x1 x2_2 hw
      · have hw := hw.2 hc
        refine v_iload_n (pc := 34) C 1 rfl rfl dX11_wordsThatFit_34 ?_
        refine v_iconst (pc := 35) C 1 ki_1 dX11_wordsThatFit_35 ?_
        refine v_iload_n (pc := 36) C 2 rfl rfl dX11_wordsThatFit_36 ?_
        refine v_ishl (pc := 37) C dX11_wordsThatFit_37 ?_
        refine v_ior (pc := 38) C dX11_wordsThatFit_38 ?_
        refine v_topi (fun x1_3 ex => ?_)
        have hw := hw x1_3 ex
        refine v_istore_n (pc := 39) C [(1, .int x1_3), (0, .ref (a 0 0)), (2, .int x2)] rfl rfl (by decide) dX11_wordsThatFit_39 ?_
        obtain ⟨x2_4, ex⟩ : ∃ y : Int32, y = x2 + 1 := ⟨_, rfl⟩
        have hw := hw x2_4 ex
        refine v_iinc (pc := 40) C 2 rfl (by rw [ex, ki_1]) [(2, .int x2_4), (1, .int x1_3), (0, .ref (a 0 0))] rfl (by decide) dX11_wordsThatFit_40 ?_
        refine v_goto (pc := 43) C 4 (by decide) dX11_wordsThatFit_43 ?_
        refine v_sub (lv' := [(0, .ref (a 0 0)), (1, .int x1_3), (2, .int x2_4)]) [2, 1, 0] rfl ?_
        exact hself x1_3 x2_4 hw
set_option maxHeartbeats 4000000 in
set_option maxRecDepth 100000 in
theorem ctX11_wordsThatFit (l : Launch) (E : VE) (a : Nat → Nat → Nat)  (t : Nat → St)  {Post : Int32 → Prop} (hw : wpX11_wordsThatFit t Post) (sz : Nat) : Met l yX11_wordsThatFit (mW yX11_wordsThatFit cX11_wordsThatFit 3 (some .int)) rmX11_wordsThatFit (CPre E [.ref (a 0 0)] sz (wBig E a t)) (CQi E (fun (z : Int32) (_ : Unit) => Post z) (fun _ => (wBig E a t)) (wBig E a t) sz) 0 0 (va_A (wBig E a t) sz) := by
  refine v_met (by decide) (Nat.le_of_ble_eq_true rfl) ?_
  intro pr e s m below meth c A hsz hA C
  subst hsz
  refine v_iconst (pc := 0) C 0 ki_0 dX11_wordsThatFit_0 ?_
  refine v_istore_n (pc := 1) C [(1, .int 0), (0, .ref (a 0 0))] rfl rfl (by decide) dX11_wordsThatFit_1 ?_
  refine v_iconst (pc := 2) C 0 ki_0 dX11_wordsThatFit_2 ?_
  refine v_istore_n (pc := 3) C [(2, .int 0), (1, .int 0), (0, .ref (a 0 0))] rfl rfl (by decide) dX11_wordsThatFit_3 ?_
  obtain ⟨n, hw⟩ := hw
  refine v_sub (lv' := [(0, .ref (a 0 0)), (1, .int 0), (2, .int 0)]) [2, 1, 0] rfl ?_
  refine vlX11_wordsThatFit_4 C hA a t (fun y5 hw => ?_) n 0 0 hw
  refine v_iload_n (pc := 46) C 0 rfl rfl dX11_wordsThatFit_46 ?_
  exact v_ireti (pc := 47) C () hA rfl hw dX11_wordsThatFit_47
set_option maxHeartbeats 4000000 in
set_option maxRecDepth 100000 in
theorem vjX11_lost_62 (C : VC pr s m args meth c E A cX11_lost 9 (some .int) RX11) (hA : va_A w0 s.heap.size = A) (a : Nat → Nat → Nat)  {Post : Int32 → (Nat → St) → Prop} (t : Nat → St) (hw : wjX11_lost_62  Post t) : V pr l e rmX11_lost s m args below meth c E A 9 0 0 (MQ below (CQi E Post (fun u => wBig E a u) w0 s.heap.size) args s 0 0 A) (wBig E a t) 62 [(0, .ref (a 0 0))] [] := by
  refine v_aload_n (pc := 62) C 0 rfl rfl dX11_lost_62 ?_
  refine v_bipush (pc := 63) C (-10) kb_m10 dX11_lost_63 ?_
  refine v_goAi (pc := 65) C (wc' := (fun (u : (Nat → St)) => (wBig E a u))) (fun _ => rfl) (v_runVA (pc := 65) C [.int (-10)] [] (fun sz => ctX11_bad l E a (-10) t hw sz) mfX11_bad mvX11_bad wmX11_77 rfl ⟨Nat.le_of_ble_eq_true rfl, Nat.le_of_ble_eq_true rfl⟩ ⟨rfl, rfl⟩ 0 (ci := 11) (qc := (RX11, TX11, 15)) rfl rfl rfl rfl (Nat.le_of_ble_eq_true rfl) ⟨Nat.zero_le _, Nat.zero_le _⟩ dX11_lost_65) (fun r2 t3 hw => ?_)
  exact v_ireti (pc := 68) C t3 hA rfl hw dX11_lost_68
set_option maxHeartbeats 4000000 in
set_option maxRecDepth 100000 in
theorem vjX11_lost_36 (C : VC pr s m args meth c E A cX11_lost 9 (some .int) RX11) (hA : va_A w0 s.heap.size = A) (a : Nat → Nat → Nat)  {Post : Int32 → (Nat → St) → Prop} (x1 : Int32) (x2 : Int32) (x3 : Int32) (x4 : Int32) (x5 : Int32) (x6 : Int32) (z0 : Int32) (t : Nat → St) (hw : wjX11_lost_36  Post x1 x2 x3 x4 x5 x6 z0 t) : V pr l e rmX11_lost s m args below meth c E A 9 0 0 (MQ below (CQi E Post (fun u => wBig E a u) w0 s.heap.size) args s 0 0 A) (wBig E a t) 36 [(0, .ref (a 0 0)), (1, .int x1), (2, .int x2), (3, .int x3), (4, .int x4), (5, .int x5), (6, .int x6)] [.int z0] := by
  refine v_istore (pc := 36) C [(7, .int z0), (0, .ref (a 0 0)), (1, .int x1), (2, .int x2), (3, .int x3), (4, .int x4), (5, .int x5), (6, .int x6)] rfl (by decide) dX11_lost_36 ?_
  refine v_iload (pc := 38) C 0 rfl dX11_lost_38 ?_
  refine v_if_eq (pc := 40) C 62 (by decide) dX11_lost_40 (fun hc => ?_) (fun hc => ?_)
  · have hw := hw.1 hc
    refine v_sub (lv' := [(0, .ref (a 0 0))]) [1] rfl ?_
    exact vjX11_lost_62 C hA a  t hw
  · have hw := hw.2 hc
    refine v_iload (pc := 43) C 6 rfl dX11_lost_43 ?_
    refine v_goBi (pc := 45) C (bs := (bsBig E a t)) (cs := []) (cs' := (fun (_ : Unit) => [])) (bs' := (fun (_ : Unit) => (bsBig E a t))) (w' := (fun (_ : Unit) => (wBig E a t))) [] (wBig_fl E a t) rfl (fun _ => rfl) (fun _ => rfl) (fun _ => (wBig_fl _ _ _).symm) (v_runSB (pc := 45) C [.int x5] [] (fun sz => ctX11_isDepth l E x5 hw sz) [] (wBig_fl E a t) rfl rfl mfX11_isDepth msX11_isDepth wmX11_195 rfl ⟨Nat.le_of_ble_eq_true rfl, Nat.le_of_ble_eq_true rfl⟩ ⟨rfl, rfl⟩ rfl (Nat.le_of_ble_eq_true rfl) ⟨Nat.zero_le _, Nat.zero_le _⟩ dX11_lost_45) (fun r4 _ hw => ?_)
    refine v_if_eq (pc := 48) C 62 (by decide) dX11_lost_48 (fun hc => ?_) (fun hc => ?_)
    · have hw := hw.1 hc
      refine v_sub (lv' := [(0, .ref (a 0 0))]) [1] rfl ?_
      exact vjX11_lost_62 C hA a  t hw
    · have hw := hw.2 hc
      refine v_iload (pc := 51) C 7 rfl dX11_lost_51 ?_
      refine v_if_lt (pc := 53) C 62 (by decide) dX11_lost_53 (fun hc => ?_) (fun hc => ?_)
      · have hw := hw.1 hc
        refine v_sub (lv' := [(0, .ref (a 0 0))]) [1] rfl ?_
        exact vjX11_lost_62 C hA a  t hw
      · have hw := hw.2 hc
        refine v_iload (pc := 56) C 7 rfl dX11_lost_56 ?_
        refine v_iconst (pc := 58) C 3 ki_3 dX11_lost_58 ?_
        refine v_icmp_le (pc := 59) C 69 (by decide) dX11_lost_59 (fun hc => ?_) (fun hc => ?_)
        · have hw := hw.1 hc
          refine v_aload_n (pc := 69) C 1 rfl rfl dX11_lost_69 ?_
          refine v_get (pc := 70) C cfX11 rfl 0 5 rfl (by decide) wfX11_35 rfl dX11_lost_70 ?_
          refine v_aload_n (pc := 73) C 1 rfl rfl dX11_lost_73 ?_
          refine v_get (pc := 74) C cfX11 rfl 0 1 rfl (by decide) wfX11_19 rfl dX11_lost_74 ?_
          refine v_iload_n (pc := 77) C 2 rfl rfl dX11_lost_77 ?_
          refine v_iload_n (pc := 78) C 3 rfl rfl dX11_lost_78 ?_
          refine v_goBv (pc := 79) C (bs := (bsBig E a t)) (cs := [bLost E (a 6) (t 6), bPad E (a 2) (t 2)]) (cs' := (fun (u : St) => [bLost E (a 6) u, bPad E (a 2) (t 2)])) (bs' := (fun (u : St) => (bsBig E a (upS t 6 u)))) (w' := (fun (u : St) => (wBig E a (upS t 6 u)))) [6, 2] (wBig_fl E a t) rfl (fun _ => rfl) (fun _ => rfl) (fun _ => (wBig_fl _ _ _).symm) (v_runVB (pc := 79) C [.ref (a 2 0), .int x1, .int x2] [] (fun sz => ctX2_look l E (a 6) (a 2) x1 x2 (t 6) (t 2) hw sz) [6, 2] (wBig_fl E a t) rfl rfl mfX2_look mvX2_look wmX11_214 rfl ⟨Nat.le_of_ble_eq_true rfl, Nat.le_of_ble_eq_true rfl⟩ ⟨rfl, rfl⟩ 46 (ci := 2) (qc := (RX2, TX2, 4)) rfl rfl rfl rfl (Nat.le_of_ble_eq_true rfl) ⟨Nat.zero_le _, Nat.zero_le _⟩ dX11_lost_79) (fun p5 hw => ?_)
          obtain ⟨t6, et⟩ : ∃ y : Nat → St, y = upS t 6 p5 := ⟨_, rfl⟩
          have hw := hw t6 et
          refine v_w (w' := wBig E a t6) (by subst et; rfl) ?_
          refine v_aload_n (pc := 82) C 1 rfl rfl dX11_lost_82 ?_
          refine v_get (pc := 83) C cfX11 rfl 0 5 rfl (by decide) wfX11_35 rfl dX11_lost_83 ?_
          refine v_aload_n (pc := 86) C 1 rfl rfl dX11_lost_86 ?_
          refine v_get (pc := 87) C cfX11 rfl 0 0 rfl (by decide) wfX11_12 rfl dX11_lost_87 ?_
          refine v_iload_n (pc := 90) C 4 rfl rfl dX11_lost_90 ?_
          refine v_iload (pc := 91) C 5 rfl dX11_lost_91 ?_
          refine v_iload (pc := 93) C 6 rfl dX11_lost_93 ?_
          refine v_goBi (pc := 95) C (bs := (bsBig E a t6)) (cs := [bBox E (a 1)]) (cs' := (fun (_ : Unit) => [bBox E (a 1)])) (bs' := (fun (_ : Unit) => (bsBig E a t6))) (w' := (fun (_ : Unit) => (wBig E a t6))) [1] (wBig_fl E a t6) rfl (fun _ => rfl) (fun _ => rfl) (fun _ => (wBig_fl _ _ _).symm) (v_runVB (pc := 95) C [.int x3, .int x4, .int x5] [.ref (a 6 0)] (fun sz => ctX5_forceOf l E (a 1) x3 x4 x5 hw sz) [1] (wBig_fl E a t6) rfl rfl mfX5_forceOf mvX5_forceOf wmX11_198 rfl ⟨Nat.le_of_ble_eq_true rfl, Nat.le_of_ble_eq_true rfl⟩ ⟨rfl, rfl⟩ 2 (ci := 5) (qc := (RX5, TX5, 1)) rfl rfl rfl rfl (Nat.le_of_ble_eq_true rfl) ⟨Nat.zero_le _, Nat.zero_le _⟩ dX11_lost_95) (fun r7 _ hw => ?_)
          refine v_goBi (pc := 98) C (bs := (bsBig E a t6)) (cs := [bLost E (a 6) (t6 6)]) (cs' := (fun (u : St) => [bLost E (a 6) u])) (bs' := (fun (u : St) => (bsBig E a (upS t6 6 u)))) (w' := (fun (u : St) => (wBig E a (upS t6 6 u)))) [6] (wBig_fl E a t6) rfl (fun _ => rfl) (fun _ => rfl) (fun _ => (wBig_fl _ _ _).symm) (v_runVB (pc := 98) C [.int r7] [] (fun sz => ctX2_guess l E (a 6) r7 (t6 6) hw sz) [6] (wBig_fl E a t6) rfl rfl mfX2_guess mvX2_guess wmX11_218 rfl ⟨Nat.le_of_ble_eq_true rfl, Nat.le_of_ble_eq_true rfl⟩ ⟨rfl, rfl⟩ 46 (ci := 2) (qc := (RX2, TX2, 4)) rfl rfl rfl rfl (Nat.le_of_ble_eq_true rfl) ⟨Nat.zero_le _, Nat.zero_le _⟩ dX11_lost_98) (fun r8 p9 hw => ?_)
          obtain ⟨t10, et⟩ : ∃ y : Nat → St, y = upS t6 6 p9 := ⟨_, rfl⟩
          have hw := hw t10 et
          refine v_w (w' := wBig E a t10) (by subst et; rfl) ?_
          refine v_istore (pc := 101) C [(8, .int r8), (7, .int z0), (0, .ref (a 0 0)), (1, .int x1), (2, .int x2), (3, .int x3), (4, .int x4), (5, .int x5), (6, .int x6)] rfl (by decide) dX11_lost_101 ?_
          refine v_iload (pc := 103) C 0 rfl dX11_lost_103 ?_
          refine v_if_ne (pc := 105) C 120 (by decide) dX11_lost_105 (fun hc => ?_) (fun hc => ?_)
          · have hw := hw.1 hc
            refine v_iload (pc := 120) C 8 rfl dX11_lost_120 ?_
            by_cases hc0 : x6 = 0
            · have hw := hw.1 hc0
              refine v_tblIn (pc := 122) C (off := 26) 148 dX11_lost_122 (by rw [hc0]; decide) (by rw [hc0]; decide) (by rw [hc0]; decide) (by decide) ?_
              refine v_aload_n (pc := 148) C 2 rfl rfl dX11_lost_148 ?_
              refine v_get (pc := 149) C cfX11 rfl 0 5 rfl (by decide) wfX11_35 rfl dX11_lost_149 ?_
              refine v_getN (pc := 152) C cfX2 rfl 46 2 rfl (by decide) wfX11_221 rfl dX11_lost_152 ?_
              exact v_ireti (pc := 155) C t10 hA rfl hw dX11_lost_155
            replace hw := hw.2
            by_cases hc1 : x6 = 1
            · have hw := hw.1 hc1
              refine v_tblIn (pc := 122) C (off := 34) 156 dX11_lost_122 (by rw [hc1]; decide) (by rw [hc1]; decide) (by rw [hc1]; decide) (by decide) ?_
              refine v_aload_n (pc := 156) C 2 rfl rfl dX11_lost_156 ?_
              refine v_get (pc := 157) C cfX11 rfl 0 5 rfl (by decide) wfX11_35 rfl dX11_lost_157 ?_
              refine v_getN (pc := 160) C cfX2 rfl 46 3 rfl (by decide) wfX11_224 rfl dX11_lost_160 ?_
              exact v_ireti (pc := 163) C t10 hA rfl hw dX11_lost_163
            replace hw := hw.2
            by_cases hc2 : x6 = 2
            · have hw := hw.1 hc2
              refine v_tblIn (pc := 122) C (off := 42) 164 dX11_lost_122 (by rw [hc2]; decide) (by rw [hc2]; decide) (by rw [hc2]; decide) (by decide) ?_
              refine v_iconst (pc := 164) C 1 ki_1 dX11_lost_164 ?_
              refine v_aload_n (pc := 165) C 2 rfl rfl dX11_lost_165 ?_
              refine v_get (pc := 166) C cfX11 rfl 0 5 rfl (by decide) wfX11_35 rfl dX11_lost_166 ?_
              refine v_getN (pc := 169) C cfX2 rfl 46 3 rfl (by decide) wfX11_224 rfl dX11_lost_169 ?_
              refine v_aload_n (pc := 172) C 2 rfl rfl dX11_lost_172 ?_
              refine v_get (pc := 173) C cfX11 rfl 0 5 rfl (by decide) wfX11_35 rfl dX11_lost_173 ?_
              refine v_getN (pc := 176) C cfX2 rfl 46 2 rfl (by decide) wfX11_221 rfl dX11_lost_176 ?_
              refine v_iconst (pc := 179) C (-1) ki_m1 dX11_lost_179 ?_
              refine v_ixor (pc := 180) C dX11_lost_180 ?_
              refine v_iand (pc := 181) C dX11_lost_181 ?_
              refine v_goBi (pc := 182) C (bs := (bsBig E a t10)) (cs := []) (cs' := (fun (_ : Unit) => [])) (bs' := (fun (_ : Unit) => (bsBig E a t10))) (w' := (fun (_ : Unit) => (wBig E a t10))) [] (wBig_fl E a t10) rfl (fun _ => rfl) (fun _ => rfl) (fun _ => (wBig_fl _ _ _).symm) (v_runSB (pc := 182) C [.int (((t10 6).I 3) &&& (((t10 6).I 2) ^^^ (-1)))] [.int 1] (fun sz => ctJ6_bitCount_0f7a4 l E (((t10 6).I 3) &&& (((t10 6).I 2) ^^^ (-1))) hw sz) [] (wBig_fl E a t10) rfl rfl mfJ6_bitCount_0f7a4 msJ6_bitCount_0f7a4 wmX11_227 rfl ⟨Nat.le_of_ble_eq_true rfl, Nat.le_of_ble_eq_true rfl⟩ ⟨rfl, rfl⟩ rfl (Nat.le_of_ble_eq_true rfl) ⟨Nat.zero_le _, Nat.zero_le _⟩ dX11_lost_182) (fun r11 _ hw => ?_)
              refine v_ishl (pc := 185) C dX11_lost_185 ?_
              exact v_ireti (pc := 186) C t10 hA rfl hw dX11_lost_186
            replace hw := hw.2
            replace hw := hw hc0 hc1 hc2
            refine v_tblOut (pc := 122) C 187 (by decide) dX11_lost_122 (tblo (k := 2) (by decide) (fun j hj => by rcases (show j = 0 ∨ j = 1 ∨ j = 2 by omega) with rfl | rfl | rfl <;> assumption)) ?_
            refine v_aload_n (pc := 187) C 2 rfl rfl dX11_lost_187 ?_
            refine v_goAi (pc := 188) C (wc' := (fun (_ : Unit) => (wBig E a t10))) (fun _ => rfl) (v_runVA (pc := 188) C [] [] (fun sz => ctX11_wordsThatFit l E a t10 hw sz) mfX11_wordsThatFit mvX11_wordsThatFit wmX11_232 rfl ⟨Nat.le_of_ble_eq_true rfl, Nat.le_of_ble_eq_true rfl⟩ ⟨rfl, rfl⟩ 0 (ci := 11) (qc := (RX11, TX11, 15)) rfl rfl rfl rfl (Nat.le_of_ble_eq_true rfl) ⟨Nat.zero_le _, Nat.zero_le _⟩ dX11_lost_188) (fun r12 _ hw => ?_)
            exact v_ireti (pc := 191) C t10 hA rfl hw dX11_lost_191
          · have hw := hw.2 hc
            refine v_iload (pc := 108) C 8 rfl dX11_lost_108 ?_
            refine v_iconst (pc := 110) C 2 ki_2 dX11_lost_110 ?_
            refine v_icmp_ge (pc := 111) C 118 (by decide) dX11_lost_111 (fun hc => ?_) (fun hc => ?_)
            · have hw := hw.1 hc
              refine v_iconst (pc := 118) C 0 ki_0 dX11_lost_118 ?_
              exact v_ireti (pc := 119) C t10 hA rfl hw dX11_lost_119
            · have hw := hw.2 hc
              refine v_iconst (pc := 114) C (-1) ki_m1 dX11_lost_114 ?_
              refine v_goto (pc := 115) C 119 (by decide) dX11_lost_115 ?_
              exact v_ireti (pc := 119) C t10 hA rfl hw dX11_lost_119
        · have hw := hw.2 hc
          refine v_sub (lv' := [(0, .ref (a 0 0))]) [1] rfl ?_
          exact vjX11_lost_62 C hA a  t hw
set_option maxHeartbeats 4000000 in
set_option maxRecDepth 100000 in
theorem ctX11_lost (l : Launch) (E : VE) (a : Nat → Nat → Nat) (x1 : Int32) (x2 : Int32) (x3 : Int32) (x4 : Int32) (x5 : Int32) (x6 : Int32) (t : Nat → St)  {Post : Int32 → (Nat → St) → Prop} (hw : wpX11_lost x1 x2 x3 x4 x5 x6 t Post) (sz : Nat) : Met l yX11_lost (mW yX11_lost cX11_lost 9 (some .int)) rmX11_lost (CPre E [.ref (a 0 0), .int x1, .int x2, .int x3, .int x4, .int x5, .int x6] sz (wBig E a t)) (CQi E Post (fun u => wBig E a u) (wBig E a t) sz) 0 0 (va_A (wBig E a t) sz) := by
  refine v_met (by decide) (Nat.le_of_ble_eq_true rfl) ?_
  intro pr e s m below meth c A hsz hA C
  subst hsz
  refine v_aload_n (pc := 0) C 0 rfl rfl dX11_lost_0 ?_
  refine v_get (pc := 1) C cfX11 rfl 0 1 rfl (by decide) wfX11_19 rfl dX11_lost_1 ?_
  refine v_iload_n (pc := 4) C 1 rfl rfl dX11_lost_4 ?_
  refine v_goBi (pc := 5) C (bs := (bsBig E a t)) (cs := [bPad E (a 2) (t 2)]) (cs' := (fun (_ : Unit) => [bPad E (a 2) (t 2)])) (bs' := (fun (_ : Unit) => (bsBig E a t))) (w' := (fun (_ : Unit) => (wBig E a t))) [2] (wBig_fl E a t) rfl (fun _ => rfl) (fun _ => rfl) (fun _ => (wBig_fl _ _ _).symm) (v_runVB (pc := 5) C [.int x1] [] (fun sz => ctX4_hasSheet l E (a 2) x1 (t 2) hw sz) [2] (wBig_fl E a t) rfl rfl mfX4_hasSheet mvX4_hasSheet wmX11_155 rfl ⟨Nat.le_of_ble_eq_true rfl, Nat.le_of_ble_eq_true rfl⟩ ⟨rfl, rfl⟩ 10 (ci := 4) (qc := (RX4, TX4, 12)) rfl rfl rfl rfl (Nat.le_of_ble_eq_true rfl) ⟨Nat.zero_le _, Nat.zero_le _⟩ dX11_lost_5) (fun r1 _ hw => ?_)
  refine v_if_eq (pc := 8) C 35 (by decide) dX11_lost_8 (fun hc => ?_) (fun hc => ?_)
  · have hw := hw.1 hc
    refine v_iconst (pc := 35) C 0 ki_0 dX11_lost_35 ?_
    refine v_sub (lv' := [(0, .ref (a 0 0)), (1, .int x1), (2, .int x2), (3, .int x3), (4, .int x4), (5, .int x5), (6, .int x6)]) [0, 1, 2, 3, 4, 5, 6] rfl ?_
    exact vjX11_lost_36 C hA a  x1 x2 x3 x4 x5 x6 0 t hw
  · have hw := hw.2 hc
    refine v_aload_n (pc := 11) C 0 rfl rfl dX11_lost_11 ?_
    refine v_get (pc := 12) C cfX11 rfl 0 1 rfl (by decide) wfX11_19 rfl dX11_lost_12 ?_
    refine v_iload_n (pc := 15) C 2 rfl rfl dX11_lost_15 ?_
    refine v_goBi (pc := 16) C (bs := (bsBig E a t)) (cs := [bPad E (a 2) (t 2)]) (cs' := (fun (_ : Unit) => [bPad E (a 2) (t 2)])) (bs' := (fun (_ : Unit) => (bsBig E a t))) (w' := (fun (_ : Unit) => (wBig E a t))) [2] (wBig_fl E a t) rfl (fun _ => rfl) (fun _ => rfl) (fun _ => (wBig_fl _ _ _).symm) (v_runVB (pc := 16) C [.int x2] [] (fun sz => ctX4_hasNotes l E (a 2) x2 (t 2) hw sz) [2] (wBig_fl E a t) rfl rfl mfX4_hasNotes mvX4_hasNotes wmX11_211 rfl ⟨Nat.le_of_ble_eq_true rfl, Nat.le_of_ble_eq_true rfl⟩ ⟨rfl, rfl⟩ 10 (ci := 4) (qc := (RX4, TX4, 12)) rfl rfl rfl rfl (Nat.le_of_ble_eq_true rfl) ⟨Nat.zero_le _, Nat.zero_le _⟩ dX11_lost_16) (fun r13 _ hw => ?_)
    refine v_if_eq (pc := 19) C 35 (by decide) dX11_lost_19 (fun hc => ?_) (fun hc => ?_)
    · have hw := hw.1 hc
      refine v_iconst (pc := 35) C 0 ki_0 dX11_lost_35 ?_
      refine v_sub (lv' := [(0, .ref (a 0 0)), (1, .int x1), (2, .int x2), (3, .int x3), (4, .int x4), (5, .int x5), (6, .int x6)]) [0, 1, 2, 3, 4, 5, 6] rfl ?_
      exact vjX11_lost_36 C hA a  x1 x2 x3 x4 x5 x6 0 t hw
    · have hw := hw.2 hc
      refine v_iload_n (pc := 22) C 3 rfl rfl dX11_lost_22 ?_
      refine v_iload (pc := 23) C 4 rfl dX11_lost_23 ?_
      refine v_goBi (pc := 25) C (bs := (bsBig E a t)) (cs := []) (cs' := (fun (_ : Unit) => [])) (bs' := (fun (_ : Unit) => (bsBig E a t))) (w' := (fun (_ : Unit) => (wBig E a t))) [] (wBig_fl E a t) rfl (fun _ => rfl) (fun _ => rfl) (fun _ => (wBig_fl _ _ _).symm) (v_runSB (pc := 25) C [.int x3, .int x4] [] (fun sz => ctX11_isPen l E x3 x4 hw sz) [] (wBig_fl E a t) rfl rfl mfX11_isPen msX11_isPen wmX11_95 rfl ⟨Nat.le_of_ble_eq_true rfl, Nat.le_of_ble_eq_true rfl⟩ ⟨rfl, rfl⟩ rfl (Nat.le_of_ble_eq_true rfl) ⟨Nat.zero_le _, Nat.zero_le _⟩ dX11_lost_25) (fun r14 _ hw => ?_)
      refine v_if_eq (pc := 28) C 35 (by decide) dX11_lost_28 (fun hc => ?_) (fun hc => ?_)
      · have hw := hw.1 hc
        refine v_iconst (pc := 35) C 0 ki_0 dX11_lost_35 ?_
        refine v_sub (lv' := [(0, .ref (a 0 0)), (1, .int x1), (2, .int x2), (3, .int x3), (4, .int x4), (5, .int x5), (6, .int x6)]) [0, 1, 2, 3, 4, 5, 6] rfl ?_
        exact vjX11_lost_36 C hA a  x1 x2 x3 x4 x5 x6 0 t hw
      · have hw := hw.2 hc
        refine v_iconst (pc := 31) C 1 ki_1 dX11_lost_31 ?_
        refine v_goto (pc := 32) C 36 (by decide) dX11_lost_32 ?_
        refine v_sub (lv' := [(0, .ref (a 0 0)), (1, .int x1), (2, .int x2), (3, .int x3), (4, .int x4), (5, .int x5), (6, .int x6)]) [0, 1, 2, 3, 4, 5, 6] rfl ?_
        exact vjX11_lost_36 C hA a  x1 x2 x3 x4 x5 x6 1 t hw
set_option maxHeartbeats 4000000 in
set_option maxRecDepth 100000 in
theorem vjX11_pen_65 (C : VC pr s m args meth c E A cX11_pen 11 (some .int) RX11) (hA : va_A w0 s.heap.size = A) (a : Nat → Nat → Nat)  {Post : Int32 → (Nat → St) → Prop} (t : Nat → St) (hw : wjX11_pen_65  Post t) : V pr l e rmX11_pen s m args below meth c E A 11 0 0 (MQ below (CQi E Post (fun u => wBig E a u) w0 s.heap.size) args s 0 0 A) (wBig E a t) 65 [(0, .ref (a 0 0))] [] := by
  refine v_aload_n (pc := 65) C 0 rfl rfl dX11_pen_65 ?_
  refine v_bipush (pc := 66) C (-10) kb_m10 dX11_pen_66 ?_
  refine v_goAi (pc := 68) C (wc' := (fun (u : (Nat → St)) => (wBig E a u))) (fun _ => rfl) (v_runVA (pc := 68) C [.int (-10)] [] (fun sz => ctX11_bad l E a (-10) t hw sz) mfX11_bad mvX11_bad wmX11_77 rfl ⟨Nat.le_of_ble_eq_true rfl, Nat.le_of_ble_eq_true rfl⟩ ⟨rfl, rfl⟩ 0 (ci := 11) (qc := (RX11, TX11, 15)) rfl rfl rfl rfl (Nat.le_of_ble_eq_true rfl) ⟨Nat.zero_le _, Nat.zero_le _⟩ dX11_pen_68) (fun r2 t3 hw => ?_)
  exact v_ireti (pc := 71) C t3 hA rfl hw dX11_pen_71
set_option maxHeartbeats 4000000 in
set_option maxRecDepth 100000 in
theorem vlX11_pen_104 (C : VC pr s m args meth c E A cX11_pen 11 (some .int) RX11) (hA : va_A w0 s.heap.size = A) (a : Nat → Nat → Nat)  {Post : Int32 → (Nat → St) → Prop} {KX : Int32 → Int32 → Int32 → Int32 → Int32 → Int32 → (Nat → St) → Prop} (hX : ∀ (x3 : Int32) (x4 : Int32) (x5 : Int32) (x7 : Int32) (x8 : Int32) (x9 : Int32) (t : Nat → St), KX x3 x4 x5 x7 x8 x9 t → V pr l e rmX11_pen s m args below meth c E A 11 0 0 (MQ below (CQi E Post (fun u => wBig E a u) w0 s.heap.size) args s 0 0 A) (wBig E a t) 175 [(0, .ref (a 0 0)), (3, .int x3), (4, .int x4), (5, .int x5), (7, .int x7), (8, .int x8), (9, .int x9)] []) : ∀ (n : Nat) (x3 : Int32) (x4 : Int32) (x5 : Int32) (x7 : Int32) (x8 : Int32) (x9 : Int32) (x10 : Int32) (t : Nat → St), wLX11_pen_104  Post KX n (x3, x4, x5, x7, x8, x9, x10, t) → V pr l e rmX11_pen s m args below meth c E A 11 0 0 (MQ below (CQi E Post (fun u => wBig E a u) w0 s.heap.size) args s 0 0 A) (wBig E a t) 104 [(0, .ref (a 0 0)), (3, .int x3), (4, .int x4), (5, .int x5), (7, .int x7), (8, .int x8), (9, .int x9), (10, .int x10)] [] := by
  intro n
  induction n with
  | zero => intro x3 x4 x5 x7 x8 x9 x10 t hw; exact absurd hw id
  | succ n hself =>
    intro x3 x4 x5 x7 x8 x9 x10 t hw
    have hw : wlX11_pen_104  Post KX (wLX11_pen_104  Post KX n) x3 x4 x5 x7 x8 x9 x10 t := hw
    refine v_iload (pc := 104) C 7 rfl dX11_pen_104 ?_
    refine v_bipush (pc := 106) C 9 kb_9 dX11_pen_106 ?_
    refine v_icmp_gt (pc := 108) C 175 (by decide) dX11_pen_108 (fun hc => ?_) (fun hc => ?_)
    · have hw := hw.1 hc
      refine v_sub (lv' := [(0, .ref (a 0 0)), (3, .int x3), (4, .int x4), (5, .int x5), (7, .int x7), (8, .int x8), (9, .int x9)]) [0, 1, 2, 3, 4, 5, 6] rfl ?_
      exact hX x3 x4 x5 x7 x8 x9 t hw
    · have hw := hw.2 hc
      refine v_aload_n (pc := 111) C 0 rfl rfl dX11_pen_111 ?_
      refine v_get (pc := 112) C cfX11 rfl 0 5 rfl (by decide) wfX11_35 rfl dX11_pen_112 ?_
      refine v_aload_n (pc := 115) C 0 rfl rfl dX11_pen_115 ?_
      refine v_get (pc := 116) C cfX11 rfl 0 0 rfl (by decide) wfX11_12 rfl dX11_pen_116 ?_
      refine v_iload (pc := 119) C 6 rfl dX11_pen_119 ?_
      refine v_iload (pc := 121) C 7 rfl dX11_pen_121 ?_
      refine v_iload_n (pc := 123) C 1 rfl rfl dX11_pen_123 ?_
      refine v_goBi (pc := 124) C (bs := (bsBig E a t)) (cs := [bBox E (a 1)]) (cs' := (fun (_ : Unit) => [bBox E (a 1)])) (bs' := (fun (_ : Unit) => (bsBig E a t))) (w' := (fun (_ : Unit) => (wBig E a t))) [1] (wBig_fl E a t) rfl (fun _ => rfl) (fun _ => rfl) (fun _ => (wBig_fl _ _ _).symm) (v_runVB (pc := 124) C [.int x9, .int x10, .int x3] [.ref (a 6 0)] (fun sz => ctX5_forceOf l E (a 1) x9 x10 x3 hw sz) [1] (wBig_fl E a t) rfl rfl mfX5_forceOf mvX5_forceOf wmX11_198 rfl ⟨Nat.le_of_ble_eq_true rfl, Nat.le_of_ble_eq_true rfl⟩ ⟨rfl, rfl⟩ 2 (ci := 5) (qc := (RX5, TX5, 1)) rfl rfl rfl rfl (Nat.le_of_ble_eq_true rfl) ⟨Nat.zero_le _, Nat.zero_le _⟩ dX11_pen_124) (fun r8 _ hw => ?_)
      refine v_goBi (pc := 127) C (bs := (bsBig E a t)) (cs := [bLost E (a 6) (t 6)]) (cs' := (fun (u : St) => [bLost E (a 6) u])) (bs' := (fun (u : St) => (bsBig E a (upS t 6 u)))) (w' := (fun (u : St) => (wBig E a (upS t 6 u)))) [6] (wBig_fl E a t) rfl (fun _ => rfl) (fun _ => rfl) (fun _ => (wBig_fl _ _ _).symm) (v_runVB (pc := 127) C [.int r8] [] (fun sz => ctX2_guess l E (a 6) r8 (t 6) hw sz) [6] (wBig_fl E a t) rfl rfl mfX2_guess mvX2_guess wmX11_218 rfl ⟨Nat.le_of_ble_eq_true rfl, Nat.le_of_ble_eq_true rfl⟩ ⟨rfl, rfl⟩ 46 (ci := 2) (qc := (RX2, TX2, 4)) rfl rfl rfl rfl (Nat.le_of_ble_eq_true rfl) ⟨Nat.zero_le _, Nat.zero_le _⟩ dX11_pen_127) (fun r9 p10 hw => ?_)
      obtain ⟨t11, et⟩ : ∃ y : Nat → St, y = upS t 6 p10 := ⟨_, rfl⟩
      have hw := hw t11 et
      refine v_w (w' := wBig E a t11) (by subst et; rfl) ?_
      refine v_if_eq (pc := 130) C 169 (by decide) dX11_pen_130 (fun hc => ?_) (fun hc => ?_)
      · have hw := hw.1 hc
        obtain ⟨x10_12, ex⟩ : ∃ y : Int32, y = x10 + 1 := ⟨_, rfl⟩
        have hw := hw x10_12 ex
        refine v_iinc (pc := 169) C 7 rfl (by rw [ex, ki_1]) [(10, .int x10_12), (0, .ref (a 0 0)), (3, .int x3), (4, .int x4), (5, .int x5), (7, .int x7), (8, .int x8), (9, .int x9)] rfl (by decide) dX11_pen_169 ?_
        refine v_goto (pc := 172) C 104 (by decide) dX11_pen_172 ?_
        refine v_sub (lv' := [(0, .ref (a 0 0)), (3, .int x3), (4, .int x4), (5, .int x5), (7, .int x7), (8, .int x8), (9, .int x9), (10, .int x10_12)]) [1, 2, 3, 4, 5, 6, 7, 0] rfl ?_
        exact hself x3 x4 x5 x7 x8 x9 x10_12 t11 hw
      · have hw := hw.2 hc
        refine v_aload_n (pc := 133) C 0 rfl rfl dX11_pen_133 ?_
        refine v_get (pc := 134) C cfX11 rfl 0 5 rfl (by decide) wfX11_35 rfl dX11_pen_134 ?_
        refine v_iload (pc := 137) C 2 rfl dX11_pen_137 ?_
        refine v_goBi (pc := 139) C (bs := (bsBig E a t11)) (cs := [bLost E (a 6) (t11 6)]) (cs' := (fun (_ : Unit) => [bLost E (a 6) (t11 6)])) (bs' := (fun (_ : Unit) => (bsBig E a t11))) (w' := (fun (_ : Unit) => (wBig E a t11))) [6] (wBig_fl E a t11) rfl (fun _ => rfl) (fun _ => rfl) (fun _ => (wBig_fl _ _ _).symm) (v_runVB (pc := 139) C [.int x4] [] (fun sz => ctX2_isFit l E (a 6) x4 (t11 6) hw sz) [6] (wBig_fl E a t11) rfl rfl mfX2_isFit mvX2_isFit wmX11_235 rfl ⟨Nat.le_of_ble_eq_true rfl, Nat.le_of_ble_eq_true rfl⟩ ⟨rfl, rfl⟩ 46 (ci := 2) (qc := (RX2, TX2, 4)) rfl rfl rfl rfl (Nat.le_of_ble_eq_true rfl) ⟨Nat.zero_le _, Nat.zero_le _⟩ dX11_pen_139) (fun r13 _ hw => ?_)
        refine v_if_eq (pc := 142) C 169 (by decide) dX11_pen_142 (fun hc => ?_) (fun hc => ?_)
        · have hw := hw.1 hc
          obtain ⟨x10_14, ex⟩ : ∃ y : Int32, y = x10 + 1 := ⟨_, rfl⟩
          have hw := hw x10_14 ex
          refine v_iinc (pc := 169) C 7 rfl (by rw [ex, ki_1]) [(10, .int x10_14), (0, .ref (a 0 0)), (3, .int x3), (4, .int x4), (5, .int x5), (7, .int x7), (8, .int x8), (9, .int x9)] rfl (by decide) dX11_pen_169 ?_
          refine v_goto (pc := 172) C 104 (by decide) dX11_pen_172 ?_
          refine v_sub (lv' := [(0, .ref (a 0 0)), (3, .int x3), (4, .int x4), (5, .int x5), (7, .int x7), (8, .int x8), (9, .int x9), (10, .int x10_14)]) [1, 2, 3, 4, 5, 6, 7, 0] rfl ?_
          exact hself x3 x4 x5 x7 x8 x9 x10_14 t11 hw
        · have hw := hw.2 hc
          obtain ⟨x7_15, ex⟩ : ∃ y : Int32, y = x7 + 1 := ⟨_, rfl⟩
          have hw := hw x7_15 ex
          refine v_iinc (pc := 145) C 4 rfl (by rw [ex, ki_1]) [(7, .int x7_15), (0, .ref (a 0 0)), (3, .int x3), (4, .int x4), (5, .int x5), (8, .int x8), (9, .int x9), (10, .int x10)] rfl (by decide) dX11_pen_145 ?_
          refine v_iload (pc := 148) C 5 rfl dX11_pen_148 ?_
          refine v_iconst (pc := 150) C (-1) ki_m1 dX11_pen_150 ?_
          refine v_icmp_ne (pc := 151) C 165 (by decide) dX11_pen_151 (fun hc => ?_) (fun hc => ?_)
          · have hw := hw.1 hc
            refine v_iload (pc := 165) C 5 rfl dX11_pen_165 ?_
            refine v_istore (pc := 167) C [(8, .int x8), (7, .int x7_15), (0, .ref (a 0 0)), (3, .int x3), (4, .int x4), (5, .int x5), (9, .int x9), (10, .int x10)] rfl (by decide) dX11_pen_167 ?_
            obtain ⟨x10_16, ex⟩ : ∃ y : Int32, y = x10 + 1 := ⟨_, rfl⟩
            have hw := hw x10_16 ex
            refine v_iinc (pc := 169) C 7 rfl (by rw [ex, ki_1]) [(10, .int x10_16), (8, .int x8), (7, .int x7_15), (0, .ref (a 0 0)), (3, .int x3), (4, .int x4), (5, .int x5), (9, .int x9)] rfl (by decide) dX11_pen_169 ?_
            refine v_goto (pc := 172) C 104 (by decide) dX11_pen_172 ?_
            refine v_sub (lv' := [(0, .ref (a 0 0)), (3, .int x3), (4, .int x4), (5, .int x5), (7, .int x7_15), (8, .int x8), (9, .int x9), (10, .int x10_16)]) [3, 4, 5, 6, 2, 1, 7, 0] rfl ?_
            exact hself x3 x4 x5 x7_15 x8 x9 x10_16 t11 hw
          · have hw := hw.2 hc
            refine v_bipush (pc := 154) C 10 kb_10 dX11_pen_154 ?_
            refine v_iload (pc := 156) C 6 rfl dX11_pen_156 ?_
            refine v_imul (pc := 158) C dX11_pen_158 ?_
            refine v_iload (pc := 159) C 7 rfl dX11_pen_159 ?_
            refine v_iadd (pc := 161) C dX11_pen_161 ?_
            refine v_goto (pc := 162) C 167 (by decide) dX11_pen_162 ?_
            refine v_topi (fun x8_17 ex => ?_)
            have hw := hw x8_17 ex
            refine v_istore (pc := 167) C [(8, .int x8_17), (7, .int x7_15), (0, .ref (a 0 0)), (3, .int x3), (4, .int x4), (5, .int x5), (9, .int x9), (10, .int x10)] rfl (by decide) dX11_pen_167 ?_
            obtain ⟨x10_18, ex⟩ : ∃ y : Int32, y = x10 + 1 := ⟨_, rfl⟩
            have hw := hw x10_18 ex
            refine v_iinc (pc := 169) C 7 rfl (by rw [ex, ki_1]) [(10, .int x10_18), (8, .int x8_17), (7, .int x7_15), (0, .ref (a 0 0)), (3, .int x3), (4, .int x4), (5, .int x5), (9, .int x9)] rfl (by decide) dX11_pen_169 ?_
            refine v_goto (pc := 172) C 104 (by decide) dX11_pen_172 ?_
            refine v_sub (lv' := [(0, .ref (a 0 0)), (3, .int x3), (4, .int x4), (5, .int x5), (7, .int x7_15), (8, .int x8_17), (9, .int x9), (10, .int x10_18)]) [3, 4, 5, 6, 2, 1, 7, 0] rfl ?_
            exact hself x3 x4 x5 x7_15 x8_17 x9 x10_18 t11 hw
set_option maxHeartbeats 4000000 in
set_option maxRecDepth 100000 in
theorem vlX11_pen_94 (C : VC pr s m args meth c E A cX11_pen 11 (some .int) RX11) (hA : va_A w0 s.heap.size = A) (a : Nat → Nat → Nat)  {Post : Int32 → (Nat → St) → Prop} {KX : Int32 → Int32 → Int32 → (Nat → St) → Prop} (hX : ∀ (x5 : Int32) (x7 : Int32) (x8 : Int32) (t : Nat → St), KX x5 x7 x8 t → V pr l e rmX11_pen s m args below meth c E A 11 0 0 (MQ below (CQi E Post (fun u => wBig E a u) w0 s.heap.size) args s 0 0 A) (wBig E a t) 181 [(5, .int x5), (7, .int x7), (8, .int x8)] []) : ∀ (n : Nat) (x3 : Int32) (x4 : Int32) (x5 : Int32) (x7 : Int32) (x8 : Int32) (x9 : Int32) (t : Nat → St), wLX11_pen_94  Post KX n (x3, x4, x5, x7, x8, x9, t) → V pr l e rmX11_pen s m args below meth c E A 11 0 0 (MQ below (CQi E Post (fun u => wBig E a u) w0 s.heap.size) args s 0 0 A) (wBig E a t) 94 [(0, .ref (a 0 0)), (3, .int x3), (4, .int x4), (5, .int x5), (7, .int x7), (8, .int x8), (9, .int x9)] [] := by
  intro n
  induction n with
  | zero => intro x3 x4 x5 x7 x8 x9 t hw; exact absurd hw id
  | succ n hself =>
    intro x3 x4 x5 x7 x8 x9 t hw
    have hw : wlX11_pen_94  Post KX (wLX11_pen_94  Post KX n) x3 x4 x5 x7 x8 x9 t := hw
    refine v_iload (pc := 94) C 6 rfl dX11_pen_94 ?_
    refine v_bipush (pc := 96) C 6 kb_6 dX11_pen_96 ?_
    refine v_icmp_ge (pc := 98) C 181 (by decide) dX11_pen_98 (fun hc => ?_) (fun hc => ?_)
    · have hw := hw.1 hc
      refine v_sub (lv' := [(5, .int x5), (7, .int x7), (8, .int x8)]) [3, 4, 5] rfl ?_
      exact hX x5 x7 x8 t hw
    · have hw := hw.2 hc
      refine v_iconst (pc := 101) C 1 ki_1 dX11_pen_101 ?_
      refine v_istore (pc := 102) C [(10, .int 1), (0, .ref (a 0 0)), (3, .int x3), (4, .int x4), (5, .int x5), (7, .int x7), (8, .int x8), (9, .int x9)] rfl (by decide) dX11_pen_102 ?_
      obtain ⟨n, hw⟩ := hw
      refine v_sub (lv' := [(0, .ref (a 0 0)), (3, .int x3), (4, .int x4), (5, .int x5), (7, .int x7), (8, .int x8), (9, .int x9), (10, .int 1)]) [1, 2, 3, 4, 5, 6, 7, 0] rfl ?_
      refine vlX11_pen_104 C hA a  (fun y19 y20 y21 y22 y23 y24 t25 hw => ?_) n x3 x4 x5 x7 x8 x9 1 t hw
      obtain ⟨x9_26, ex⟩ : ∃ y : Int32, y = y24 + 1 := ⟨_, rfl⟩
      have hw := hw x9_26 ex
      refine v_iinc (pc := 175) C 6 rfl (by rw [ex, ki_1]) [(9, .int x9_26), (0, .ref (a 0 0)), (3, .int y19), (4, .int y20), (5, .int y21), (7, .int y22), (8, .int y23)] rfl (by decide) dX11_pen_175 ?_
      refine v_goto (pc := 178) C 94 (by decide) dX11_pen_178 ?_
      refine v_sub (lv' := [(0, .ref (a 0 0)), (3, .int y19), (4, .int y20), (5, .int y21), (7, .int y22), (8, .int y23), (9, .int x9_26)]) [1, 2, 3, 4, 5, 6, 0] rfl ?_
      exact hself y19 y20 y21 y22 y23 x9_26 t25 hw
set_option maxHeartbeats 4000000 in
set_option maxRecDepth 100000 in
theorem vjX11_pen_34 (C : VC pr s m args meth c E A cX11_pen 11 (some .int) RX11) (hA : va_A w0 s.heap.size = A) (a : Nat → Nat → Nat)  {Post : Int32 → (Nat → St) → Prop} (x1 : Int32) (x2 : Int32) (x3 : Int32) (x4 : Int32) (x5 : Int32) (z0 : Int32) (t : Nat → St) (hw : wjX11_pen_34  Post x1 x2 x3 x4 x5 z0 t) : V pr l e rmX11_pen s m args below meth c E A 11 0 0 (MQ below (CQi E Post (fun u => wBig E a u) w0 s.heap.size) args s 0 0 A) (wBig E a t) 34 [(0, .ref (a 0 0)), (1, .int x1), (2, .int x2), (3, .int x3), (4, .int x4), (5, .int x5)] [.int z0] := by
  refine v_istore (pc := 34) C [(6, .int z0), (0, .ref (a 0 0)), (1, .int x1), (2, .int x2), (3, .int x3), (4, .int x4), (5, .int x5)] rfl (by decide) dX11_pen_34 ?_
  refine v_iload (pc := 36) C 0 rfl dX11_pen_36 ?_
  refine v_if_eq (pc := 38) C 65 (by decide) dX11_pen_38 (fun hc => ?_) (fun hc => ?_)
  · have hw := hw.1 hc
    refine v_sub (lv' := [(0, .ref (a 0 0))]) [1] rfl ?_
    exact vjX11_pen_65 C hA a  t hw
  · have hw := hw.2 hc
    refine v_iload (pc := 41) C 5 rfl dX11_pen_41 ?_
    refine v_goBi (pc := 43) C (bs := (bsBig E a t)) (cs := []) (cs' := (fun (_ : Unit) => [])) (bs' := (fun (_ : Unit) => (bsBig E a t))) (w' := (fun (_ : Unit) => (wBig E a t))) [] (wBig_fl E a t) rfl (fun _ => rfl) (fun _ => rfl) (fun _ => (wBig_fl _ _ _).symm) (v_runSB (pc := 43) C [.int x4] [] (fun sz => ctX11_isCells l E x4 hw sz) [] (wBig_fl E a t) rfl rfl mfX11_isCells msX11_isCells wmX11_99 rfl ⟨Nat.le_of_ble_eq_true rfl, Nat.le_of_ble_eq_true rfl⟩ ⟨rfl, rfl⟩ rfl (Nat.le_of_ble_eq_true rfl) ⟨Nat.zero_le _, Nat.zero_le _⟩ dX11_pen_43) (fun r4 _ hw => ?_)
    refine v_if_eq (pc := 46) C 65 (by decide) dX11_pen_46 (fun hc => ?_) (fun hc => ?_)
    · have hw := hw.1 hc
      refine v_sub (lv' := [(0, .ref (a 0 0))]) [1] rfl ?_
      exact vjX11_pen_65 C hA a  t hw
    · have hw := hw.2 hc
      refine v_iload (pc := 49) C 5 rfl dX11_pen_49 ?_
      refine v_if_eq (pc := 51) C 65 (by decide) dX11_pen_51 (fun hc => ?_) (fun hc => ?_)
      · have hw := hw.1 hc
        refine v_sub (lv' := [(0, .ref (a 0 0))]) [1] rfl ?_
        exact vjX11_pen_65 C hA a  t hw
      · have hw := hw.2 hc
        refine v_iload (pc := 54) C 6 rfl dX11_pen_54 ?_
        refine v_if_lt (pc := 56) C 65 (by decide) dX11_pen_56 (fun hc => ?_) (fun hc => ?_)
        · have hw := hw.1 hc
          refine v_sub (lv' := [(0, .ref (a 0 0))]) [1] rfl ?_
          exact vjX11_pen_65 C hA a  t hw
        · have hw := hw.2 hc
          refine v_iload (pc := 59) C 6 rfl dX11_pen_59 ?_
          refine v_iconst (pc := 61) C 1 ki_1 dX11_pen_61 ?_
          refine v_icmp_le (pc := 62) C 72 (by decide) dX11_pen_62 (fun hc => ?_) (fun hc => ?_)
          · have hw := hw.1 hc
            refine v_aload_n (pc := 72) C 1 rfl rfl dX11_pen_72 ?_
            refine v_get (pc := 73) C cfX11 rfl 0 5 rfl (by decide) wfX11_35 rfl dX11_pen_73 ?_
            refine v_aload_n (pc := 76) C 1 rfl rfl dX11_pen_76 ?_
            refine v_get (pc := 77) C cfX11 rfl 0 1 rfl (by decide) wfX11_19 rfl dX11_pen_77 ?_
            refine v_iload_n (pc := 80) C 2 rfl rfl dX11_pen_80 ?_
            refine v_iload_n (pc := 81) C 3 rfl rfl dX11_pen_81 ?_
            refine v_goBv (pc := 82) C (bs := (bsBig E a t)) (cs := [bLost E (a 6) (t 6), bPad E (a 2) (t 2)]) (cs' := (fun (u : St) => [bLost E (a 6) u, bPad E (a 2) (t 2)])) (bs' := (fun (u : St) => (bsBig E a (upS t 6 u)))) (w' := (fun (u : St) => (wBig E a (upS t 6 u)))) [6, 2] (wBig_fl E a t) rfl (fun _ => rfl) (fun _ => rfl) (fun _ => (wBig_fl _ _ _).symm) (v_runVB (pc := 82) C [.ref (a 2 0), .int x1, .int x2] [] (fun sz => ctX2_look l E (a 6) (a 2) x1 x2 (t 6) (t 2) hw sz) [6, 2] (wBig_fl E a t) rfl rfl mfX2_look mvX2_look wmX11_214 rfl ⟨Nat.le_of_ble_eq_true rfl, Nat.le_of_ble_eq_true rfl⟩ ⟨rfl, rfl⟩ 46 (ci := 2) (qc := (RX2, TX2, 4)) rfl rfl rfl rfl (Nat.le_of_ble_eq_true rfl) ⟨Nat.zero_le _, Nat.zero_le _⟩ dX11_pen_82) (fun p5 hw => ?_)
            obtain ⟨t6, et⟩ : ∃ y : Nat → St, y = upS t 6 p5 := ⟨_, rfl⟩
            have hw := hw t6 et
            refine v_w (w' := wBig E a t6) (by subst et; rfl) ?_
            refine v_iconst (pc := 85) C 0 ki_0 dX11_pen_85 ?_
            refine v_istore (pc := 86) C [(7, .int 0), (6, .int z0), (0, .ref (a 0 0)), (1, .int x1), (2, .int x2), (3, .int x3), (4, .int x4), (5, .int x5)] rfl (by decide) dX11_pen_86 ?_
            refine v_iconst (pc := 88) C (-1) ki_m1 dX11_pen_88 ?_
            refine v_topi (fun x8_7 ex => ?_)
            have hw := hw x8_7 ex
            refine v_istore (pc := 89) C [(8, .int x8_7), (7, .int 0), (6, .int z0), (0, .ref (a 0 0)), (1, .int x1), (2, .int x2), (3, .int x3), (4, .int x4), (5, .int x5)] rfl (by decide) dX11_pen_89 ?_
            refine v_iconst (pc := 91) C 0 ki_0 dX11_pen_91 ?_
            refine v_istore (pc := 92) C [(9, .int 0), (8, .int x8_7), (7, .int 0), (6, .int z0), (0, .ref (a 0 0)), (1, .int x1), (2, .int x2), (3, .int x3), (4, .int x4), (5, .int x5)] rfl (by decide) dX11_pen_92 ?_
            obtain ⟨n, hw⟩ := hw
            refine v_sub (lv' := [(0, .ref (a 0 0)), (3, .int x3), (4, .int x4), (5, .int x5), (7, .int 0), (8, .int x8_7), (9, .int 0)]) [4, 7, 8, 9, 2, 1, 0] rfl ?_
            refine vlX11_pen_94 C hA a  (fun y27 y28 y29 t30 hw => ?_) n x3 x4 x5 0 x8_7 0 t6 hw
            refine v_iload (pc := 181) C 0 rfl dX11_pen_181 ?_
            refine v_if_ne (pc := 183) C 191 (by decide) dX11_pen_183 (fun hc => ?_) (fun hc => ?_)
            · have hw := hw.1 hc
              refine v_iload (pc := 191) C 2 rfl dX11_pen_191 ?_
              exact v_ireti (pc := 193) C t30 hA rfl hw dX11_pen_193
            · have hw := hw.2 hc
              refine v_iload (pc := 186) C 1 rfl dX11_pen_186 ?_
              refine v_goto (pc := 188) C 193 (by decide) dX11_pen_188 ?_
              exact v_ireti (pc := 193) C t30 hA rfl hw dX11_pen_193
          · have hw := hw.2 hc
            refine v_sub (lv' := [(0, .ref (a 0 0))]) [1] rfl ?_
            exact vjX11_pen_65 C hA a  t hw
set_option maxHeartbeats 4000000 in
set_option maxRecDepth 100000 in
theorem ctX11_pen (l : Launch) (E : VE) (a : Nat → Nat → Nat) (x1 : Int32) (x2 : Int32) (x3 : Int32) (x4 : Int32) (x5 : Int32) (t : Nat → St)  {Post : Int32 → (Nat → St) → Prop} (hw : wpX11_pen x1 x2 x3 x4 x5 t Post) (sz : Nat) : Met l yX11_pen (mW yX11_pen cX11_pen 11 (some .int)) rmX11_pen (CPre E [.ref (a 0 0), .int x1, .int x2, .int x3, .int x4, .int x5] sz (wBig E a t)) (CQi E Post (fun u => wBig E a u) (wBig E a t) sz) 0 0 (va_A (wBig E a t) sz) := by
  refine v_met (by decide) (Nat.le_of_ble_eq_true rfl) ?_
  intro pr e s m below meth c A hsz hA C
  subst hsz
  refine v_aload_n (pc := 0) C 0 rfl rfl dX11_pen_0 ?_
  refine v_get (pc := 1) C cfX11 rfl 0 1 rfl (by decide) wfX11_19 rfl dX11_pen_1 ?_
  refine v_iload_n (pc := 4) C 1 rfl rfl dX11_pen_4 ?_
  refine v_goBi (pc := 5) C (bs := (bsBig E a t)) (cs := [bPad E (a 2) (t 2)]) (cs' := (fun (_ : Unit) => [bPad E (a 2) (t 2)])) (bs' := (fun (_ : Unit) => (bsBig E a t))) (w' := (fun (_ : Unit) => (wBig E a t))) [2] (wBig_fl E a t) rfl (fun _ => rfl) (fun _ => rfl) (fun _ => (wBig_fl _ _ _).symm) (v_runVB (pc := 5) C [.int x1] [] (fun sz => ctX4_hasSheet l E (a 2) x1 (t 2) hw sz) [2] (wBig_fl E a t) rfl rfl mfX4_hasSheet mvX4_hasSheet wmX11_155 rfl ⟨Nat.le_of_ble_eq_true rfl, Nat.le_of_ble_eq_true rfl⟩ ⟨rfl, rfl⟩ 10 (ci := 4) (qc := (RX4, TX4, 12)) rfl rfl rfl rfl (Nat.le_of_ble_eq_true rfl) ⟨Nat.zero_le _, Nat.zero_le _⟩ dX11_pen_5) (fun r1 _ hw => ?_)
  refine v_if_eq (pc := 8) C 33 (by decide) dX11_pen_8 (fun hc => ?_) (fun hc => ?_)
  · have hw := hw.1 hc
    refine v_iconst (pc := 33) C 0 ki_0 dX11_pen_33 ?_
    refine v_sub (lv' := [(0, .ref (a 0 0)), (1, .int x1), (2, .int x2), (3, .int x3), (4, .int x4), (5, .int x5)]) [0, 1, 2, 3, 4, 5] rfl ?_
    exact vjX11_pen_34 C hA a  x1 x2 x3 x4 x5 0 t hw
  · have hw := hw.2 hc
    refine v_aload_n (pc := 11) C 0 rfl rfl dX11_pen_11 ?_
    refine v_get (pc := 12) C cfX11 rfl 0 1 rfl (by decide) wfX11_19 rfl dX11_pen_12 ?_
    refine v_iload_n (pc := 15) C 2 rfl rfl dX11_pen_15 ?_
    refine v_goBi (pc := 16) C (bs := (bsBig E a t)) (cs := [bPad E (a 2) (t 2)]) (cs' := (fun (_ : Unit) => [bPad E (a 2) (t 2)])) (bs' := (fun (_ : Unit) => (bsBig E a t))) (w' := (fun (_ : Unit) => (wBig E a t))) [2] (wBig_fl E a t) rfl (fun _ => rfl) (fun _ => rfl) (fun _ => (wBig_fl _ _ _).symm) (v_runVB (pc := 16) C [.int x2] [] (fun sz => ctX4_hasNotes l E (a 2) x2 (t 2) hw sz) [2] (wBig_fl E a t) rfl rfl mfX4_hasNotes mvX4_hasNotes wmX11_211 rfl ⟨Nat.le_of_ble_eq_true rfl, Nat.le_of_ble_eq_true rfl⟩ ⟨rfl, rfl⟩ 10 (ci := 4) (qc := (RX4, TX4, 12)) rfl rfl rfl rfl (Nat.le_of_ble_eq_true rfl) ⟨Nat.zero_le _, Nat.zero_le _⟩ dX11_pen_16) (fun r31 _ hw => ?_)
    refine v_if_eq (pc := 19) C 33 (by decide) dX11_pen_19 (fun hc => ?_) (fun hc => ?_)
    · have hw := hw.1 hc
      refine v_iconst (pc := 33) C 0 ki_0 dX11_pen_33 ?_
      refine v_sub (lv' := [(0, .ref (a 0 0)), (1, .int x1), (2, .int x2), (3, .int x3), (4, .int x4), (5, .int x5)]) [0, 1, 2, 3, 4, 5] rfl ?_
      exact vjX11_pen_34 C hA a  x1 x2 x3 x4 x5 0 t hw
    · have hw := hw.2 hc
      refine v_iload_n (pc := 22) C 3 rfl rfl dX11_pen_22 ?_
      refine v_goBi (pc := 23) C (bs := (bsBig E a t)) (cs := []) (cs' := (fun (_ : Unit) => [])) (bs' := (fun (_ : Unit) => (bsBig E a t))) (w' := (fun (_ : Unit) => (wBig E a t))) [] (wBig_fl E a t) rfl (fun _ => rfl) (fun _ => rfl) (fun _ => (wBig_fl _ _ _).symm) (v_runSB (pc := 23) C [.int x3] [] (fun sz => ctX11_isDepth l E x3 hw sz) [] (wBig_fl E a t) rfl rfl mfX11_isDepth msX11_isDepth wmX11_195 rfl ⟨Nat.le_of_ble_eq_true rfl, Nat.le_of_ble_eq_true rfl⟩ ⟨rfl, rfl⟩ rfl (Nat.le_of_ble_eq_true rfl) ⟨Nat.zero_le _, Nat.zero_le _⟩ dX11_pen_23) (fun r32 _ hw => ?_)
      refine v_if_eq (pc := 26) C 33 (by decide) dX11_pen_26 (fun hc => ?_) (fun hc => ?_)
      · have hw := hw.1 hc
        refine v_iconst (pc := 33) C 0 ki_0 dX11_pen_33 ?_
        refine v_sub (lv' := [(0, .ref (a 0 0)), (1, .int x1), (2, .int x2), (3, .int x3), (4, .int x4), (5, .int x5)]) [0, 1, 2, 3, 4, 5] rfl ?_
        exact vjX11_pen_34 C hA a  x1 x2 x3 x4 x5 0 t hw
      · have hw := hw.2 hc
        refine v_iconst (pc := 29) C 1 ki_1 dX11_pen_29 ?_
        refine v_goto (pc := 30) C 34 (by decide) dX11_pen_30 ?_
        refine v_sub (lv' := [(0, .ref (a 0 0)), (1, .int x1), (2, .int x2), (3, .int x3), (4, .int x4), (5, .int x5)]) [0, 1, 2, 3, 4, 5] rfl ?_
        exact vjX11_pen_34 C hA a  x1 x2 x3 x4 x5 1 t hw
set_option maxHeartbeats 4000000 in
set_option maxRecDepth 100000 in
theorem ctX11_orders (l : Launch) (E : VE) (a : Nat → Nat → Nat) (x1 : Int32) (t : Nat → St)  {Post : Int32 → (Nat → St) → Prop} (hw : wpX11_orders x1 t Post) (sz : Nat) : Met l yX11_orders (mW yX11_orders cX11_orders 2 (some .int)) rmX11_orders (CPre E [.ref (a 0 0), .int x1] sz (wBig E a t)) (CQi E Post (fun u => wBig E a u) (wBig E a t) sz) 0 0 (va_A (wBig E a t) sz) := by
  refine v_met (by decide) (Nat.le_of_ble_eq_true rfl) ?_
  intro pr e s m below meth c A hsz hA C
  subst hsz
  refine v_iload_n (pc := 0) C 1 rfl rfl dX11_orders_0 ?_
  refine v_iconst (pc := 1) C (-1) ki_m1 dX11_orders_1 ?_
  refine v_icmp_ge (pc := 2) C 12 (by decide) dX11_orders_2 (fun hc => ?_) (fun hc => ?_)
  · have hw := hw.1 hc
    refine v_iload_n (pc := 12) C 1 rfl rfl dX11_orders_12 ?_
    refine v_iconst (pc := 13) C (-1) ki_m1 dX11_orders_13 ?_
    refine v_icmp_ne (pc := 14) C 32 (by decide) dX11_orders_14 (fun hc => ?_) (fun hc => ?_)
    · have hw := hw.1 hc
      refine v_iload_n (pc := 32) C 1 rfl rfl dX11_orders_32 ?_
      refine v_aload_n (pc := 33) C 0 rfl rfl dX11_orders_33 ?_
      refine v_get (pc := 34) C cfX11 rfl 0 1 rfl (by decide) wfX11_19 rfl dX11_orders_34 ?_
      refine v_getN (pc := 37) C cfX4 rfl 10 3 rfl (by decide) wfX11_81 rfl dX11_orders_37 ?_
      refine v_icmp_lt (pc := 40) C 46 (by decide) dX11_orders_40 (fun hc => ?_) (fun hc => ?_)
      · have hw := hw.1 hc
        refine v_aload_n (pc := 46) C 0 rfl rfl dX11_orders_46 ?_
        refine v_get (pc := 47) C cfX11 rfl 0 6 rfl (by decide) wfX11_42 rfl dX11_orders_47 ?_
        refine v_aload_n (pc := 50) C 0 rfl rfl dX11_orders_50 ?_
        refine v_get (pc := 51) C cfX11 rfl 0 1 rfl (by decide) wfX11_19 rfl dX11_orders_51 ?_
        refine v_iconst (pc := 54) C 1 ki_1 dX11_orders_54 ?_
        refine v_goBi (pc := 55) C (bs := (bsBig E a t)) (cs := [bRows E (a 7) (t 7), bPad E (a 2) (t 2)]) (cs' := (fun (u : St) => [bRows E (a 7) u, bPad E (a 2) (t 2)])) (bs' := (fun (u : St) => (bsBig E a (upS t 7 u)))) (w' := (fun (u : St) => (wBig E a (upS t 7 u)))) [7, 2] (wBig_fl E a t) rfl (fun _ => rfl) (fun _ => rfl) (fun _ => (wBig_fl _ _ _).symm) (v_runVB (pc := 55) C [.ref (a 2 0), .int 1] [] (fun sz => ctX8_search l E (a 7) (a 2) 1 (t 7) (t 2) hw sz) [7, 2] (wBig_fl E a t) rfl rfl mfX8_search mvX8_search wmX11_238 rfl ⟨Nat.le_of_ble_eq_true rfl, Nat.le_of_ble_eq_true rfl⟩ ⟨rfl, rfl⟩ 49 (ci := 8) (qc := (RX8, TX8, 5)) rfl rfl rfl rfl (Nat.le_of_ble_eq_true rfl) ⟨Nat.zero_le _, Nat.zero_le _⟩ dX11_orders_55) (fun r1 p2 hw => ?_)
        obtain ⟨t3, et⟩ : ∃ y : Nat → St, y = upS t 7 p2 := ⟨_, rfl⟩
        have hw := hw t3 et
        refine v_w (w' := wBig E a t3) (by subst et; rfl) ?_
        refine v_if_ne (pc := 58) C 65 (by decide) dX11_orders_58 (fun hc => ?_) (fun hc => ?_)
        · have hw := hw.1 hc
          refine v_aload_n (pc := 65) C 0 rfl rfl dX11_orders_65 ?_
          refine v_get (pc := 66) C cfX11 rfl 0 6 rfl (by decide) wfX11_42 rfl dX11_orders_66 ?_
          refine v_iload_n (pc := 69) C 1 rfl rfl dX11_orders_69 ?_
          refine v_goBi (pc := 70) C (bs := (bsBig E a t3)) (cs := [bRows E (a 7) (t3 7)]) (cs' := (fun (_ : Unit) => [bRows E (a 7) (t3 7)])) (bs' := (fun (_ : Unit) => (bsBig E a t3))) (w' := (fun (_ : Unit) => (wBig E a t3))) [7] (wBig_fl E a t3) rfl (fun _ => rfl) (fun _ => rfl) (fun _ => (wBig_fl _ _ _).symm) (v_runVB (pc := 70) C [.int x1] [] (fun sz => ctX8_sheetAt l E (a 7) x1 (t3 7) hw sz) [7] (wBig_fl E a t3) rfl rfl mfX8_sheetAt mvX8_sheetAt wmX11_242 rfl ⟨Nat.le_of_ble_eq_true rfl, Nat.le_of_ble_eq_true rfl⟩ ⟨rfl, rfl⟩ 49 (ci := 8) (qc := (RX8, TX8, 5)) rfl rfl rfl rfl (Nat.le_of_ble_eq_true rfl) ⟨Nat.zero_le _, Nat.zero_le _⟩ dX11_orders_70) (fun r4 _ hw => ?_)
          exact v_ireti (pc := 73) C t3 hA rfl hw dX11_orders_73
        · have hw := hw.2 hc
          refine v_iconst (pc := 61) C (-1) ki_m1 dX11_orders_61 ?_
          refine v_goto (pc := 62) C 73 (by decide) dX11_orders_62 ?_
          exact v_ireti (pc := 73) C t3 hA rfl hw dX11_orders_73
      · have hw := hw.2 hc
        refine v_bipush (pc := 43) C (-5) kb_m5 dX11_orders_43 ?_
        exact v_ireti (pc := 45) C t hA rfl hw dX11_orders_45
    · have hw := hw.2 hc
      refine v_aload_n (pc := 17) C 0 rfl rfl dX11_orders_17 ?_
      refine v_get (pc := 18) C cfX11 rfl 0 6 rfl (by decide) wfX11_42 rfl dX11_orders_18 ?_
      refine v_aload_n (pc := 21) C 0 rfl rfl dX11_orders_21 ?_
      refine v_get (pc := 22) C cfX11 rfl 0 1 rfl (by decide) wfX11_19 rfl dX11_orders_22 ?_
      refine v_sipush (pc := 25) C 720 ks_720 dX11_orders_25 ?_
      refine v_goBi (pc := 28) C (bs := (bsBig E a t)) (cs := [bRows E (a 7) (t 7), bPad E (a 2) (t 2)]) (cs' := (fun (u : St) => [bRows E (a 7) u, bPad E (a 2) (t 2)])) (bs' := (fun (u : St) => (bsBig E a (upS t 7 u)))) (w' := (fun (u : St) => (wBig E a (upS t 7 u)))) [7, 2] (wBig_fl E a t) rfl (fun _ => rfl) (fun _ => rfl) (fun _ => (wBig_fl _ _ _).symm) (v_runVB (pc := 28) C [.ref (a 2 0), .int 720] [] (fun sz => ctX8_search l E (a 7) (a 2) 720 (t 7) (t 2) hw sz) [7, 2] (wBig_fl E a t) rfl rfl mfX8_search mvX8_search wmX11_238 rfl ⟨Nat.le_of_ble_eq_true rfl, Nat.le_of_ble_eq_true rfl⟩ ⟨rfl, rfl⟩ 49 (ci := 8) (qc := (RX8, TX8, 5)) rfl rfl rfl rfl (Nat.le_of_ble_eq_true rfl) ⟨Nat.zero_le _, Nat.zero_le _⟩ dX11_orders_28) (fun r5 p6 hw => ?_)
      obtain ⟨t7, et⟩ : ∃ y : Nat → St, y = upS t 7 p6 := ⟨_, rfl⟩
      have hw := hw t7 et
      refine v_w (w' := wBig E a t7) (by subst et; rfl) ?_
      exact v_ireti (pc := 31) C t7 hA rfl hw dX11_orders_31
  · have hw := hw.2 hc
    refine v_aload_n (pc := 5) C 0 rfl rfl dX11_orders_5 ?_
    refine v_bipush (pc := 6) C (-10) kb_m10 dX11_orders_6 ?_
    refine v_goAi (pc := 8) C (wc' := (fun (u : (Nat → St)) => (wBig E a u))) (fun _ => rfl) (v_runVA (pc := 8) C [.int (-10)] [] (fun sz => ctX11_bad l E a (-10) t hw sz) mfX11_bad mvX11_bad wmX11_77 rfl ⟨Nat.le_of_ble_eq_true rfl, Nat.le_of_ble_eq_true rfl⟩ ⟨rfl, rfl⟩ 0 (ci := 11) (qc := (RX11, TX11, 15)) rfl rfl rfl rfl (Nat.le_of_ble_eq_true rfl) ⟨Nat.zero_le _, Nat.zero_le _⟩ dX11_orders_8) (fun r8 t9 hw => ?_)
    exact v_ireti (pc := 11) C t9 hA rfl hw dX11_orders_11
set_option maxHeartbeats 4000000 in
set_option maxRecDepth 100000 in
theorem vjX11_press_22 (C : VC pr s m args meth c E A cX11_press 4 (some .int) RX11) (hA : va_A w0 s.heap.size = A) (a : Nat → Nat → Nat)  {Post : Int32 → (Nat → St) → Prop} (t : Nat → St) (hw : wjX11_press_22  Post t) : V pr l e rmX11_press s m args below meth c E A 4 0 0 (MQ below (CQi E Post (fun u => wBig E a u) w0 s.heap.size) args s 0 0 A) (wBig E a t) 22 [(0, .ref (a 0 0))] [] := by
  refine v_aload_n (pc := 22) C 0 rfl rfl dX11_press_22 ?_
  refine v_bipush (pc := 23) C (-2) kb_m2 dX11_press_23 ?_
  refine v_goAi (pc := 25) C (wc' := (fun (u : (Nat → St)) => (wBig E a u))) (fun _ => rfl) (v_runVA (pc := 25) C [.int (-2)] [] (fun sz => ctX11_bad l E a (-2) t hw sz) mfX11_bad mvX11_bad wmX11_77 rfl ⟨Nat.le_of_ble_eq_true rfl, Nat.le_of_ble_eq_true rfl⟩ ⟨rfl, rfl⟩ 0 (ci := 11) (qc := (RX11, TX11, 15)) rfl rfl rfl rfl (Nat.le_of_ble_eq_true rfl) ⟨Nat.zero_le _, Nat.zero_le _⟩ dX11_press_25) (fun r1 t2 hw => ?_)
  exact v_ireti (pc := 28) C t2 hA rfl hw dX11_press_28
set_option maxHeartbeats 4000000 in
set_option maxRecDepth 100000 in
theorem vlX11_press_31 (C : VC pr s m args meth c E A cX11_press 4 (some .int) RX11) (hA : va_A w0 s.heap.size = A) (a : Nat → Nat → Nat)  {Post : Int32 → (Nat → St) → Prop} {KX : (Nat → St) → Prop} (hX : ∀ (t : Nat → St), KX t → V pr l e rmX11_press s m args below meth c E A 4 0 0 (MQ below (CQi E Post (fun u => wBig E a u) w0 s.heap.size) args s 0 0 A) (wBig E a t) 59 [] []) : ∀ (n : Nat) (x1 : Int32) (x2 : Int32) (x3 : Int32) (t : Nat → St), wLX11_press_31  Post KX n (x1, x2, x3, t) → V pr l e rmX11_press s m args below meth c E A 4 0 0 (MQ below (CQi E Post (fun u => wBig E a u) w0 s.heap.size) args s 0 0 A) (wBig E a t) 31 [(0, .ref (a 0 0)), (1, .int x1), (2, .int x2), (3, .int x3)] [] := by
  intro n
  induction n with
  | zero => intro x1 x2 x3 t hw; exact absurd hw id
  | succ n hself =>
    intro x1 x2 x3 t hw
    have hw : wlX11_press_31  Post KX (wLX11_press_31  Post KX n) x1 x2 x3 t := hw
    refine v_iload_n (pc := 31) C 3 rfl rfl dX11_press_31 ?_
    refine v_bipush (pc := 32) C 9 kb_9 dX11_press_32 ?_
    refine v_icmp_gt (pc := 34) C 59 (by decide) dX11_press_34 (fun hc => ?_) (fun hc => ?_)
    · have hw := hw.1 hc
      refine v_sub (lv' := []) [] rfl ?_
      exact hX t hw
    · have hw := hw.2 hc
      refine v_aload_n (pc := 37) C 0 rfl rfl dX11_press_37 ?_
      refine v_get (pc := 38) C cfX11 rfl 0 0 rfl (by decide) wfX11_12 rfl dX11_press_38 ?_
      refine v_iload_n (pc := 41) C 1 rfl rfl dX11_press_41 ?_
      refine v_iload_n (pc := 42) C 3 rfl rfl dX11_press_42 ?_
      refine v_iload_n (pc := 43) C 2 rfl rfl dX11_press_43 ?_
      refine v_goBi (pc := 44) C (bs := (bsBig E a t)) (cs := [bBox E (a 1)]) (cs' := (fun (_ : Unit) => [bBox E (a 1)])) (bs' := (fun (_ : Unit) => (bsBig E a t))) (w' := (fun (_ : Unit) => (wBig E a t))) [1] (wBig_fl E a t) rfl (fun _ => rfl) (fun _ => rfl) (fun _ => (wBig_fl _ _ _).symm) (v_runVB (pc := 44) C [.int x1, .int x3, .int x2] [] (fun sz => ctX5_forceOf l E (a 1) x1 x3 x2 hw sz) [1] (wBig_fl E a t) rfl rfl mfX5_forceOf mvX5_forceOf wmX11_198 rfl ⟨Nat.le_of_ble_eq_true rfl, Nat.le_of_ble_eq_true rfl⟩ ⟨rfl, rfl⟩ 2 (ci := 5) (qc := (RX5, TX5, 1)) rfl rfl rfl rfl (Nat.le_of_ble_eq_true rfl) ⟨Nat.zero_le _, Nat.zero_le _⟩ dX11_press_44) (fun r4 _ hw => ?_)
      refine v_iconst (pc := 47) C 2 ki_2 dX11_press_47 ?_
      refine v_icmp_lt (pc := 48) C 53 (by decide) dX11_press_48 (fun hc => ?_) (fun hc => ?_)
      · have hw := hw.1 hc
        obtain ⟨x3_5, ex⟩ : ∃ y : Int32, y = x3 + 1 := ⟨_, rfl⟩
        have hw := hw x3_5 ex
        refine v_iinc (pc := 53) C 3 rfl (by rw [ex, ki_1]) [(3, .int x3_5), (0, .ref (a 0 0)), (1, .int x1), (2, .int x2)] rfl (by decide) dX11_press_53 ?_
        refine v_goto (pc := 56) C 31 (by decide) dX11_press_56 ?_
        refine v_sub (lv' := [(0, .ref (a 0 0)), (1, .int x1), (2, .int x2), (3, .int x3_5)]) [1, 2, 3, 0] rfl ?_
        exact hself x1 x2 x3_5 t hw
      · have hw := hw.2 hc
        refine v_iload_n (pc := 51) C 3 rfl rfl dX11_press_51 ?_
        exact v_ireti (pc := 52) C t hA rfl hw dX11_press_52
set_option maxHeartbeats 4000000 in
set_option maxRecDepth 100000 in
theorem ctX11_press (l : Launch) (E : VE) (a : Nat → Nat → Nat) (x1 : Int32) (x2 : Int32) (t : Nat → St)  {Post : Int32 → (Nat → St) → Prop} (hw : wpX11_press x1 x2 t Post) (sz : Nat) : Met l yX11_press (mW yX11_press cX11_press 4 (some .int)) rmX11_press (CPre E [.ref (a 0 0), .int x1, .int x2] sz (wBig E a t)) (CQi E Post (fun u => wBig E a u) (wBig E a t) sz) 0 0 (va_A (wBig E a t) sz) := by
  refine v_met (by decide) (Nat.le_of_ble_eq_true rfl) ?_
  intro pr e s m below meth c A hsz hA C
  subst hsz
  refine v_iload_n (pc := 0) C 1 rfl rfl dX11_press_0 ?_
  refine v_if_lt (pc := 1) C 22 (by decide) dX11_press_1 (fun hc => ?_) (fun hc => ?_)
  · have hw := hw.1 hc
    refine v_sub (lv' := [(0, .ref (a 0 0))]) [0] rfl ?_
    exact vjX11_press_22 C hA a  t hw
  · have hw := hw.2 hc
    refine v_iload_n (pc := 4) C 1 rfl rfl dX11_press_4 ?_
    refine v_bipush (pc := 5) C 6 kb_6 dX11_press_5 ?_
    refine v_icmp_ge (pc := 7) C 22 (by decide) dX11_press_7 (fun hc => ?_) (fun hc => ?_)
    · have hw := hw.1 hc
      refine v_sub (lv' := [(0, .ref (a 0 0))]) [0] rfl ?_
      exact vjX11_press_22 C hA a  t hw
    · have hw := hw.2 hc
      refine v_iload_n (pc := 10) C 2 rfl rfl dX11_press_10 ?_
      refine v_iconst (pc := 11) C 1 ki_1 dX11_press_11 ?_
      refine v_icmp_lt (pc := 12) C 22 (by decide) dX11_press_12 (fun hc => ?_) (fun hc => ?_)
      · have hw := hw.1 hc
        refine v_sub (lv' := [(0, .ref (a 0 0))]) [0] rfl ?_
        exact vjX11_press_22 C hA a  t hw
      · have hw := hw.2 hc
        refine v_iload_n (pc := 15) C 2 rfl rfl dX11_press_15 ?_
        refine v_goBi (pc := 16) C (bs := (bsBig E a t)) (cs := []) (cs' := (fun (_ : Unit) => [])) (bs' := (fun (_ : Unit) => (bsBig E a t))) (w' := (fun (_ : Unit) => (wBig E a t))) [] (wBig_fl E a t) rfl (fun _ => rfl) (fun _ => rfl) (fun _ => (wBig_fl _ _ _).symm) (v_runSB (pc := 16) C [.int x2] [] (fun sz => ctX11_isDepth l E x2 hw sz) [] (wBig_fl E a t) rfl rfl mfX11_isDepth msX11_isDepth wmX11_195 rfl ⟨Nat.le_of_ble_eq_true rfl, Nat.le_of_ble_eq_true rfl⟩ ⟨rfl, rfl⟩ rfl (Nat.le_of_ble_eq_true rfl) ⟨Nat.zero_le _, Nat.zero_le _⟩ dX11_press_16) (fun r3 _ hw => ?_)
        refine v_if_ne (pc := 19) C 29 (by decide) dX11_press_19 (fun hc => ?_) (fun hc => ?_)
        · have hw := hw.1 hc
          refine v_iconst (pc := 29) C 1 ki_1 dX11_press_29 ?_
          refine v_istore_n (pc := 30) C [(3, .int 1), (0, .ref (a 0 0)), (1, .int x1), (2, .int x2)] rfl rfl (by decide) dX11_press_30 ?_
          obtain ⟨n, hw⟩ := hw
          refine v_sub (lv' := [(0, .ref (a 0 0)), (1, .int x1), (2, .int x2), (3, .int 1)]) [1, 2, 3, 0] rfl ?_
          refine vlX11_press_31 C hA a  (fun t6 hw => ?_) n x1 x2 1 t hw
          refine v_iconst (pc := 59) C (-1) ki_m1 dX11_press_59 ?_
          exact v_ireti (pc := 60) C t6 hA rfl hw dX11_press_60
        · have hw := hw.2 hc
          refine v_sub (lv' := [(0, .ref (a 0 0))]) [0] rfl ?_
          exact vjX11_press_22 C hA a  t hw
set_option maxHeartbeats 4000000 in
set_option maxRecDepth 100000 in
theorem vjX11_copies_62 (C : VC pr s m args meth c E A cX11_copies 10 (some .int) RX11) (hA : va_A w0 s.heap.size = A) (a : Nat → Nat → Nat)  {Post : Int32 → (Nat → St) → Prop} (t : Nat → St) (hw : wjX11_copies_62  Post t) : V pr l e rmX11_copies s m args below meth c E A 10 0 0 (MQ below (CQi E Post (fun u => wBig E a u) w0 s.heap.size) args s 0 0 A) (wBig E a t) 62 [(0, .ref (a 0 0))] [] := by
  refine v_aload_n (pc := 62) C 0 rfl rfl dX11_copies_62 ?_
  refine v_bipush (pc := 63) C (-10) kb_m10 dX11_copies_63 ?_
  refine v_goAi (pc := 65) C (wc' := (fun (u : (Nat → St)) => (wBig E a u))) (fun _ => rfl) (v_runVA (pc := 65) C [.int (-10)] [] (fun sz => ctX11_bad l E a (-10) t hw sz) mfX11_bad mvX11_bad wmX11_77 rfl ⟨Nat.le_of_ble_eq_true rfl, Nat.le_of_ble_eq_true rfl⟩ ⟨rfl, rfl⟩ 0 (ci := 11) (qc := (RX11, TX11, 15)) rfl rfl rfl rfl (Nat.le_of_ble_eq_true rfl) ⟨Nat.zero_le _, Nat.zero_le _⟩ dX11_copies_65) (fun r4 t5 hw => ?_)
  exact v_ireti (pc := 68) C t5 hA rfl hw dX11_copies_68
set_option maxHeartbeats 4000000 in
set_option maxRecDepth 100000 in
theorem vlX11_copies_81 (C : VC pr s m args meth c E A cX11_copies 10 (some .int) RX11) (hA : va_A w0 s.heap.size = A) (a : Nat → Nat → Nat)  {Post : Int32 → (Nat → St) → Prop} {KX : Int32 → Int32 → (Nat → St) → Prop} (hX : ∀ (x4 : Int32) (x7 : Int32) (t : Nat → St), KX x4 x7 t → V pr l e rmX11_copies s m args below meth c E A 10 0 0 (MQ below (CQi E Post (fun u => wBig E a u) w0 s.heap.size) args s 0 0 A) (wBig E a t) 153 [(0, .ref (a 0 0)), (4, .int x4), (7, .int x7)] []) : ∀ (n : Nat) (x1 : Int32) (x2 : Int32) (x3 : Int32) (x4 : Int32) (x7 : Int32) (x8 : Int32) (t : Nat → St), wLX11_copies_81  Post KX n (x1, x2, x3, x4, x7, x8, t) → V pr l e rmX11_copies s m args below meth c E A 10 0 0 (MQ below (CQi E Post (fun u => wBig E a u) w0 s.heap.size) args s 0 0 A) (wBig E a t) 81 [(0, .ref (a 0 0)), (1, .int x1), (2, .int x2), (3, .int x3), (4, .int x4), (7, .int x7), (8, .int x8)] [] := by
  intro n
  induction n with
  | zero => intro x1 x2 x3 x4 x7 x8 t hw; exact absurd hw id
  | succ n hself =>
    intro x1 x2 x3 x4 x7 x8 t hw
    have hw : wlX11_copies_81  Post KX (wLX11_copies_81  Post KX n) x1 x2 x3 x4 x7 x8 t := hw
    refine v_iload (pc := 81) C 6 rfl dX11_copies_81 ?_
    refine v_aload_n (pc := 83) C 0 rfl rfl dX11_copies_83 ?_
    refine v_get (pc := 84) C cfX11 rfl 0 1 rfl (by decide) wfX11_19 rfl dX11_copies_84 ?_
    refine v_getN (pc := 87) C cfX4 rfl 10 3 rfl (by decide) wfX11_81 rfl dX11_copies_87 ?_
    refine v_icmp_ge (pc := 90) C 153 (by decide) dX11_copies_90 (fun hc => ?_) (fun hc => ?_)
    · have hw := hw.1 hc
      refine v_sub (lv' := [(0, .ref (a 0 0)), (4, .int x4), (7, .int x7)]) [0, 4, 5] rfl ?_
      exact hX x4 x7 t hw
    · have hw := hw.2 hc
      refine v_iload_n (pc := 93) C 1 rfl rfl dX11_copies_93 ?_
      refine v_iload (pc := 94) C 6 rfl dX11_copies_94 ?_
      refine v_ishr (pc := 96) C dX11_copies_96 ?_
      refine v_iconst (pc := 97) C 1 ki_1 dX11_copies_97 ?_
      refine v_iand (pc := 98) C dX11_copies_98 ?_
      refine v_if_eq (pc := 99) C 147 (by decide) dX11_copies_99 (fun hc => ?_) (fun hc => ?_)
      · have hw := hw.1 hc
        obtain ⟨x8_7, ex⟩ : ∃ y : Int32, y = x8 + 1 := ⟨_, rfl⟩
        have hw := hw x8_7 ex
        refine v_iinc (pc := 147) C 6 rfl (by rw [ex, ki_1]) [(8, .int x8_7), (0, .ref (a 0 0)), (1, .int x1), (2, .int x2), (3, .int x3), (4, .int x4), (7, .int x7)] rfl (by decide) dX11_copies_147 ?_
        refine v_goto (pc := 150) C 81 (by decide) dX11_copies_150 ?_
        refine v_sub (lv' := [(0, .ref (a 0 0)), (1, .int x1), (2, .int x2), (3, .int x3), (4, .int x4), (7, .int x7), (8, .int x8_7)]) [1, 2, 3, 4, 5, 6, 0] rfl ?_
        exact hself x1 x2 x3 x4 x7 x8_7 t hw
      · have hw := hw.2 hc
        refine v_iload (pc := 102) C 6 rfl dX11_copies_102 ?_
        refine v_aload_n (pc := 104) C 0 rfl rfl dX11_copies_104 ?_
        refine v_get (pc := 105) C cfX11 rfl 0 1 rfl (by decide) wfX11_19 rfl dX11_copies_105 ?_
        refine v_goBi (pc := 108) C (bs := (bsBig E a t)) (cs := [bPad E (a 2) (t 2)]) (cs' := (fun (_ : Unit) => [bPad E (a 2) (t 2)])) (bs' := (fun (_ : Unit) => (bsBig E a t))) (w' := (fun (_ : Unit) => (wBig E a t))) [2] (wBig_fl E a t) rfl (fun _ => rfl) (fun _ => rfl) (fun _ => (wBig_fl _ _ _).symm) (v_runVB (pc := 108) C [] [.int x8] (fun sz => ctX4_top l E (a 2) (t 2) hw sz) [2] (wBig_fl E a t) rfl rfl mfX4_top mvX4_top wmX11_164 rfl ⟨Nat.le_of_ble_eq_true rfl, Nat.le_of_ble_eq_true rfl⟩ ⟨rfl, rfl⟩ 10 (ci := 4) (qc := (RX4, TX4, 12)) rfl rfl rfl rfl (Nat.le_of_ble_eq_true rfl) ⟨Nat.zero_le _, Nat.zero_le _⟩ dX11_copies_108) (fun r8 _ hw => ?_)
        refine v_isub (pc := 111) C dX11_copies_111 ?_
        refine v_topi (fun x9_9 ex => ?_)
        have hw := hw x9_9 ex
        refine v_istore (pc := 112) C [(9, .int x9_9), (0, .ref (a 0 0)), (1, .int x1), (2, .int x2), (3, .int x3), (4, .int x4), (7, .int x7), (8, .int x8)] rfl (by decide) dX11_copies_112 ?_
        refine v_iload (pc := 114) C 0 rfl dX11_copies_114 ?_
        refine v_if_eq (pc := 116) C 134 (by decide) dX11_copies_116 (fun hc => ?_) (fun hc => ?_)
        · have hw := hw.1 hc
          refine v_iconst (pc := 134) C (-1) ki_m1 dX11_copies_134 ?_
          exact v_ireti (pc := 135) C t hA rfl hw dX11_copies_135
        · have hw := hw.2 hc
          refine v_aload_n (pc := 119) C 1 rfl rfl dX11_copies_119 ?_
          refine v_get (pc := 120) C cfX11 rfl 0 0 rfl (by decide) wfX11_12 rfl dX11_copies_120 ?_
          refine v_iload_n (pc := 123) C 3 rfl rfl dX11_copies_123 ?_
          refine v_iload_n (pc := 124) C 4 rfl rfl dX11_copies_124 ?_
          refine v_iload (pc := 125) C 0 rfl dX11_copies_125 ?_
          refine v_goBi (pc := 127) C (bs := (bsBig E a t)) (cs := [bBox E (a 1)]) (cs' := (fun (_ : Unit) => [bBox E (a 1)])) (bs' := (fun (_ : Unit) => (bsBig E a t))) (w' := (fun (_ : Unit) => (wBig E a t))) [1] (wBig_fl E a t) rfl (fun _ => rfl) (fun _ => rfl) (fun _ => (wBig_fl _ _ _).symm) (v_runVB (pc := 127) C [.int x2, .int x3, .int x9_9] [] (fun sz => ctX5_forceOf l E (a 1) x2 x3 x9_9 hw sz) [1] (wBig_fl E a t) rfl rfl mfX5_forceOf mvX5_forceOf wmX11_198 rfl ⟨Nat.le_of_ble_eq_true rfl, Nat.le_of_ble_eq_true rfl⟩ ⟨rfl, rfl⟩ 2 (ci := 5) (qc := (RX5, TX5, 1)) rfl rfl rfl rfl (Nat.le_of_ble_eq_true rfl) ⟨Nat.zero_le _, Nat.zero_le _⟩ dX11_copies_127) (fun r10 _ hw => ?_)
          refine v_iconst (pc := 130) C 2 ki_2 dX11_copies_130 ?_
          refine v_icmp_ge (pc := 131) C 136 (by decide) dX11_copies_131 (fun hc => ?_) (fun hc => ?_)
          · have hw := hw.1 hc
            refine v_iload (pc := 136) C 6 rfl dX11_copies_136 ?_
            refine v_iconst (pc := 138) C 1 ki_1 dX11_copies_138 ?_
            refine v_iload (pc := 139) C 7 rfl dX11_copies_139 ?_
            refine v_iconst (pc := 141) C 1 ki_1 dX11_copies_141 ?_
            refine v_isub (pc := 142) C dX11_copies_142 ?_
            refine v_ishl (pc := 143) C dX11_copies_143 ?_
            refine v_ior (pc := 144) C dX11_copies_144 ?_
            refine v_topi (fun x7_11 ex => ?_)
            have hw := hw x7_11 ex
            refine v_istore (pc := 145) C [(7, .int x7_11), (9, .int x9_9), (0, .ref (a 0 0)), (1, .int x1), (2, .int x2), (3, .int x3), (4, .int x4), (8, .int x8)] rfl (by decide) dX11_copies_145 ?_
            obtain ⟨x8_12, ex⟩ : ∃ y : Int32, y = x8 + 1 := ⟨_, rfl⟩
            have hw := hw x8_12 ex
            refine v_iinc (pc := 147) C 7 rfl (by rw [ex, ki_1]) [(8, .int x8_12), (7, .int x7_11), (9, .int x9_9), (0, .ref (a 0 0)), (1, .int x1), (2, .int x2), (3, .int x3), (4, .int x4)] rfl (by decide) dX11_copies_147 ?_
            refine v_goto (pc := 150) C 81 (by decide) dX11_copies_150 ?_
            refine v_sub (lv' := [(0, .ref (a 0 0)), (1, .int x1), (2, .int x2), (3, .int x3), (4, .int x4), (7, .int x7_11), (8, .int x8_12)]) [3, 4, 5, 6, 7, 1, 0] rfl ?_
            exact hself x1 x2 x3 x4 x7_11 x8_12 t hw
          · have hw := hw.2 hc
            refine v_iconst (pc := 134) C (-1) ki_m1 dX11_copies_134 ?_
            exact v_ireti (pc := 135) C t hA rfl hw dX11_copies_135
set_option maxHeartbeats 4000000 in
set_option maxRecDepth 100000 in
theorem vjX11_copies_44 (C : VC pr s m args meth c E A cX11_copies 10 (some .int) RX11) (hA : va_A w0 s.heap.size = A) (a : Nat → Nat → Nat)  {Post : Int32 → (Nat → St) → Prop} (x1 : Int32) (x2 : Int32) (x3 : Int32) (x4 : Int32) (z0 : Int32) (t : Nat → St) (hw : wjX11_copies_44  Post x1 x2 x3 x4 z0 t) : V pr l e rmX11_copies s m args below meth c E A 10 0 0 (MQ below (CQi E Post (fun u => wBig E a u) w0 s.heap.size) args s 0 0 A) (wBig E a t) 44 [(0, .ref (a 0 0)), (1, .int x1), (2, .int x2), (3, .int x3), (4, .int x4)] [.int z0] := by
  refine v_istore (pc := 44) C [(6, .int z0), (0, .ref (a 0 0)), (1, .int x1), (2, .int x2), (3, .int x3), (4, .int x4)] rfl (by decide) dX11_copies_44 ?_
  refine v_iload (pc := 46) C 0 rfl dX11_copies_46 ?_
  refine v_if_eq (pc := 48) C 62 (by decide) dX11_copies_48 (fun hc => ?_) (fun hc => ?_)
  · have hw := hw.1 hc
    refine v_sub (lv' := [(0, .ref (a 0 0))]) [1] rfl ?_
    exact vjX11_copies_62 C hA a  t hw
  · have hw := hw.2 hc
    refine v_iload (pc := 51) C 5 rfl dX11_copies_51 ?_
    refine v_if_lt (pc := 53) C 62 (by decide) dX11_copies_53 (fun hc => ?_) (fun hc => ?_)
    · have hw := hw.1 hc
      refine v_sub (lv' := [(0, .ref (a 0 0))]) [1] rfl ?_
      exact vjX11_copies_62 C hA a  t hw
    · have hw := hw.2 hc
      refine v_iload (pc := 56) C 5 rfl dX11_copies_56 ?_
      refine v_iconst (pc := 58) C 1 ki_1 dX11_copies_58 ?_
      refine v_icmp_le (pc := 59) C 69 (by decide) dX11_copies_59 (fun hc => ?_) (fun hc => ?_)
      · have hw := hw.1 hc
        refine v_iconst (pc := 69) C 0 ki_0 dX11_copies_69 ?_
        refine v_istore (pc := 70) C [(7, .int 0), (6, .int z0), (0, .ref (a 0 0)), (1, .int x1), (2, .int x2), (3, .int x3), (4, .int x4)] rfl (by decide) dX11_copies_70 ?_
        refine v_aload_n (pc := 72) C 2 rfl rfl dX11_copies_72 ?_
        refine v_get (pc := 73) C cfX11 rfl 0 1 rfl (by decide) wfX11_19 rfl dX11_copies_73 ?_
        refine v_goBi (pc := 76) C (bs := (bsBig E a t)) (cs := [bPad E (a 2) (t 2)]) (cs' := (fun (_ : Unit) => [bPad E (a 2) (t 2)])) (bs' := (fun (_ : Unit) => (bsBig E a t))) (w' := (fun (_ : Unit) => (wBig E a t))) [2] (wBig_fl E a t) rfl (fun _ => rfl) (fun _ => rfl) (fun _ => (wBig_fl _ _ _).symm) (v_runVB (pc := 76) C [] [] (fun sz => ctX4_top l E (a 2) (t 2) hw sz) [2] (wBig_fl E a t) rfl rfl mfX4_top mvX4_top wmX11_164 rfl ⟨Nat.le_of_ble_eq_true rfl, Nat.le_of_ble_eq_true rfl⟩ ⟨rfl, rfl⟩ 10 (ci := 4) (qc := (RX4, TX4, 12)) rfl rfl rfl rfl (Nat.le_of_ble_eq_true rfl) ⟨Nat.zero_le _, Nat.zero_le _⟩ dX11_copies_76) (fun r6 _ hw => ?_)
        refine v_istore (pc := 79) C [(8, .int r6), (7, .int 0), (6, .int z0), (0, .ref (a 0 0)), (1, .int x1), (2, .int x2), (3, .int x3), (4, .int x4)] rfl (by decide) dX11_copies_79 ?_
        obtain ⟨n, hw⟩ := hw
        refine v_sub (lv' := [(0, .ref (a 0 0)), (1, .int x1), (2, .int x2), (3, .int x3), (4, .int x4), (7, .int 0), (8, .int r6)]) [3, 4, 5, 6, 7, 1, 0] rfl ?_
        refine vlX11_copies_81 C hA a  (fun y13 y14 t15 hw => ?_) n x1 x2 x3 x4 0 r6 t hw
        refine v_iload (pc := 153) C 2 rfl dX11_copies_153 ?_
        refine v_aload_n (pc := 155) C 0 rfl rfl dX11_copies_155 ?_
        refine v_get (pc := 156) C cfX11 rfl 0 1 rfl (by decide) wfX11_19 rfl dX11_copies_156 ?_
        refine v_getN (pc := 159) C cfX4 rfl 10 4 rfl (by decide) wfX11_92 rfl dX11_copies_159 ?_
        refine v_iconst (pc := 162) C (-1) ki_m1 dX11_copies_162 ?_
        refine v_ixor (pc := 163) C dX11_copies_163 ?_
        refine v_iand (pc := 164) C dX11_copies_164 ?_
        refine v_topi (fun x8_16 ex => ?_)
        have hw := hw x8_16 ex
        refine v_istore (pc := 165) C [(8, .int x8_16), (0, .ref (a 0 0)), (4, .int y13), (7, .int y14)] rfl (by decide) dX11_copies_165 ?_
        refine v_iload (pc := 167) C 2 rfl dX11_copies_167 ?_
        refine v_if_ne (pc := 169) C 180 (by decide) dX11_copies_169 (fun hc => ?_) (fun hc => ?_)
        · have hw := hw.1 hc
          refine v_iload (pc := 180) C 0 rfl dX11_copies_180 ?_
          exact v_ireti (pc := 182) C t15 hA rfl hw dX11_copies_182
        · have hw := hw.2 hc
          refine v_iload (pc := 172) C 0 rfl dX11_copies_172 ?_
          refine v_goBi (pc := 174) C (bs := (bsBig E a t15)) (cs := []) (cs' := (fun (_ : Unit) => [])) (bs' := (fun (_ : Unit) => (bsBig E a t15))) (w' := (fun (_ : Unit) => (wBig E a t15))) [] (wBig_fl E a t15) rfl (fun _ => rfl) (fun _ => rfl) (fun _ => (wBig_fl _ _ _).symm) (v_runSB (pc := 174) C [.int x8_16] [] (fun sz => ctJ6_bitCount_0f7a4 l E x8_16 hw sz) [] (wBig_fl E a t15) rfl rfl mfJ6_bitCount_0f7a4 msJ6_bitCount_0f7a4 wmX11_227 rfl ⟨Nat.le_of_ble_eq_true rfl, Nat.le_of_ble_eq_true rfl⟩ ⟨rfl, rfl⟩ rfl (Nat.le_of_ble_eq_true rfl) ⟨Nat.zero_le _, Nat.zero_le _⟩ dX11_copies_174) (fun r17 _ hw => ?_)
          refine v_goto (pc := 177) C 182 (by decide) dX11_copies_177 ?_
          exact v_ireti (pc := 182) C t15 hA rfl hw dX11_copies_182
      · have hw := hw.2 hc
        refine v_sub (lv' := [(0, .ref (a 0 0))]) [1] rfl ?_
        exact vjX11_copies_62 C hA a  t hw
set_option maxHeartbeats 4000000 in
set_option maxRecDepth 100000 in
theorem ctX11_copies (l : Launch) (E : VE) (a : Nat → Nat → Nat) (x1 : Int32) (x2 : Int32) (x3 : Int32) (x4 : Int32) (t : Nat → St)  {Post : Int32 → (Nat → St) → Prop} (hw : wpX11_copies x1 x2 x3 x4 t Post) (sz : Nat) : Met l yX11_copies (mW yX11_copies cX11_copies 10 (some .int)) rmX11_copies (CPre E [.ref (a 0 0), .int x1, .int x2, .int x3, .int x4] sz (wBig E a t)) (CQi E Post (fun u => wBig E a u) (wBig E a t) sz) 0 0 (va_A (wBig E a t) sz) := by
  refine v_met (by decide) (Nat.le_of_ble_eq_true rfl) ?_
  intro pr e s m below meth c A hsz hA C
  subst hsz
  refine v_iconst (pc := 0) C 1 ki_1 dX11_copies_0 ?_
  refine v_aload_n (pc := 1) C 0 rfl rfl dX11_copies_1 ?_
  refine v_get (pc := 2) C cfX11 rfl 0 1 rfl (by decide) wfX11_19 rfl dX11_copies_2 ?_
  refine v_goBi (pc := 5) C (bs := (bsBig E a t)) (cs := [bPad E (a 2) (t 2)]) (cs' := (fun (_ : Unit) => [bPad E (a 2) (t 2)])) (bs' := (fun (_ : Unit) => (bsBig E a t))) (w' := (fun (_ : Unit) => (wBig E a t))) [2] (wBig_fl E a t) rfl (fun _ => rfl) (fun _ => rfl) (fun _ => (wBig_fl _ _ _).symm) (v_runVB (pc := 5) C [] [.int 1] (fun sz => ctX4_top l E (a 2) (t 2) hw sz) [2] (wBig_fl E a t) rfl rfl mfX4_top mvX4_top wmX11_164 rfl ⟨Nat.le_of_ble_eq_true rfl, Nat.le_of_ble_eq_true rfl⟩ ⟨rfl, rfl⟩ 10 (ci := 4) (qc := (RX4, TX4, 12)) rfl rfl rfl rfl (Nat.le_of_ble_eq_true rfl) ⟨Nat.zero_le _, Nat.zero_le _⟩ dX11_copies_5) (fun r1 _ hw => ?_)
  refine v_ishl (pc := 8) C dX11_copies_8 ?_
  refine v_iconst (pc := 9) C 1 ki_1 dX11_copies_9 ?_
  refine v_isub (pc := 10) C dX11_copies_10 ?_
  refine v_topi (fun x5_2 ex => ?_)
  have hw := hw x5_2 ex
  refine v_istore (pc := 11) C [(5, .int x5_2), (0, .ref (a 0 0)), (1, .int x1), (2, .int x2), (3, .int x3), (4, .int x4)] rfl (by decide) dX11_copies_11 ?_
  refine v_aload_n (pc := 13) C 1 rfl rfl dX11_copies_13 ?_
  refine v_get (pc := 14) C cfX11 rfl 0 1 rfl (by decide) wfX11_19 rfl dX11_copies_14 ?_
  refine v_iload_n (pc := 17) C 2 rfl rfl dX11_copies_17 ?_
  refine v_goBi (pc := 18) C (bs := (bsBig E a t)) (cs := [bPad E (a 2) (t 2)]) (cs' := (fun (_ : Unit) => [bPad E (a 2) (t 2)])) (bs' := (fun (_ : Unit) => (bsBig E a t))) (w' := (fun (_ : Unit) => (wBig E a t))) [2] (wBig_fl E a t) rfl (fun _ => rfl) (fun _ => rfl) (fun _ => (wBig_fl _ _ _).symm) (v_runVB (pc := 18) C [.int x1] [] (fun sz => ctX4_hasSheets l E (a 2) x1 (t 2) hw sz) [2] (wBig_fl E a t) rfl rfl mfX4_hasSheets mvX4_hasSheets wmX11_88 rfl ⟨Nat.le_of_ble_eq_true rfl, Nat.le_of_ble_eq_true rfl⟩ ⟨rfl, rfl⟩ 10 (ci := 4) (qc := (RX4, TX4, 12)) rfl rfl rfl rfl (Nat.le_of_ble_eq_true rfl) ⟨Nat.zero_le _, Nat.zero_le _⟩ dX11_copies_18) (fun r3 _ hw => ?_)
  refine v_if_eq (pc := 21) C 43 (by decide) dX11_copies_21 (fun hc => ?_) (fun hc => ?_)
  · have hw := hw.1 hc
    refine v_iconst (pc := 43) C 0 ki_0 dX11_copies_43 ?_
    refine v_sub (lv' := [(0, .ref (a 0 0)), (1, .int x1), (2, .int x2), (3, .int x3), (4, .int x4)]) [1, 2, 3, 4, 5] rfl ?_
    exact vjX11_copies_44 C hA a  x1 x2 x3 x4 0 t hw
  · have hw := hw.2 hc
    refine v_iload_n (pc := 24) C 2 rfl rfl dX11_copies_24 ?_
    refine v_iload (pc := 25) C 0 rfl dX11_copies_25 ?_
    refine v_iand (pc := 27) C dX11_copies_27 ?_
    refine v_if_ne (pc := 28) C 43 (by decide) dX11_copies_28 (fun hc => ?_) (fun hc => ?_)
    · have hw := hw.1 hc
      refine v_iconst (pc := 43) C 0 ki_0 dX11_copies_43 ?_
      refine v_sub (lv' := [(0, .ref (a 0 0)), (1, .int x1), (2, .int x2), (3, .int x3), (4, .int x4)]) [1, 2, 3, 4, 5] rfl ?_
      exact vjX11_copies_44 C hA a  x1 x2 x3 x4 0 t hw
    · have hw := hw.2 hc
      refine v_iload_n (pc := 31) C 3 rfl rfl dX11_copies_31 ?_
      refine v_iload_n (pc := 32) C 4 rfl rfl dX11_copies_32 ?_
      refine v_goBi (pc := 33) C (bs := (bsBig E a t)) (cs := []) (cs' := (fun (_ : Unit) => [])) (bs' := (fun (_ : Unit) => (bsBig E a t))) (w' := (fun (_ : Unit) => (wBig E a t))) [] (wBig_fl E a t) rfl (fun _ => rfl) (fun _ => rfl) (fun _ => (wBig_fl _ _ _).symm) (v_runSB (pc := 33) C [.int x2, .int x3] [] (fun sz => ctX11_isPen l E x2 x3 hw sz) [] (wBig_fl E a t) rfl rfl mfX11_isPen msX11_isPen wmX11_95 rfl ⟨Nat.le_of_ble_eq_true rfl, Nat.le_of_ble_eq_true rfl⟩ ⟨rfl, rfl⟩ rfl (Nat.le_of_ble_eq_true rfl) ⟨Nat.zero_le _, Nat.zero_le _⟩ dX11_copies_33) (fun r18 _ hw => ?_)
      refine v_if_eq (pc := 36) C 43 (by decide) dX11_copies_36 (fun hc => ?_) (fun hc => ?_)
      · have hw := hw.1 hc
        refine v_iconst (pc := 43) C 0 ki_0 dX11_copies_43 ?_
        refine v_sub (lv' := [(0, .ref (a 0 0)), (1, .int x1), (2, .int x2), (3, .int x3), (4, .int x4)]) [1, 2, 3, 4, 5] rfl ?_
        exact vjX11_copies_44 C hA a  x1 x2 x3 x4 0 t hw
      · have hw := hw.2 hc
        refine v_iconst (pc := 39) C 1 ki_1 dX11_copies_39 ?_
        refine v_goto (pc := 40) C 44 (by decide) dX11_copies_40 ?_
        refine v_sub (lv' := [(0, .ref (a 0 0)), (1, .int x1), (2, .int x2), (3, .int x3), (4, .int x4)]) [1, 2, 3, 4, 5] rfl ?_
        exact vjX11_copies_44 C hA a  x1 x2 x3 x4 1 t hw
set_option maxHeartbeats 4000000 in
set_option maxRecDepth 100000 in
theorem vlX11_keepFraction_9 (C : VC pr s m args meth c E A cX11_keepFraction 12 none RX11) (hA : va_A w0 s.heap.size = A) (a : Nat → Nat → Nat)  {Post : (Nat → St) → Prop} {KX : Int64 → Int64 → Int64 → (Nat → St) → Prop} (hX : ∀ (x1 : Int64) (x3 : Int64) (x5 : Int64) (t : Nat → St), KX x1 x3 x5 t → V pr l e rmX11_keepFraction s m args below meth c E A 12 0 0 (MQ below (CQv E Post (fun u => wBig E a u) w0 s.heap.size) args s 0 0 A) (wBig E a t) 45 [(0, .ref (a 0 0)), (1, .long x1), (3, .long x3), (5, .long x5)] []) : ∀ (n : Nat) (x1 : Int64) (x3 : Int64) (x5 : Int64) (x7 : Int64) (x9 : Int32) (t : Nat → St), wLX11_keepFraction_9  Post KX n (x1, x3, x5, x7, x9, t) → V pr l e rmX11_keepFraction s m args below meth c E A 12 0 0 (MQ below (CQv E Post (fun u => wBig E a u) w0 s.heap.size) args s 0 0 A) (wBig E a t) 9 [(0, .ref (a 0 0)), (1, .long x1), (3, .long x3), (5, .long x5), (7, .long x7), (9, .int x9)] [] := by
  intro n
  induction n with
  | zero => intro x1 x3 x5 x7 x9 t hw; exact absurd hw id
  | succ n hself =>
    intro x1 x3 x5 x7 x9 t hw
    have hw : wlX11_keepFraction_9  Post KX (wLX11_keepFraction_9  Post KX n) x1 x3 x5 x7 x9 t := hw
    refine v_iload (pc := 9) C 5 rfl dX11_keepFraction_9 ?_
    refine v_sipush (pc := 11) C 128 ks_128 dX11_keepFraction_11 ?_
    refine v_icmp_ge (pc := 14) C 45 (by decide) dX11_keepFraction_14 (fun hc => ?_) (fun hc => ?_)
    · have hw := hw.1 hc
      refine v_sub (lv' := [(0, .ref (a 0 0)), (1, .long x1), (3, .long x3), (5, .long x5)]) [0, 1, 2, 3] rfl ?_
      exact hX x1 x3 x5 t hw
    · have hw := hw.2 hc
      refine v_lload (pc := 17) C 4 rfl dX11_keepFraction_17 ?_
      refine v_lconst (pc := 19) C 0 kl_0 dX11_keepFraction_19 ?_
      refine v_lcmp (pc := 20) C dX11_keepFraction_20 ?_
      refine v_if_eq (pc := 21) C 45 (by decide) dX11_keepFraction_21 (fun hc => ?_) (fun hc => ?_)
      · have hw := hw.1 hc
        refine v_sub (lv' := [(0, .ref (a 0 0)), (1, .long x1), (3, .long x3), (5, .long x5)]) [0, 1, 2, 3] rfl ?_
        exact hX x1 x3 x5 t hw
      · have hw := hw.2 hc
        refine v_lload (pc := 24) C 3 rfl dX11_keepFraction_24 ?_
        refine v_lload (pc := 26) C 4 rfl dX11_keepFraction_26 ?_
        obtain ⟨hg, hw⟩ := hw
        refine v_lrem (pc := 28) C hg dX11_keepFraction_28 ?_
        refine v_topl (fun x10_1 ex => ?_)
        have hw := hw x10_1 ex
        refine v_lstore (pc := 29) C [(10, .long x10_1), (0, .ref (a 0 0)), (1, .long x1), (3, .long x3), (5, .long x5), (7, .long x7), (9, .int x9)] rfl (by decide) dX11_keepFraction_29 ?_
        refine v_lload (pc := 31) C 5 rfl dX11_keepFraction_31 ?_
        refine v_lstore (pc := 33) C [(5, .long x7), (10, .long x10_1), (0, .ref (a 0 0)), (1, .long x1), (3, .long x3), (7, .long x7), (9, .int x9)] rfl (by decide) dX11_keepFraction_33 ?_
        refine v_lload (pc := 35) C 1 rfl dX11_keepFraction_35 ?_
        refine v_lstore (pc := 37) C [(7, .long x10_1), (5, .long x7), (10, .long x10_1), (0, .ref (a 0 0)), (1, .long x1), (3, .long x3), (9, .int x9)] rfl (by decide) dX11_keepFraction_37 ?_
        obtain ⟨x9_2, ex⟩ : ∃ y : Int32, y = x9 + 1 := ⟨_, rfl⟩
        have hw := hw x9_2 ex
        refine v_iinc (pc := 39) C 6 rfl (by rw [ex, ki_1]) [(9, .int x9_2), (7, .long x10_1), (5, .long x7), (10, .long x10_1), (0, .ref (a 0 0)), (1, .long x1), (3, .long x3)] rfl (by decide) dX11_keepFraction_39 ?_
        refine v_goto (pc := 42) C 9 (by decide) dX11_keepFraction_42 ?_
        refine v_sub (lv' := [(0, .ref (a 0 0)), (1, .long x1), (3, .long x3), (5, .long x7), (7, .long x10_1), (9, .int x9_2)]) [4, 5, 6, 2, 1, 0] rfl ?_
        exact hself x1 x3 x7 x10_1 x9_2 t hw
set_option maxHeartbeats 4000000 in
set_option maxRecDepth 100000 in
theorem vjX11_keepFraction_45 (C : VC pr s m args meth c E A cX11_keepFraction 12 none RX11) (hA : va_A w0 s.heap.size = A) (a : Nat → Nat → Nat)  {Post : (Nat → St) → Prop} (x1 : Int64) (x3 : Int64) (x5 : Int64) (t : Nat → St) (hw : wjX11_keepFraction_45  Post x1 x3 x5 t) : V pr l e rmX11_keepFraction s m args below meth c E A 12 0 0 (MQ below (CQv E Post (fun u => wBig E a u) w0 s.heap.size) args s 0 0 A) (wBig E a t) 45 [(0, .ref (a 0 0)), (1, .long x1), (3, .long x3), (5, .long x5)] [] := by
  refine v_lload (pc := 45) C 3 rfl dX11_keepFraction_45 ?_
  refine v_lconst (pc := 47) C 0 kl_0 dX11_keepFraction_47 ?_
  refine v_lcmp (pc := 48) C dX11_keepFraction_48 ?_
  refine v_if_le (pc := 49) C 68 (by decide) dX11_keepFraction_49 (fun hc => ?_) (fun hc => ?_)
  · have hw := hw.1 hc
    exact v_vret (pc := 68) C t hA rfl hw dX11_keepFraction_68
  · have hw := hw.2 hc
    refine v_aload_n (pc := 52) C 0 rfl rfl dX11_keepFraction_52 ?_
    refine v_lload_n (pc := 53) C 1 rfl rfl dX11_keepFraction_53 ?_
    refine v_lload (pc := 54) C 3 rfl dX11_keepFraction_54 ?_
    obtain ⟨hg, hw⟩ := hw
    refine v_ldiv (pc := 56) C hg dX11_keepFraction_56 ?_
    obtain ⟨t7, es⟩ : ∃ y : Nat → St, y = upS t 0 ((t 0).sL 10 (x1 / x5)) := ⟨_, rfl⟩
    have hw := hw t7 es
    refine v_put (pc := 57) C cfX11 rfl 0 10 (ty := .long) (w' := (wBig E a t7)) rfl (by subst es; rfl) (by decide) wfX11_61 rfl rfl rfl rfl (Nat.le_of_ble_eq_true rfl) dX11_keepFraction_57 ?_
    refine v_aload_n (pc := 60) C 0 rfl rfl dX11_keepFraction_60 ?_
    refine v_lload_n (pc := 61) C 2 rfl rfl dX11_keepFraction_61 ?_
    refine v_lload (pc := 62) C 3 rfl dX11_keepFraction_62 ?_
    obtain ⟨hg, hw⟩ := hw
    refine v_ldiv (pc := 64) C hg dX11_keepFraction_64 ?_
    obtain ⟨t8, es⟩ : ∃ y : Nat → St, y = upS t7 0 ((t7 0).sL 11 (x3 / x5)) := ⟨_, rfl⟩
    have hw := hw t8 es
    refine v_put (pc := 65) C cfX11 rfl 0 11 (ty := .long) (w' := (wBig E a t8)) rfl (by subst es; rfl) (by decide) wfX11_65 rfl rfl rfl rfl (Nat.le_of_ble_eq_true rfl) dX11_keepFraction_65 ?_
    exact v_vret (pc := 68) C t8 hA rfl hw dX11_keepFraction_68
set_option maxHeartbeats 4000000 in
set_option maxRecDepth 100000 in
theorem ctX11_keepFraction (l : Launch) (E : VE) (a : Nat → Nat → Nat) (x1 : Int64) (x3 : Int64) (t : Nat → St)  {Post : (Nat → St) → Prop} (hw : wpX11_keepFraction x1 x3 t Post) (sz : Nat) : Met l yX11_keepFraction (mW yX11_keepFraction cX11_keepFraction 12 none) rmX11_keepFraction (CPre E [.ref (a 0 0), .long x1, .long x3] sz (wBig E a t)) (CQv E Post (fun u => wBig E a u) (wBig E a t) sz) 0 0 (va_A (wBig E a t) sz) := by
  refine v_met (by decide) (Nat.le_of_ble_eq_true rfl) ?_
  intro pr e s m below meth c A hsz hA C
  subst hsz
  refine v_lload_n (pc := 0) C 1 rfl rfl dX11_keepFraction_0 ?_
  refine v_lstore (pc := 1) C [(5, .long x1), (0, .ref (a 0 0)), (1, .long x1), (3, .long x3)] rfl (by decide) dX11_keepFraction_1 ?_
  refine v_lload_n (pc := 3) C 3 rfl rfl dX11_keepFraction_3 ?_
  refine v_lstore (pc := 4) C [(7, .long x3), (5, .long x1), (0, .ref (a 0 0)), (1, .long x1), (3, .long x3)] rfl (by decide) dX11_keepFraction_4 ?_
  refine v_iconst (pc := 6) C 0 ki_0 dX11_keepFraction_6 ?_
  refine v_istore (pc := 7) C [(9, .int 0), (7, .long x3), (5, .long x1), (0, .ref (a 0 0)), (1, .long x1), (3, .long x3)] rfl (by decide) dX11_keepFraction_7 ?_
  obtain ⟨n, hw⟩ := hw
  refine v_sub (lv' := [(0, .ref (a 0 0)), (1, .long x1), (3, .long x3), (5, .long x1), (7, .long x3), (9, .int 0)]) [3, 4, 5, 2, 1, 0] rfl ?_
  refine vlX11_keepFraction_9 C hA a  (fun y3 y4 y5 t6 hw => ?_) n x1 x3 x1 x3 0 t hw
  refine v_sub (lv' := [(0, .ref (a 0 0)), (1, .long y3), (3, .long y4), (5, .long y5)]) [0, 1, 2, 3] rfl ?_
  exact vjX11_keepFraction_45 C hA a  y3 y4 y5 t6 hw
end

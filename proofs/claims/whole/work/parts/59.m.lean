section
variable {pr : Program} {l : Launch} {e : Env} {s : State} {m : MethodId} {args : Array Value} {below : List Frame} {meth : Method} {c : Code} {E : VE} {A : Nat → Prop} {w0 : va_W}
theorem dX11_rub_0 : decode cX11_rub 0 = .ok (.aload_n 0, 1) := by decide +kernel
theorem dX11_rub_1 : decode cX11_rub 1 = .ok (.getfield 19, 3) := by decide +kernel
theorem dX11_rub_4 : decode cX11_rub 4 = .ok (.iload_n 1, 1) := by decide +kernel
theorem dX11_rub_5 : decode cX11_rub 5 = .ok (.invokevirtual 155, 3) := by decide +kernel
theorem dX11_rub_8 : decode cX11_rub 8 = .ok (.ifCond .eq 19, 3) := by decide +kernel
theorem dX11_rub_11 : decode cX11_rub 11 = .ok (.iload_n 2, 1) := by decide +kernel
theorem dX11_rub_12 : decode cX11_rub 12 = .ok (.invokestatic 99, 3) := by decide +kernel
theorem dX11_rub_15 : decode cX11_rub 15 = .ok (.ifCond .eq 12, 3) := by decide +kernel
theorem dX11_rub_18 : decode cX11_rub 18 = .ok (.iload_n 3, 1) := by decide +kernel
theorem dX11_rub_19 : decode cX11_rub 19 = .ok (.ifCond .lt 8, 3) := by decide +kernel
theorem dX11_rub_22 : decode cX11_rub 22 = .ok (.iload_n 3, 1) := by decide +kernel
theorem dX11_rub_23 : decode cX11_rub 23 = .ok (.iconst 1, 1) := by decide +kernel
theorem dX11_rub_24 : decode cX11_rub 24 = .ok (.if_icmp .le 10, 3) := by decide +kernel
theorem dX11_rub_27 : decode cX11_rub 27 = .ok (.aload_n 0, 1) := by decide +kernel
theorem dX11_rub_28 : decode cX11_rub 28 = .ok (.bipush (-2), 2) := by decide +kernel
theorem dX11_rub_30 : decode cX11_rub 30 = .ok (.invokevirtual 77, 3) := by decide +kernel
theorem dX11_rub_33 : decode cX11_rub 33 = .ok (.ireturn, 1) := by decide +kernel
theorem dX11_rub_34 : decode cX11_rub 34 = .ok (.lconst 1, 1) := by decide +kernel
theorem dX11_rub_35 : decode cX11_rub 35 = .ok (.lstore 4, 2) := by decide +kernel
theorem dX11_rub_37 : decode cX11_rub 37 = .ok (.lconst 1, 1) := by decide +kernel
theorem dX11_rub_38 : decode cX11_rub 38 = .ok (.lstore 6, 2) := by decide +kernel
theorem dX11_rub_40 : decode cX11_rub 40 = .ok (.iconst 0, 1) := by decide +kernel
theorem dX11_rub_41 : decode cX11_rub 41 = .ok (.istore 8, 2) := by decide +kernel
theorem dX11_rub_43 : decode cX11_rub 43 = .ok (.iload 8, 2) := by decide +kernel
theorem dX11_rub_45 : decode cX11_rub 45 = .ok (.bipush 12, 2) := by decide +kernel
theorem dX11_rub_47 : decode cX11_rub 47 = .ok (.if_icmp .ge 76, 3) := by decide +kernel
theorem dX11_rub_50 : decode cX11_rub 50 = .ok (.aload_n 0, 1) := by decide +kernel
theorem dX11_rub_51 : decode cX11_rub 51 = .ok (.getfield 19, 3) := by decide +kernel
theorem dX11_rub_54 : decode cX11_rub 54 = .ok (.iload_n 1, 1) := by decide +kernel
theorem dX11_rub_55 : decode cX11_rub 55 = .ok (.iload 8, 2) := by decide +kernel
theorem dX11_rub_57 : decode cX11_rub 57 = .ok (.invokevirtual 170, 3) := by decide +kernel
theorem dX11_rub_60 : decode cX11_rub 60 = .ok (.istore 9, 2) := by decide +kernel
theorem dX11_rub_62 : decode cX11_rub 62 = .ok (.iload_n 2, 1) := by decide +kernel
theorem dX11_rub_63 : decode cX11_rub 63 = .ok (.iload 8, 2) := by decide +kernel
theorem dX11_rub_65 : decode cX11_rub 65 = .ok (.ishr, 1) := by decide +kernel
theorem dX11_rub_66 : decode cX11_rub 66 = .ok (.iconst 1, 1) := by decide +kernel
theorem dX11_rub_67 : decode cX11_rub 67 = .ok (.iand, 1) := by decide +kernel
theorem dX11_rub_68 : decode cX11_rub 68 = .ok (.ifCond .eq 7, 3) := by decide +kernel
theorem dX11_rub_71 : decode cX11_rub 71 = .ok (.iconst 1, 1) := by decide +kernel
theorem dX11_rub_72 : decode cX11_rub 72 = .ok (.goto 4, 3) := by decide +kernel
theorem dX11_rub_75 : decode cX11_rub 75 = .ok (.iconst 0, 1) := by decide +kernel
theorem dX11_rub_76 : decode cX11_rub 76 = .ok (.istore 10, 2) := by decide +kernel
theorem dX11_rub_78 : decode cX11_rub 78 = .ok (.iload 10, 2) := by decide +kernel
theorem dX11_rub_80 : decode cX11_rub 80 = .ok (.ifCond .ne 7, 3) := by decide +kernel
theorem dX11_rub_83 : decode cX11_rub 83 = .ok (.iload_n 3, 1) := by decide +kernel
theorem dX11_rub_84 : decode cX11_rub 84 = .ok (.ifCond .ne 33, 3) := by decide +kernel
theorem dX11_rub_87 : decode cX11_rub 87 = .ok (.lload 4, 2) := by decide +kernel
theorem dX11_rub_89 : decode cX11_rub 89 = .ok (.iload 10, 2) := by decide +kernel
theorem dX11_rub_91 : decode cX11_rub 91 = .ok (.ifCond .eq 9, 3) := by decide +kernel
theorem dX11_rub_94 : decode cX11_rub 94 = .ok (.iload 9, 2) := by decide +kernel
theorem dX11_rub_96 : decode cX11_rub 96 = .ok (.i2l, 1) := by decide +kernel
theorem dX11_rub_97 : decode cX11_rub 97 = .ok (.goto 9, 3) := by decide +kernel
theorem dX11_rub_100 : decode cX11_rub 100 = .ok (.bipush 10, 2) := by decide +kernel
theorem dX11_rub_102 : decode cX11_rub 102 = .ok (.iload 9, 2) := by decide +kernel
theorem dX11_rub_104 : decode cX11_rub 104 = .ok (.isub, 1) := by decide +kernel
theorem dX11_rub_105 : decode cX11_rub 105 = .ok (.i2l, 1) := by decide +kernel
theorem dX11_rub_106 : decode cX11_rub 106 = .ok (.lmul, 1) := by decide +kernel
theorem dX11_rub_107 : decode cX11_rub 107 = .ok (.lstore 4, 2) := by decide +kernel
theorem dX11_rub_109 : decode cX11_rub 109 = .ok (.lload 6, 2) := by decide +kernel
theorem dX11_rub_111 : decode cX11_rub 111 = .ok (.ldc2_w 245, 3) := by decide +kernel
theorem dX11_rub_114 : decode cX11_rub 114 = .ok (.lmul, 1) := by decide +kernel
theorem dX11_rub_115 : decode cX11_rub 115 = .ok (.lstore 6, 2) := by decide +kernel
theorem dX11_rub_117 : decode cX11_rub 117 = .ok (.iinc 8 1, 3) := by decide +kernel
theorem dX11_rub_120 : decode cX11_rub 120 = .ok (.goto (-77), 3) := by decide +kernel
theorem dX11_rub_123 : decode cX11_rub 123 = .ok (.aload_n 0, 1) := by decide +kernel
theorem dX11_rub_124 : decode cX11_rub 124 = .ok (.lload 4, 2) := by decide +kernel
theorem dX11_rub_126 : decode cX11_rub 126 = .ok (.lload 6, 2) := by decide +kernel
theorem dX11_rub_128 : decode cX11_rub 128 = .ok (.invokevirtual 247, 3) := by decide +kernel
theorem dX11_rub_131 : decode cX11_rub 131 = .ok (.iconst 1, 1) := by decide +kernel
theorem dX11_rub_132 : decode cX11_rub 132 = .ok (.ireturn, 1) := by decide +kernel
theorem dX11_torn_0 : decode cX11_torn 0 = .ok (.aload_n 0, 1) := by decide +kernel
theorem dX11_torn_1 : decode cX11_torn 1 = .ok (.getfield 19, 3) := by decide +kernel
theorem dX11_torn_4 : decode cX11_torn 4 = .ok (.iload_n 1, 1) := by decide +kernel
theorem dX11_torn_5 : decode cX11_torn 5 = .ok (.invokevirtual 211, 3) := by decide +kernel
theorem dX11_torn_8 : decode cX11_torn 8 = .ok (.ifCond .ne 10, 3) := by decide +kernel
theorem dX11_torn_11 : decode cX11_torn 11 = .ok (.aload_n 0, 1) := by decide +kernel
theorem dX11_torn_12 : decode cX11_torn 12 = .ok (.bipush (-2), 2) := by decide +kernel
theorem dX11_torn_14 : decode cX11_torn 14 = .ok (.invokevirtual 77, 3) := by decide +kernel
theorem dX11_torn_17 : decode cX11_torn 17 = .ok (.ireturn, 1) := by decide +kernel
theorem dX11_torn_18 : decode cX11_torn 18 = .ok (.aload_n 0, 1) := by decide +kernel
theorem dX11_torn_19 : decode cX11_torn 19 = .ok (.getfield 19, 3) := by decide +kernel
theorem dX11_torn_22 : decode cX11_torn 22 = .ok (.invokevirtual 164, 3) := by decide +kernel
theorem dX11_torn_25 : decode cX11_torn 25 = .ok (.istore_n 2, 1) := by decide +kernel
theorem dX11_torn_26 : decode cX11_torn 26 = .ok (.iload_n 2, 1) := by decide +kernel
theorem dX11_torn_27 : decode cX11_torn 27 = .ok (.aload_n 0, 1) := by decide +kernel
theorem dX11_torn_28 : decode cX11_torn 28 = .ok (.getfield 19, 3) := by decide +kernel
theorem dX11_torn_31 : decode cX11_torn 31 = .ok (.getfield 81, 3) := by decide +kernel
theorem dX11_torn_34 : decode cX11_torn 34 = .ok (.if_icmp .ge 32, 3) := by decide +kernel
theorem dX11_torn_37 : decode cX11_torn 37 = .ok (.aload_n 0, 1) := by decide +kernel
theorem dX11_torn_38 : decode cX11_torn 38 = .ok (.getfield 19, 3) := by decide +kernel
theorem dX11_torn_41 : decode cX11_torn 41 = .ok (.iload_n 2, 1) := by decide +kernel
theorem dX11_torn_42 : decode cX11_torn 42 = .ok (.invokevirtual 202, 3) := by decide +kernel
theorem dX11_torn_45 : decode cX11_torn 45 = .ok (.iload_n 1, 1) := by decide +kernel
theorem dX11_torn_46 : decode cX11_torn 46 = .ok (.iand, 1) := by decide +kernel
theorem dX11_torn_47 : decode cX11_torn 47 = .ok (.ifCond .ne 13, 3) := by decide +kernel
theorem dX11_torn_50 : decode cX11_torn 50 = .ok (.iload_n 2, 1) := by decide +kernel
theorem dX11_torn_51 : decode cX11_torn 51 = .ok (.aload_n 0, 1) := by decide +kernel
theorem dX11_torn_52 : decode cX11_torn 52 = .ok (.getfield 19, 3) := by decide +kernel
theorem dX11_torn_55 : decode cX11_torn 55 = .ok (.invokevirtual 164, 3) := by decide +kernel
theorem dX11_torn_58 : decode cX11_torn 58 = .ok (.isub, 1) := by decide +kernel
theorem dX11_torn_59 : decode cX11_torn 59 = .ok (.ireturn, 1) := by decide +kernel
theorem dX11_torn_60 : decode cX11_torn 60 = .ok (.iinc 2 1, 3) := by decide +kernel
theorem dX11_torn_63 : decode cX11_torn 63 = .ok (.goto (-37), 3) := by decide +kernel
theorem dX11_torn_66 : decode cX11_torn 66 = .ok (.iconst (-1), 1) := by decide +kernel
theorem dX11_torn_67 : decode cX11_torn 67 = .ok (.ireturn, 1) := by decide +kernel
theorem dX11_nextDraw_0 : decode cX11_nextDraw 0 = .ok (.lload_n 0, 1) := by decide +kernel
theorem dX11_nextDraw_1 : decode cX11_nextDraw 1 = .ok (.ldc2_w 281, 3) := by decide +kernel
theorem dX11_nextDraw_4 : decode cX11_nextDraw 4 = .ok (.lmul, 1) := by decide +kernel
theorem dX11_nextDraw_5 : decode cX11_nextDraw 5 = .ok (.ldc2_w 283, 3) := by decide +kernel
theorem dX11_nextDraw_8 : decode cX11_nextDraw 8 = .ok (.ladd, 1) := by decide +kernel
theorem dX11_nextDraw_9 : decode cX11_nextDraw 9 = .ok (.ldc2_w 285, 3) := by decide +kernel
theorem dX11_nextDraw_12 : decode cX11_nextDraw 12 = .ok (.lrem, 1) := by decide +kernel
theorem dX11_nextDraw_13 : decode cX11_nextDraw 13 = .ok (.lreturn, 1) := by decide +kernel
theorem dX11_drawOf_0 : decode cX11_drawOf 0 = .ok (.iload_n 2, 1) := by decide +kernel
theorem dX11_drawOf_1 : decode cX11_drawOf 1 = .ok (.ifCond .gt 7, 3) := by decide +kernel
theorem dX11_drawOf_4 : decode cX11_drawOf 4 = .ok (.iconst 0, 1) := by decide +kernel
theorem dX11_drawOf_5 : decode cX11_drawOf 5 = .ok (.goto 12, 3) := by decide +kernel
theorem dX11_drawOf_8 : decode cX11_drawOf 8 = .ok (.lload_n 0, 1) := by decide +kernel
theorem dX11_drawOf_9 : decode cX11_drawOf 9 = .ok (.ldc2_w 287, 3) := by decide +kernel
theorem dX11_drawOf_12 : decode cX11_drawOf 12 = .ok (.ldiv, 1) := by decide +kernel
theorem dX11_drawOf_13 : decode cX11_drawOf 13 = .ok (.iload_n 2, 1) := by decide +kernel
theorem dX11_drawOf_14 : decode cX11_drawOf 14 = .ok (.i2l, 1) := by decide +kernel
theorem dX11_drawOf_15 : decode cX11_drawOf 15 = .ok (.lrem, 1) := by decide +kernel
theorem dX11_drawOf_16 : decode cX11_drawOf 16 = .ok (.l2i, 1) := by decide +kernel
theorem dX11_drawOf_17 : decode cX11_drawOf 17 = .ok (.ireturn, 1) := by decide +kernel
theorem dX11_sumOfLast_0 : decode cX11_sumOfLast 0 = .ok (.iconst 0, 1) := by decide +kernel
theorem dX11_sumOfLast_1 : decode cX11_sumOfLast 1 = .ok (.istore_n 1, 1) := by decide +kernel
theorem dX11_sumOfLast_2 : decode cX11_sumOfLast 2 = .ok (.iconst 0, 1) := by decide +kernel
theorem dX11_sumOfLast_3 : decode cX11_sumOfLast 3 = .ok (.istore_n 2, 1) := by decide +kernel
theorem dX11_sumOfLast_4 : decode cX11_sumOfLast 4 = .ok (.iload_n 2, 1) := by decide +kernel
theorem dX11_sumOfLast_5 : decode cX11_sumOfLast 5 = .ok (.bipush 12, 2) := by decide +kernel
theorem dX11_sumOfLast_7 : decode cX11_sumOfLast 7 = .ok (.if_icmp .ge 18, 3) := by decide +kernel
theorem dX11_sumOfLast_10 : decode cX11_sumOfLast 10 = .ok (.iload_n 1, 1) := by decide +kernel
theorem dX11_sumOfLast_11 : decode cX11_sumOfLast 11 = .ok (.aload_n 0, 1) := by decide +kernel
theorem dX11_sumOfLast_12 : decode cX11_sumOfLast 12 = .ok (.getfield 53, 3) := by decide +kernel
theorem dX11_sumOfLast_15 : decode cX11_sumOfLast 15 = .ok (.iload_n 2, 1) := by decide +kernel
theorem dX11_sumOfLast_16 : decode cX11_sumOfLast 16 = .ok (.iaload, 1) := by decide +kernel
theorem dX11_sumOfLast_17 : decode cX11_sumOfLast 17 = .ok (.iadd, 1) := by decide +kernel
theorem dX11_sumOfLast_18 : decode cX11_sumOfLast 18 = .ok (.istore_n 1, 1) := by decide +kernel
theorem dX11_sumOfLast_19 : decode cX11_sumOfLast 19 = .ok (.iinc 2 1, 3) := by decide +kernel
theorem dX11_sumOfLast_22 : decode cX11_sumOfLast 22 = .ok (.goto (-18), 3) := by decide +kernel
theorem dX11_sumOfLast_25 : decode cX11_sumOfLast 25 = .ok (.iload_n 1, 1) := by decide +kernel
theorem dX11_sumOfLast_26 : decode cX11_sumOfLast 26 = .ok (.ireturn, 1) := by decide +kernel
theorem dX11_drawn_0 : decode cX11_drawn 0 = .ok (.iload_n 1, 1) := by decide +kernel
theorem dX11_drawn_1 : decode cX11_drawn 1 = .ok (.ifCond .lt 19, 3) := by decide +kernel
theorem dX11_drawn_4 : decode cX11_drawn 4 = .ok (.iload_n 1, 1) := by decide +kernel
theorem dX11_drawn_5 : decode cX11_drawn 5 = .ok (.ldc 251, 2) := by decide +kernel
theorem dX11_drawn_7 : decode cX11_drawn 7 = .ok (.if_icmp .gt 13, 3) := by decide +kernel
theorem dX11_drawn_10 : decode cX11_drawn 10 = .ok (.iload_n 2, 1) := by decide +kernel
theorem dX11_drawn_11 : decode cX11_drawn 11 = .ok (.ifCond .lt 9, 3) := by decide +kernel
theorem dX11_drawn_14 : decode cX11_drawn 14 = .ok (.iload_n 2, 1) := by decide +kernel
theorem dX11_drawn_15 : decode cX11_drawn 15 = .ok (.bipush 20, 2) := by decide +kernel
theorem dX11_drawn_17 : decode cX11_drawn 17 = .ok (.if_icmp .le 10, 3) := by decide +kernel
theorem dX11_drawn_20 : decode cX11_drawn 20 = .ok (.aload_n 0, 1) := by decide +kernel
theorem dX11_drawn_21 : decode cX11_drawn 21 = .ok (.bipush (-2), 2) := by decide +kernel
theorem dX11_drawn_23 : decode cX11_drawn 23 = .ok (.invokevirtual 77, 3) := by decide +kernel
theorem dX11_drawn_26 : decode cX11_drawn 26 = .ok (.ireturn, 1) := by decide +kernel
theorem dX11_drawn_27 : decode cX11_drawn 27 = .ok (.aload_n 0, 1) := by decide +kernel
theorem dX11_drawn_28 : decode cX11_drawn 28 = .ok (.getfield 19, 3) := by decide +kernel
theorem dX11_drawn_31 : decode cX11_drawn 31 = .ok (.invokevirtual 102, 3) := by decide +kernel
theorem dX11_drawn_34 : decode cX11_drawn 34 = .ok (.ifCond .eq 5, 3) := by decide +kernel
theorem dX11_drawn_37 : decode cX11_drawn 37 = .ok (.iconst (-1), 1) := by decide +kernel
theorem dX11_drawn_38 : decode cX11_drawn 38 = .ok (.ireturn, 1) := by decide +kernel
theorem dX11_drawn_39 : decode cX11_drawn 39 = .ok (.aload_n 0, 1) := by decide +kernel
theorem dX11_drawn_40 : decode cX11_drawn 40 = .ok (.getfield 19, 3) := by decide +kernel
theorem dX11_drawn_43 : decode cX11_drawn 43 = .ok (.getfield 81, 3) := by decide +kernel
theorem dX11_drawn_46 : decode cX11_drawn 46 = .ok (.iconst 1, 1) := by decide +kernel
theorem dX11_drawn_47 : decode cX11_drawn 47 = .ok (.isub, 1) := by decide +kernel
theorem dX11_drawn_48 : decode cX11_drawn 48 = .ok (.istore_n 3, 1) := by decide +kernel
theorem dX11_drawn_49 : decode cX11_drawn 49 = .ok (.aload_n 0, 1) := by decide +kernel
theorem dX11_drawn_50 : decode cX11_drawn 50 = .ok (.getfield 19, 3) := by decide +kernel
theorem dX11_drawn_53 : decode cX11_drawn 53 = .ok (.invokevirtual 164, 3) := by decide +kernel
theorem dX11_drawn_56 : decode cX11_drawn 56 = .ok (.istore 4, 2) := by decide +kernel
theorem dX11_drawn_58 : decode cX11_drawn 58 = .ok (.iconst 0, 1) := by decide +kernel
theorem dX11_drawn_59 : decode cX11_drawn 59 = .ok (.istore 5, 2) := by decide +kernel
theorem dX11_drawn_61 : decode cX11_drawn 61 = .ok (.iload 5, 2) := by decide +kernel
theorem dX11_drawn_63 : decode cX11_drawn 63 = .ok (.bipush 12, 2) := by decide +kernel
theorem dX11_drawn_65 : decode cX11_drawn 65 = .ok (.if_icmp .ge 26, 3) := by decide +kernel
theorem dX11_drawn_68 : decode cX11_drawn 68 = .ok (.aload_n 0, 1) := by decide +kernel
theorem dX11_drawn_69 : decode cX11_drawn 69 = .ok (.getfield 53, 3) := by decide +kernel
theorem dX11_drawn_72 : decode cX11_drawn 72 = .ok (.iload 5, 2) := by decide +kernel
theorem dX11_drawn_74 : decode cX11_drawn 74 = .ok (.aload_n 0, 1) := by decide +kernel
theorem dX11_drawn_75 : decode cX11_drawn 75 = .ok (.getfield 19, 3) := by decide +kernel
theorem dX11_drawn_78 : decode cX11_drawn 78 = .ok (.iload_n 3, 1) := by decide +kernel
theorem dX11_drawn_79 : decode cX11_drawn 79 = .ok (.iload 5, 2) := by decide +kernel
theorem dX11_drawn_81 : decode cX11_drawn 81 = .ok (.invokevirtual 170, 3) := by decide +kernel
theorem dX11_drawn_84 : decode cX11_drawn 84 = .ok (.iastore, 1) := by decide +kernel
theorem dX11_drawn_85 : decode cX11_drawn 85 = .ok (.iinc 5 1, 3) := by decide +kernel
theorem dX11_drawn_88 : decode cX11_drawn 88 = .ok (.goto (-27), 3) := by decide +kernel
theorem dX11_drawn_91 : decode cX11_drawn 91 = .ok (.iload_n 1, 1) := by decide +kernel
theorem dX11_drawn_92 : decode cX11_drawn 92 = .ok (.i2l, 1) := by decide +kernel
theorem dX11_drawn_93 : decode cX11_drawn 93 = .ok (.lstore 5, 2) := by decide +kernel
theorem dX11_drawn_95 : decode cX11_drawn 95 = .ok (.iconst 1, 1) := by decide +kernel
theorem dX11_drawn_96 : decode cX11_drawn 96 = .ok (.istore 7, 2) := by decide +kernel
theorem dX11_drawn_98 : decode cX11_drawn 98 = .ok (.iload 7, 2) := by decide +kernel
theorem dX11_drawn_100 : decode cX11_drawn 100 = .ok (.iload_n 2, 1) := by decide +kernel
theorem dX11_drawn_101 : decode cX11_drawn 101 = .ok (.if_icmp .gt 97, 3) := by decide +kernel
theorem dX11_drawn_104 : decode cX11_drawn 104 = .ok (.lload 5, 2) := by decide +kernel
theorem dX11_drawn_106 : decode cX11_drawn 106 = .ok (.invokestatic 252, 3) := by decide +kernel
theorem dX11_drawn_109 : decode cX11_drawn 109 = .ok (.lstore 5, 2) := by decide +kernel
theorem dX11_drawn_111 : decode cX11_drawn 111 = .ok (.lload 5, 2) := by decide +kernel
theorem dX11_drawn_113 : decode cX11_drawn 113 = .ok (.bipush 6, 2) := by decide +kernel
theorem dX11_drawn_115 : decode cX11_drawn 115 = .ok (.invokestatic 256, 3) := by decide +kernel
theorem dX11_drawn_118 : decode cX11_drawn 118 = .ok (.istore 8, 2) := by decide +kernel
theorem dX11_drawn_120 : decode cX11_drawn 120 = .ok (.lload 5, 2) := by decide +kernel
theorem dX11_drawn_122 : decode cX11_drawn 122 = .ok (.invokestatic 252, 3) := by decide +kernel
theorem dX11_drawn_125 : decode cX11_drawn 125 = .ok (.lstore 5, 2) := by decide +kernel
theorem dX11_drawn_127 : decode cX11_drawn 127 = .ok (.iconst 1, 1) := by decide +kernel
theorem dX11_drawn_128 : decode cX11_drawn 128 = .ok (.lload 5, 2) := by decide +kernel
theorem dX11_drawn_130 : decode cX11_drawn 130 = .ok (.bipush 9, 2) := by decide +kernel
theorem dX11_drawn_132 : decode cX11_drawn 132 = .ok (.invokestatic 256, 3) := by decide +kernel
theorem dX11_drawn_135 : decode cX11_drawn 135 = .ok (.iadd, 1) := by decide +kernel
theorem dX11_drawn_136 : decode cX11_drawn 136 = .ok (.istore 9, 2) := by decide +kernel
theorem dX11_drawn_138 : decode cX11_drawn 138 = .ok (.lload 5, 2) := by decide +kernel
theorem dX11_drawn_140 : decode cX11_drawn 140 = .ok (.invokestatic 252, 3) := by decide +kernel
theorem dX11_drawn_143 : decode cX11_drawn 143 = .ok (.lstore 5, 2) := by decide +kernel
theorem dX11_drawn_145 : decode cX11_drawn 145 = .ok (.aload_n 0, 1) := by decide +kernel
theorem dX11_drawn_146 : decode cX11_drawn 146 = .ok (.getfield 53, 3) := by decide +kernel
theorem dX11_drawn_149 : decode cX11_drawn 149 = .ok (.iconst 0, 1) := by decide +kernel
theorem dX11_drawn_150 : decode cX11_drawn 150 = .ok (.lload 5, 2) := by decide +kernel
theorem dX11_drawn_152 : decode cX11_drawn 152 = .ok (.sipush 4096, 3) := by decide +kernel
theorem dX11_drawn_155 : decode cX11_drawn 155 = .ok (.invokestatic 256, 3) := by decide +kernel
theorem dX11_drawn_158 : decode cX11_drawn 158 = .ok (.aload_n 0, 1) := by decide +kernel
theorem dX11_drawn_159 : decode cX11_drawn 159 = .ok (.getfield 12, 3) := by decide +kernel
theorem dX11_drawn_162 : decode cX11_drawn 162 = .ok (.iload 8, 2) := by decide +kernel
theorem dX11_drawn_164 : decode cX11_drawn 164 = .ok (.iload 9, 2) := by decide +kernel
theorem dX11_drawn_166 : decode cX11_drawn 166 = .ok (.iload_n 3, 1) := by decide +kernel
theorem dX11_drawn_167 : decode cX11_drawn 167 = .ok (.iload 4, 2) := by decide +kernel
theorem dX11_drawn_169 : decode cX11_drawn 169 = .ok (.isub, 1) := by decide +kernel
theorem dX11_drawn_170 : decode cX11_drawn 170 = .ok (.invokevirtual 198, 3) := by decide +kernel
theorem dX11_drawn_173 : decode cX11_drawn 173 = .ok (.invokestatic 260, 3) := by decide +kernel
theorem dX11_drawn_176 : decode cX11_drawn 176 = .ok (.iload 7, 2) := by decide +kernel
theorem dX11_drawn_178 : decode cX11_drawn 178 = .ok (.iconst 3, 1) := by decide +kernel
theorem dX11_drawn_179 : decode cX11_drawn 179 = .ok (.irem, 1) := by decide +kernel
theorem dX11_drawn_180 : decode cX11_drawn 180 = .ok (.ifCond .ne 12, 3) := by decide +kernel
theorem dX11_drawn_183 : decode cX11_drawn 183 = .ok (.iload 4, 2) := by decide +kernel
theorem dX11_drawn_185 : decode cX11_drawn 185 = .ok (.iload_n 3, 1) := by decide +kernel
theorem dX11_drawn_186 : decode cX11_drawn 186 = .ok (.if_icmp .ge 6, 3) := by decide +kernel
theorem dX11_drawn_189 : decode cX11_drawn 189 = .ok (.iinc 4 1, 3) := by decide +kernel
theorem dX11_drawn_192 : decode cX11_drawn 192 = .ok (.iinc 7 1, 3) := by decide +kernel
theorem dX11_drawn_195 : decode cX11_drawn 195 = .ok (.goto (-97), 3) := by decide +kernel
theorem dX11_drawn_198 : decode cX11_drawn 198 = .ok (.aload_n 0, 1) := by decide +kernel
theorem dX11_drawn_199 : decode cX11_drawn 199 = .ok (.invokevirtual 264, 3) := by decide +kernel
theorem dX11_drawn_202 : decode cX11_drawn 202 = .ok (.ireturn, 1) := by decide +kernel
theorem dX11_part_0 : decode cX11_part 0 = .ok (.iload_n 1, 1) := by decide +kernel
theorem dX11_part_1 : decode cX11_part 1 = .ok (.ifCond .lt 8, 3) := by decide +kernel
theorem dX11_part_4 : decode cX11_part 4 = .ok (.iload_n 1, 1) := by decide +kernel
theorem dX11_part_5 : decode cX11_part 5 = .ok (.iconst 1, 1) := by decide +kernel
theorem dX11_part_6 : decode cX11_part 6 = .ok (.if_icmp .le 11, 3) := by decide +kernel
theorem dX11_part_9 : decode cX11_part 9 = .ok (.aload_n 0, 1) := by decide +kernel
theorem dX11_part_10 : decode cX11_part 10 = .ok (.bipush (-2), 2) := by decide +kernel
theorem dX11_part_12 : decode cX11_part 12 = .ok (.invokevirtual 77, 3) := by decide +kernel
theorem dX11_part_15 : decode cX11_part 15 = .ok (.i2l, 1) := by decide +kernel
theorem dX11_part_16 : decode cX11_part 16 = .ok (.lreturn, 1) := by decide +kernel
theorem dX11_part_17 : decode cX11_part 17 = .ok (.iload_n 1, 1) := by decide +kernel
theorem dX11_part_18 : decode cX11_part 18 = .ok (.ifCond .ne 10, 3) := by decide +kernel
theorem dX11_part_21 : decode cX11_part 21 = .ok (.aload_n 0, 1) := by decide +kernel
theorem dX11_part_22 : decode cX11_part 22 = .ok (.getfield 61, 3) := by decide +kernel
theorem dX11_part_25 : decode cX11_part 25 = .ok (.goto 7, 3) := by decide +kernel
theorem dX11_part_28 : decode cX11_part 28 = .ok (.aload_n 0, 1) := by decide +kernel
theorem dX11_part_29 : decode cX11_part 29 = .ok (.getfield 65, 3) := by decide +kernel
theorem dX11_part_32 : decode cX11_part 32 = .ok (.lreturn, 1) := by decide +kernel
theorem dX11_image_0 : decode cX11_image 0 = .ok (.iload_n 1, 1) := by decide +kernel
theorem dX11_image_1 : decode cX11_image 1 = .ok (.ifCond .lt 8, 3) := by decide +kernel
theorem dX11_image_4 : decode cX11_image 4 = .ok (.iload_n 1, 1) := by decide +kernel
theorem dX11_image_5 : decode cX11_image 5 = .ok (.iconst 2, 1) := by decide +kernel
theorem dX11_image_6 : decode cX11_image 6 = .ok (.if_icmp .lt 10, 3) := by decide +kernel
theorem dX11_image_9 : decode cX11_image 9 = .ok (.aload_n 0, 1) := by decide +kernel
theorem dX11_image_10 : decode cX11_image 10 = .ok (.bipush (-2), 2) := by decide +kernel
theorem dX11_image_12 : decode cX11_image 12 = .ok (.invokevirtual 77, 3) := by decide +kernel
theorem dX11_image_15 : decode cX11_image 15 = .ok (.ireturn, 1) := by decide +kernel
theorem dX11_image_16 : decode cX11_image 16 = .ok (.aload_n 0, 1) := by decide +kernel
theorem dX11_image_17 : decode cX11_image 17 = .ok (.iload_n 1, 1) := by decide +kernel
theorem dX11_image_18 : decode cX11_image 18 = .ok (.invokevirtual 267, 3) := by decide +kernel
theorem dX11_image_21 : decode cX11_image 21 = .ok (.aload_n 0, 1) := by decide +kernel
theorem dX11_image_22 : decode cX11_image 22 = .ok (.getfield 19, 3) := by decide +kernel
theorem dX11_image_25 : decode cX11_image 25 = .ok (.invokevirtual 151, 3) := by decide +kernel
theorem dX11_image_28 : decode cX11_image 28 = .ok (.aload_n 0, 1) := by decide +kernel
theorem dX11_image_29 : decode cX11_image 29 = .ok (.dup, 1) := by decide +kernel
theorem dX11_image_30 : decode cX11_image 30 = .ok (.getfield 57, 3) := by decide +kernel
theorem dX11_image_33 : decode cX11_image 33 = .ok (.iconst 1, 1) := by decide +kernel
theorem dX11_image_34 : decode cX11_image 34 = .ok (.iload_n 1, 1) := by decide +kernel
theorem dX11_image_35 : decode cX11_image 35 = .ok (.ishl, 1) := by decide +kernel
theorem dX11_image_36 : decode cX11_image 36 = .ok (.ior, 1) := by decide +kernel
theorem dX11_image_37 : decode cX11_image 37 = .ok (.putfield 57, 3) := by decide +kernel
theorem dX11_image_40 : decode cX11_image 40 = .ok (.iconst 1, 1) := by decide +kernel
theorem dX11_image_41 : decode cX11_image 41 = .ok (.ireturn, 1) := by decide +kernel
theorem dX11_from_0 : decode cX11_from 0 = .ok (.iload_n 1, 1) := by decide +kernel
theorem dX11_from_1 : decode cX11_from 1 = .ok (.ifCond .lt 8, 3) := by decide +kernel
theorem dX11_from_4 : decode cX11_from 4 = .ok (.iload_n 1, 1) := by decide +kernel
theorem dX11_from_5 : decode cX11_from 5 = .ok (.iconst 2, 1) := by decide +kernel
theorem dX11_from_6 : decode cX11_from 6 = .ok (.if_icmp .lt 10, 3) := by decide +kernel
theorem dX11_from_9 : decode cX11_from 9 = .ok (.aload_n 0, 1) := by decide +kernel
theorem dX11_from_10 : decode cX11_from 10 = .ok (.bipush (-2), 2) := by decide +kernel
theorem dX11_from_12 : decode cX11_from 12 = .ok (.invokevirtual 77, 3) := by decide +kernel
theorem dX11_from_15 : decode cX11_from 15 = .ok (.ireturn, 1) := by decide +kernel
theorem dX11_from_16 : decode cX11_from 16 = .ok (.aload_n 0, 1) := by decide +kernel
theorem dX11_from_17 : decode cX11_from 17 = .ok (.getfield 57, 3) := by decide +kernel
theorem dX11_from_20 : decode cX11_from 20 = .ok (.iload_n 1, 1) := by decide +kernel
theorem dX11_from_21 : decode cX11_from 21 = .ok (.ishr, 1) := by decide +kernel
theorem dX11_from_22 : decode cX11_from 22 = .ok (.iconst 1, 1) := by decide +kernel
theorem dX11_from_23 : decode cX11_from 23 = .ok (.iand, 1) := by decide +kernel
theorem dX11_from_24 : decode cX11_from 24 = .ok (.ifCond .ne 8, 3) := by decide +kernel
theorem dX11_from_27 : decode cX11_from 27 = .ok (.aload_n 0, 1) := by decide +kernel
theorem dX11_from_28 : decode cX11_from 28 = .ok (.invokevirtual 106, 3) := by decide +kernel
theorem dX11_from_31 : decode cX11_from 31 = .ok (.ireturn, 1) := by decide +kernel
theorem dX11_from_32 : decode cX11_from 32 = .ok (.aload_n 0, 1) := by decide +kernel
theorem dX11_from_33 : decode cX11_from 33 = .ok (.getfield 19, 3) := by decide +kernel
theorem dX11_from_36 : decode cX11_from 36 = .ok (.aload_n 0, 1) := by decide +kernel
theorem dX11_from_37 : decode cX11_from 37 = .ok (.iload_n 1, 1) := by decide +kernel
theorem dX11_from_38 : decode cX11_from 38 = .ok (.invokevirtual 267, 3) := by decide +kernel
theorem dX11_from_41 : decode cX11_from 41 = .ok (.invokevirtual 151, 3) := by decide +kernel
theorem dX11_from_44 : decode cX11_from 44 = .ok (.iconst 1, 1) := by decide +kernel
theorem dX11_from_45 : decode cX11_from 45 = .ok (.ireturn, 1) := by decide +kernel
theorem dX11_status_0 : decode cX11_status 0 = .ok (.iload_n 1, 1) := by decide +kernel
theorem dX11_status_1 : decode cX11_status 1 = .ok (.tableswitch 42 0 2 #[27, 32, 37], 27) := by decide +kernel
theorem dX11_status_28 : decode cX11_status 28 = .ok (.aload_n 0, 1) := by decide +kernel
theorem dX11_status_29 : decode cX11_status 29 = .ok (.getfield 68, 3) := by decide +kernel
theorem dX11_status_32 : decode cX11_status 32 = .ok (.ireturn, 1) := by decide +kernel
theorem dX11_status_33 : decode cX11_status 33 = .ok (.aload_n 0, 1) := by decide +kernel
theorem dX11_status_34 : decode cX11_status 34 = .ok (.getfield 71, 3) := by decide +kernel
theorem dX11_status_37 : decode cX11_status 37 = .ok (.ireturn, 1) := by decide +kernel
theorem dX11_status_38 : decode cX11_status 38 = .ok (.aload_n 0, 1) := by decide +kernel
theorem dX11_status_39 : decode cX11_status 39 = .ok (.getfield 74, 3) := by decide +kernel
theorem dX11_status_42 : decode cX11_status 42 = .ok (.ireturn, 1) := by decide +kernel
theorem dX11_status_43 : decode cX11_status 43 = .ok (.aload_n 0, 1) := by decide +kernel
theorem dX11_status_44 : decode cX11_status 44 = .ok (.iconst (-1), 1) := by decide +kernel
theorem dX11_status_45 : decode cX11_status 45 = .ok (.invokevirtual 77, 3) := by decide +kernel
theorem dX11_status_48 : decode cX11_status 48 = .ok (.ireturn, 1) := by decide +kernel
theorem dX11_amountOf_0 : decode cX11_amountOf 0 = .ok (.iload_n 1, 1) := by decide +kernel
theorem dX11_amountOf_1 : decode cX11_amountOf 1 = .ok (.tableswitch 87 0 5 #[39, 47, 55, 63, 71, 79], 39) := by decide +kernel
theorem dX11_amountOf_40 : decode cX11_amountOf 40 = .ok (.aload_n 0, 1) := by decide +kernel
theorem dX11_amountOf_41 : decode cX11_amountOf 41 = .ok (.getfield 19, 3) := by decide +kernel
theorem dX11_amountOf_44 : decode cX11_amountOf 44 = .ok (.getfield 81, 3) := by decide +kernel
theorem dX11_amountOf_47 : decode cX11_amountOf 47 = .ok (.ireturn, 1) := by decide +kernel
theorem dX11_amountOf_48 : decode cX11_amountOf 48 = .ok (.aload_n 0, 1) := by decide +kernel
theorem dX11_amountOf_49 : decode cX11_amountOf 49 = .ok (.getfield 19, 3) := by decide +kernel
theorem dX11_amountOf_52 : decode cX11_amountOf 52 = .ok (.invokevirtual 164, 3) := by decide +kernel
theorem dX11_amountOf_55 : decode cX11_amountOf 55 = .ok (.ireturn, 1) := by decide +kernel
theorem dX11_amountOf_56 : decode cX11_amountOf 56 = .ok (.aload_n 0, 1) := by decide +kernel
theorem dX11_amountOf_57 : decode cX11_amountOf 57 = .ok (.getfield 19, 3) := by decide +kernel
theorem dX11_amountOf_60 : decode cX11_amountOf 60 = .ok (.invokevirtual 110, 3) := by decide +kernel
theorem dX11_amountOf_63 : decode cX11_amountOf 63 = .ok (.ireturn, 1) := by decide +kernel
theorem dX11_amountOf_64 : decode cX11_amountOf 64 = .ok (.aload_n 0, 1) := by decide +kernel
theorem dX11_amountOf_65 : decode cX11_amountOf 65 = .ok (.getfield 19, 3) := by decide +kernel
theorem dX11_amountOf_68 : decode cX11_amountOf 68 = .ok (.getfield 132, 3) := by decide +kernel
theorem dX11_amountOf_71 : decode cX11_amountOf 71 = .ok (.ireturn, 1) := by decide +kernel
theorem dX11_amountOf_72 : decode cX11_amountOf 72 = .ok (.aload_n 0, 1) := by decide +kernel
theorem dX11_amountOf_73 : decode cX11_amountOf 73 = .ok (.getfield 19, 3) := by decide +kernel
theorem dX11_amountOf_76 : decode cX11_amountOf 76 = .ok (.getfield 92, 3) := by decide +kernel
theorem dX11_amountOf_79 : decode cX11_amountOf 79 = .ok (.ireturn, 1) := by decide +kernel
theorem dX11_amountOf_80 : decode cX11_amountOf 80 = .ok (.aload_n 0, 1) := by decide +kernel
theorem dX11_amountOf_81 : decode cX11_amountOf 81 = .ok (.getfield 19, 3) := by decide +kernel
theorem dX11_amountOf_84 : decode cX11_amountOf 84 = .ok (.getfield 126, 3) := by decide +kernel
theorem dX11_amountOf_87 : decode cX11_amountOf 87 = .ok (.ireturn, 1) := by decide +kernel
theorem dX11_amountOf_88 : decode cX11_amountOf 88 = .ok (.aload_n 0, 1) := by decide +kernel
theorem dX11_amountOf_89 : decode cX11_amountOf 89 = .ok (.getfield 49, 3) := by decide +kernel
theorem dX11_amountOf_92 : decode cX11_amountOf 92 = .ok (.getfield 138, 3) := by decide +kernel
theorem dX11_amountOf_95 : decode cX11_amountOf 95 = .ok (.ireturn, 1) := by decide +kernel
theorem dX11_count_0 : decode cX11_count 0 = .ok (.iload_n 1, 1) := by decide +kernel
theorem dX11_count_1 : decode cX11_count 1 = .ok (.ifCond .lt 9, 3) := by decide +kernel
theorem dX11_count_4 : decode cX11_count 4 = .ok (.iload_n 1, 1) := by decide +kernel
theorem dX11_count_5 : decode cX11_count 5 = .ok (.bipush 6, 2) := by decide +kernel
theorem dX11_count_7 : decode cX11_count 7 = .ok (.if_icmp .le 12, 3) := by decide +kernel
theorem dX11_count_10 : decode cX11_count 10 = .ok (.aload_n 0, 1) := by decide +kernel
theorem dX11_count_11 : decode cX11_count 11 = .ok (.bipush (-2), 2) := by decide +kernel
theorem dX11_count_13 : decode cX11_count 13 = .ok (.invokevirtual 77, 3) := by decide +kernel
theorem dX11_count_16 : decode cX11_count 16 = .ok (.goto 8, 3) := by decide +kernel
theorem dX11_count_19 : decode cX11_count 19 = .ok (.aload_n 0, 1) := by decide +kernel
theorem dX11_count_20 : decode cX11_count 20 = .ok (.iload_n 1, 1) := by decide +kernel
theorem dX11_count_21 : decode cX11_count 21 = .ok (.invokevirtual 271, 3) := by decide +kernel
theorem dX11_count_24 : decode cX11_count 24 = .ok (.ireturn, 1) := by decide +kernel
theorem dX11_digest_0 : decode cX11_digest 0 = .ok (.ldc2_w 274, 3) := by decide +kernel
theorem dX11_digest_3 : decode cX11_digest 3 = .ok (.lstore_n 1, 1) := by decide +kernel
theorem dX11_digest_4 : decode cX11_digest 4 = .ok (.iconst 0, 1) := by decide +kernel
theorem dX11_digest_5 : decode cX11_digest 5 = .ok (.istore_n 3, 1) := by decide +kernel
theorem dX11_digest_6 : decode cX11_digest 6 = .ok (.iload_n 3, 1) := by decide +kernel
theorem dX11_digest_7 : decode cX11_digest 7 = .ok (.bipush 6, 2) := by decide +kernel
theorem dX11_digest_9 : decode cX11_digest 9 = .ok (.if_icmp .gt 22, 3) := by decide +kernel
theorem dX11_digest_12 : decode cX11_digest 12 = .ok (.ldc2_w 276, 3) := by decide +kernel
theorem dX11_digest_15 : decode cX11_digest 15 = .ok (.lload_n 1, 1) := by decide +kernel
theorem dX11_digest_16 : decode cX11_digest 16 = .ok (.lmul, 1) := by decide +kernel
theorem dX11_digest_17 : decode cX11_digest 17 = .ok (.aload_n 0, 1) := by decide +kernel
theorem dX11_digest_18 : decode cX11_digest 18 = .ok (.iload_n 3, 1) := by decide +kernel
theorem dX11_digest_19 : decode cX11_digest 19 = .ok (.invokevirtual 271, 3) := by decide +kernel
theorem dX11_digest_22 : decode cX11_digest 22 = .ok (.i2l, 1) := by decide +kernel
theorem dX11_digest_23 : decode cX11_digest 23 = .ok (.ladd, 1) := by decide +kernel
theorem dX11_digest_24 : decode cX11_digest 24 = .ok (.lstore_n 1, 1) := by decide +kernel
theorem dX11_digest_25 : decode cX11_digest 25 = .ok (.iinc 3 1, 3) := by decide +kernel
theorem dX11_digest_28 : decode cX11_digest 28 = .ok (.goto (-22), 3) := by decide +kernel
theorem dX11_digest_31 : decode cX11_digest 31 = .ok (.aload_n 0, 1) := by decide +kernel
theorem dX11_digest_32 : decode cX11_digest 32 = .ok (.getfield 19, 3) := by decide +kernel
theorem dX11_digest_35 : decode cX11_digest 35 = .ok (.lload_n 1, 1) := by decide +kernel
theorem dX11_digest_36 : decode cX11_digest 36 = .ok (.invokevirtual 278, 3) := by decide +kernel
theorem dX11_digest_39 : decode cX11_digest 39 = .ok (.lstore_n 1, 1) := by decide +kernel
theorem dX11_digest_40 : decode cX11_digest 40 = .ok (.ldc2_w 276, 3) := by decide +kernel
theorem dX11_digest_43 : decode cX11_digest 43 = .ok (.lload_n 1, 1) := by decide +kernel
theorem dX11_digest_44 : decode cX11_digest 44 = .ok (.lmul, 1) := by decide +kernel
theorem dX11_digest_45 : decode cX11_digest 45 = .ok (.aload_n 0, 1) := by decide +kernel
theorem dX11_digest_46 : decode cX11_digest 46 = .ok (.getfield 61, 3) := by decide +kernel
theorem dX11_digest_49 : decode cX11_digest 49 = .ok (.ladd, 1) := by decide +kernel
theorem dX11_digest_50 : decode cX11_digest 50 = .ok (.lstore_n 1, 1) := by decide +kernel
theorem dX11_digest_51 : decode cX11_digest 51 = .ok (.ldc2_w 276, 3) := by decide +kernel
theorem dX11_digest_54 : decode cX11_digest 54 = .ok (.lload_n 1, 1) := by decide +kernel
theorem dX11_digest_55 : decode cX11_digest 55 = .ok (.lmul, 1) := by decide +kernel
theorem dX11_digest_56 : decode cX11_digest 56 = .ok (.aload_n 0, 1) := by decide +kernel
theorem dX11_digest_57 : decode cX11_digest 57 = .ok (.getfield 65, 3) := by decide +kernel
theorem dX11_digest_60 : decode cX11_digest 60 = .ok (.ladd, 1) := by decide +kernel
theorem dX11_digest_61 : decode cX11_digest 61 = .ok (.lreturn, 1) := by decide +kernel
theorem dX12_in_0 : decode cX12_in 0 = .ok (.lload_n 0, 1) := by decide +kernel
theorem dX12_in_1 : decode cX12_in 1 = .ok (.lload_n 2, 1) := by decide +kernel
theorem dX12_in_2 : decode cX12_in 2 = .ok (.lcmp, 1) := by decide +kernel
theorem dX12_in_3 : decode cX12_in 3 = .ok (.ifCond .lt 14, 3) := by decide +kernel
theorem dX12_in_6 : decode cX12_in 6 = .ok (.lload_n 0, 1) := by decide +kernel
theorem dX12_in_7 : decode cX12_in 7 = .ok (.lload 4, 2) := by decide +kernel
theorem dX12_in_9 : decode cX12_in 9 = .ok (.lcmp, 1) := by decide +kernel
theorem dX12_in_10 : decode cX12_in 10 = .ok (.ifCond .gt 7, 3) := by decide +kernel
theorem dX12_in_13 : decode cX12_in 13 = .ok (.iconst 1, 1) := by decide +kernel
theorem dX12_in_14 : decode cX12_in 14 = .ok (.goto 4, 3) := by decide +kernel
theorem dX12_in_17 : decode cX12_in 17 = .ok (.iconst 0, 1) := by decide +kernel
theorem dX12_in_18 : decode cX12_in 18 = .ok (.ireturn, 1) := by decide +kernel
theorem dX12_has_0 : decode cX12_has 0 = .ok (.iload_n 0, 1) := by decide +kernel
theorem dX12_has_1 : decode cX12_has 1 = .ok (.iload_n 1, 1) := by decide +kernel
theorem dX12_has_2 : decode cX12_has 2 = .ok (.ishr, 1) := by decide +kernel
theorem dX12_has_3 : decode cX12_has 3 = .ok (.iconst 1, 1) := by decide +kernel
theorem dX12_has_4 : decode cX12_has 4 = .ok (.iand, 1) := by decide +kernel
theorem dX12_has_5 : decode cX12_has 5 = .ok (.iconst 1, 1) := by decide +kernel
theorem dX12_has_6 : decode cX12_has 6 = .ok (.if_icmp .ne 7, 3) := by decide +kernel
theorem dX12_has_9 : decode cX12_has 9 = .ok (.iconst 1, 1) := by decide +kernel
theorem dX12_has_10 : decode cX12_has 10 = .ok (.goto 4, 3) := by decide +kernel
theorem dX12_has_13 : decode cX12_has 13 = .ok (.iconst 0, 1) := by decide +kernel
theorem dX12_has_14 : decode cX12_has 14 = .ok (.ireturn, 1) := by decide +kernel
theorem dX12_ones_0 : decode cX12_ones 0 = .ok (.iconst 0, 1) := by decide +kernel
theorem dX12_ones_1 : decode cX12_ones 1 = .ok (.istore_n 1, 1) := by decide +kernel
theorem dX12_ones_2 : decode cX12_ones 2 = .ok (.iload_n 0, 1) := by decide +kernel
theorem dX12_ones_3 : decode cX12_ones 3 = .ok (.istore_n 2, 1) := by decide +kernel
theorem dX12_ones_4 : decode cX12_ones 4 = .ok (.iload_n 2, 1) := by decide +kernel
theorem dX12_ones_5 : decode cX12_ones 5 = .ok (.ifCond .eq 15, 3) := by decide +kernel
theorem dX12_ones_8 : decode cX12_ones 8 = .ok (.iinc 1 1, 3) := by decide +kernel
theorem dX12_ones_11 : decode cX12_ones 11 = .ok (.iload_n 2, 1) := by decide +kernel
theorem dX12_ones_12 : decode cX12_ones 12 = .ok (.iload_n 2, 1) := by decide +kernel
theorem dX12_ones_13 : decode cX12_ones 13 = .ok (.iconst 1, 1) := by decide +kernel
theorem dX12_ones_14 : decode cX12_ones 14 = .ok (.isub, 1) := by decide +kernel
theorem dX12_ones_15 : decode cX12_ones 15 = .ok (.iand, 1) := by decide +kernel
theorem dX12_ones_16 : decode cX12_ones 16 = .ok (.istore_n 2, 1) := by decide +kernel
theorem dX12_ones_17 : decode cX12_ones 17 = .ok (.goto (-13), 3) := by decide +kernel
theorem dX12_ones_20 : decode cX12_ones 20 = .ok (.iload_n 1, 1) := by decide +kernel
theorem dX12_ones_21 : decode cX12_ones 21 = .ok (.ireturn, 1) := by decide +kernel
theorem dX12_refuse_0 : decode cX12_refuse 0 = .ok (.aload_n 0, 1) := by decide +kernel
theorem dX12_refuse_1 : decode cX12_refuse 1 = .ok (.getfield 27, 3) := by decide +kernel
theorem dX12_refuse_4 : decode cX12_refuse 4 = .ok (.iload_n 1, 1) := by decide +kernel
theorem dX12_refuse_5 : decode cX12_refuse 5 = .ok (.dup2, 1) := by decide +kernel
theorem dX12_refuse_6 : decode cX12_refuse 6 = .ok (.iaload, 1) := by decide +kernel
theorem dX12_refuse_7 : decode cX12_refuse 7 = .ok (.iconst 1, 1) := by decide +kernel
theorem dX12_refuse_8 : decode cX12_refuse 8 = .ok (.iadd, 1) := by decide +kernel
theorem dX12_refuse_9 : decode cX12_refuse 9 = .ok (.iastore, 1) := by decide +kernel
theorem dX12_refuse_10 : decode cX12_refuse 10 = .ok (.iload_n 2, 1) := by decide +kernel
theorem dX12_refuse_11 : decode cX12_refuse 11 = .ok (.ireturn, 1) := by decide +kernel
set_option maxHeartbeats 4000000 in
set_option maxRecDepth 100000 in
theorem vjX11_rub_27 (C : VC pr s m args meth c E A cX11_rub 11 (some .int) RX11) (hA : va_A w0 s.heap.size = A) (a : Nat → Nat → Nat)  {Post : Int32 → (Nat → St) → Prop} (t : Nat → St) (hw : wjX11_rub_27  Post t) : V pr l e rmX11_rub s m args below meth c E A 11 0 0 (MQ below (CQi E Post (fun u => wBig E a u) w0 s.heap.size) args s 0 0 A) (wBig E a t) 27 [(0, .ref (a 0 0))] [] := by
  refine v_aload_n (pc := 27) C 0 rfl rfl dX11_rub_27 ?_
  refine v_bipush (pc := 28) C (-2) kb_m2 dX11_rub_28 ?_
  refine v_goAi (pc := 30) C (wc' := (fun (u : (Nat → St)) => (wBig E a u))) (fun _ => rfl) (v_runVA (pc := 30) C [.int (-2)] [] (fun sz => ctX11_bad l E a (-2) t hw sz) mfX11_bad mvX11_bad wmX11_77 rfl ⟨Nat.le_of_ble_eq_true rfl, Nat.le_of_ble_eq_true rfl⟩ ⟨rfl, rfl⟩ 0 (ci := 11) (qc := (RX11, TX11, 15)) rfl rfl rfl rfl (Nat.le_of_ble_eq_true rfl) ⟨Nat.zero_le _, Nat.zero_le _⟩ dX11_rub_30) (fun r2 t3 hw => ?_)
  exact v_ireti (pc := 33) C t3 hA rfl hw dX11_rub_33
set_option maxHeartbeats 4000000 in
set_option maxRecDepth 100000 in
theorem vjX11_rub_106 (C : VC pr s m args meth c E A cX11_rub 11 (some .int) RX11) (hA : va_A w0 s.heap.size = A) (a : Nat → Nat → Nat)  {Post : Int32 → (Nat → St) → Prop} {self : (Int32 × Int32 × Int32 × Int64 × Int64 × Int32 × (Nat → St)) → Prop} {KX : Int64 → Int64 → (Nat → St) → Prop} (x1 : Int32) (x2 : Int32) (x3 : Int32) (x6 : Int64) (x8 : Int32) (z0 : Int64) (z1 : Int64) (t : Nat → St) (hw : wjX11_rub_106  Post self KX x1 x2 x3 x6 x8 z0 z1 t) (hself : ∀ (x1 : Int32) (x2 : Int32) (x3 : Int32) (x4 : Int64) (x6 : Int64) (x8 : Int32) (t : Nat → St), self (x1, x2, x3, x4, x6, x8, t) → V pr l e rmX11_rub s m args below meth c E A 11 0 0 (MQ below (CQi E Post (fun u => wBig E a u) w0 s.heap.size) args s 0 0 A) (wBig E a t) 43 [(0, .ref (a 0 0)), (1, .int x1), (2, .int x2), (3, .int x3), (4, .long x4), (6, .long x6), (8, .int x8)] []) (hX : ∀ (x4 : Int64) (x6 : Int64) (t : Nat → St), KX x4 x6 t → V pr l e rmX11_rub s m args below meth c E A 11 0 0 (MQ below (CQi E Post (fun u => wBig E a u) w0 s.heap.size) args s 0 0 A) (wBig E a t) 123 [(0, .ref (a 0 0)), (4, .long x4), (6, .long x6)] []) : V pr l e rmX11_rub s m args below meth c E A 11 0 0 (MQ below (CQi E Post (fun u => wBig E a u) w0 s.heap.size) args s 0 0 A) (wBig E a t) 106 [(0, .ref (a 0 0)), (1, .int x1), (2, .int x2), (3, .int x3), (6, .long x6), (8, .int x8)] [.long z0, .long z1] := by
  refine v_lmul (pc := 106) C dX11_rub_106 ?_
  refine v_topl (fun x4_6 ex => ?_)
  have hw := hw x4_6 ex
  refine v_lstore (pc := 107) C [(4, .long x4_6), (0, .ref (a 0 0)), (1, .int x1), (2, .int x2), (3, .int x3), (6, .long x6), (8, .int x8)] rfl (by decide) dX11_rub_107 ?_
  refine v_lload (pc := 109) C 5 rfl dX11_rub_109 ?_
  refine v_ldc2 (pc := 111) C 10 wlX11_245 dX11_rub_111 ?_
  refine v_lmul (pc := 114) C dX11_rub_114 ?_
  refine v_topl (fun x6_7 ex => ?_)
  have hw := hw x6_7 ex
  refine v_lstore (pc := 115) C [(6, .long x6_7), (4, .long x4_6), (0, .ref (a 0 0)), (1, .int x1), (2, .int x2), (3, .int x3), (8, .int x8)] rfl (by decide) dX11_rub_115 ?_
  obtain ⟨x8_8, ex⟩ : ∃ y : Int32, y = x8 + 1 := ⟨_, rfl⟩
  have hw := hw x8_8 ex
  refine v_iinc (pc := 117) C 6 rfl (by rw [ex, ki_1]) [(8, .int x8_8), (6, .long x6_7), (4, .long x4_6), (0, .ref (a 0 0)), (1, .int x1), (2, .int x2), (3, .int x3)] rfl (by decide) dX11_rub_117 ?_
  refine v_goto (pc := 120) C 43 (by decide) dX11_rub_120 ?_
  refine v_sub (lv' := [(0, .ref (a 0 0)), (1, .int x1), (2, .int x2), (3, .int x3), (4, .long x4_6), (6, .long x6_7), (8, .int x8_8)]) [3, 4, 5, 6, 2, 1, 0] rfl ?_
  exact hself x1 x2 x3 x4_6 x6_7 x8_8 t hw
set_option maxHeartbeats 4000000 in
set_option maxRecDepth 100000 in
theorem vjX11_rub_87 (C : VC pr s m args meth c E A cX11_rub 11 (some .int) RX11) (hA : va_A w0 s.heap.size = A) (a : Nat → Nat → Nat)  {Post : Int32 → (Nat → St) → Prop} {self : (Int32 × Int32 × Int32 × Int64 × Int64 × Int32 × (Nat → St)) → Prop} {KX : Int64 → Int64 → (Nat → St) → Prop} (x1 : Int32) (x2 : Int32) (x3 : Int32) (x4 : Int64) (x6 : Int64) (x8 : Int32) (x9 : Int32) (x10 : Int32) (t : Nat → St) (hw : wjX11_rub_87  Post self KX x1 x2 x3 x4 x6 x8 x9 x10 t) (hself : ∀ (x1 : Int32) (x2 : Int32) (x3 : Int32) (x4 : Int64) (x6 : Int64) (x8 : Int32) (t : Nat → St), self (x1, x2, x3, x4, x6, x8, t) → V pr l e rmX11_rub s m args below meth c E A 11 0 0 (MQ below (CQi E Post (fun u => wBig E a u) w0 s.heap.size) args s 0 0 A) (wBig E a t) 43 [(0, .ref (a 0 0)), (1, .int x1), (2, .int x2), (3, .int x3), (4, .long x4), (6, .long x6), (8, .int x8)] []) (hX : ∀ (x4 : Int64) (x6 : Int64) (t : Nat → St), KX x4 x6 t → V pr l e rmX11_rub s m args below meth c E A 11 0 0 (MQ below (CQi E Post (fun u => wBig E a u) w0 s.heap.size) args s 0 0 A) (wBig E a t) 123 [(0, .ref (a 0 0)), (4, .long x4), (6, .long x6)] []) : V pr l e rmX11_rub s m args below meth c E A 11 0 0 (MQ below (CQi E Post (fun u => wBig E a u) w0 s.heap.size) args s 0 0 A) (wBig E a t) 87 [(0, .ref (a 0 0)), (1, .int x1), (2, .int x2), (3, .int x3), (4, .long x4), (6, .long x6), (8, .int x8), (9, .int x9), (10, .int x10)] [] := by
  refine v_lload (pc := 87) C 4 rfl dX11_rub_87 ?_
  refine v_iload (pc := 89) C 8 rfl dX11_rub_89 ?_
  refine v_if_eq (pc := 91) C 100 (by decide) dX11_rub_91 (fun hc => ?_) (fun hc => ?_)
  · have hw := hw.1 hc
    refine v_bipush (pc := 100) C 10 kb_10 dX11_rub_100 ?_
    refine v_iload (pc := 102) C 7 rfl dX11_rub_102 ?_
    refine v_isub (pc := 104) C dX11_rub_104 ?_
    refine v_i2l (pc := 105) C dX11_rub_105 ?_
    refine v_sub (lv' := [(0, .ref (a 0 0)), (1, .int x1), (2, .int x2), (3, .int x3), (6, .long x6), (8, .int x8)]) [0, 1, 2, 3, 5, 6] rfl ?_
    exact vjX11_rub_106 C hA a  x1 x2 x3 x6 x8 ((((10 : Int32) - x9)).toInt64) x4 t hw hself hX
  · have hw := hw.2 hc
    refine v_iload (pc := 94) C 7 rfl dX11_rub_94 ?_
    refine v_i2l (pc := 96) C dX11_rub_96 ?_
    refine v_goto (pc := 97) C 106 (by decide) dX11_rub_97 ?_
    refine v_sub (lv' := [(0, .ref (a 0 0)), (1, .int x1), (2, .int x2), (3, .int x3), (6, .long x6), (8, .int x8)]) [0, 1, 2, 3, 5, 6] rfl ?_
    exact vjX11_rub_106 C hA a  x1 x2 x3 x6 x8 (x9.toInt64) x4 t hw hself hX
set_option maxHeartbeats 4000000 in
set_option maxRecDepth 100000 in
theorem vjX11_rub_76 (C : VC pr s m args meth c E A cX11_rub 11 (some .int) RX11) (hA : va_A w0 s.heap.size = A) (a : Nat → Nat → Nat)  {Post : Int32 → (Nat → St) → Prop} {self : (Int32 × Int32 × Int32 × Int64 × Int64 × Int32 × (Nat → St)) → Prop} {KX : Int64 → Int64 → (Nat → St) → Prop} (x1 : Int32) (x2 : Int32) (x3 : Int32) (x4 : Int64) (x6 : Int64) (x8 : Int32) (x9 : Int32) (z0 : Int32) (t : Nat → St) (hw : wjX11_rub_76  Post self KX x1 x2 x3 x4 x6 x8 x9 z0 t) (hself : ∀ (x1 : Int32) (x2 : Int32) (x3 : Int32) (x4 : Int64) (x6 : Int64) (x8 : Int32) (t : Nat → St), self (x1, x2, x3, x4, x6, x8, t) → V pr l e rmX11_rub s m args below meth c E A 11 0 0 (MQ below (CQi E Post (fun u => wBig E a u) w0 s.heap.size) args s 0 0 A) (wBig E a t) 43 [(0, .ref (a 0 0)), (1, .int x1), (2, .int x2), (3, .int x3), (4, .long x4), (6, .long x6), (8, .int x8)] []) (hX : ∀ (x4 : Int64) (x6 : Int64) (t : Nat → St), KX x4 x6 t → V pr l e rmX11_rub s m args below meth c E A 11 0 0 (MQ below (CQi E Post (fun u => wBig E a u) w0 s.heap.size) args s 0 0 A) (wBig E a t) 123 [(0, .ref (a 0 0)), (4, .long x4), (6, .long x6)] []) : V pr l e rmX11_rub s m args below meth c E A 11 0 0 (MQ below (CQi E Post (fun u => wBig E a u) w0 s.heap.size) args s 0 0 A) (wBig E a t) 76 [(0, .ref (a 0 0)), (1, .int x1), (2, .int x2), (3, .int x3), (4, .long x4), (6, .long x6), (8, .int x8), (9, .int x9)] [.int z0] := by
  refine v_istore (pc := 76) C [(10, .int z0), (0, .ref (a 0 0)), (1, .int x1), (2, .int x2), (3, .int x3), (4, .long x4), (6, .long x6), (8, .int x8), (9, .int x9)] rfl (by decide) dX11_rub_76 ?_
  refine v_iload (pc := 78) C 0 rfl dX11_rub_78 ?_
  refine v_if_ne (pc := 80) C 87 (by decide) dX11_rub_80 (fun hc => ?_) (fun hc => ?_)
  · have hw := hw.1 hc
    refine v_sub (lv' := [(0, .ref (a 0 0)), (1, .int x1), (2, .int x2), (3, .int x3), (4, .long x4), (6, .long x6), (8, .int x8), (9, .int x9), (10, .int z0)]) [1, 2, 3, 4, 5, 6, 7, 8, 0] rfl ?_
    exact vjX11_rub_87 C hA a  x1 x2 x3 x4 x6 x8 x9 z0 t hw hself hX
  · have hw := hw.2 hc
    refine v_iload_n (pc := 83) C 4 rfl rfl dX11_rub_83 ?_
    refine v_if_ne (pc := 84) C 117 (by decide) dX11_rub_84 (fun hc => ?_) (fun hc => ?_)
    · have hw := hw.1 hc
      obtain ⟨x8_9, ex⟩ : ∃ y : Int32, y = x8 + 1 := ⟨_, rfl⟩
      have hw := hw x8_9 ex
      refine v_iinc (pc := 117) C 7 rfl (by rw [ex, ki_1]) [(8, .int x8_9), (10, .int z0), (0, .ref (a 0 0)), (1, .int x1), (2, .int x2), (3, .int x3), (4, .long x4), (6, .long x6), (9, .int x9)] rfl (by decide) dX11_rub_117 ?_
      refine v_goto (pc := 120) C 43 (by decide) dX11_rub_120 ?_
      refine v_sub (lv' := [(0, .ref (a 0 0)), (1, .int x1), (2, .int x2), (3, .int x3), (4, .long x4), (6, .long x6), (8, .int x8_9)]) [2, 3, 4, 5, 6, 7, 0] rfl ?_
      exact hself x1 x2 x3 x4 x6 x8_9 t hw
    · have hw := hw.2 hc
      refine v_sub (lv' := [(0, .ref (a 0 0)), (1, .int x1), (2, .int x2), (3, .int x3), (4, .long x4), (6, .long x6), (8, .int x8), (9, .int x9), (10, .int z0)]) [1, 2, 3, 4, 5, 6, 7, 8, 0] rfl ?_
      exact vjX11_rub_87 C hA a  x1 x2 x3 x4 x6 x8 x9 z0 t hw hself hX
set_option maxHeartbeats 4000000 in
set_option maxRecDepth 100000 in
theorem vlX11_rub_43 (C : VC pr s m args meth c E A cX11_rub 11 (some .int) RX11) (hA : va_A w0 s.heap.size = A) (a : Nat → Nat → Nat)  {Post : Int32 → (Nat → St) → Prop} {KX : Int64 → Int64 → (Nat → St) → Prop} (hX : ∀ (x4 : Int64) (x6 : Int64) (t : Nat → St), KX x4 x6 t → V pr l e rmX11_rub s m args below meth c E A 11 0 0 (MQ below (CQi E Post (fun u => wBig E a u) w0 s.heap.size) args s 0 0 A) (wBig E a t) 123 [(0, .ref (a 0 0)), (4, .long x4), (6, .long x6)] []) : ∀ (n : Nat) (x1 : Int32) (x2 : Int32) (x3 : Int32) (x4 : Int64) (x6 : Int64) (x8 : Int32) (t : Nat → St), wLX11_rub_43  Post KX n (x1, x2, x3, x4, x6, x8, t) → V pr l e rmX11_rub s m args below meth c E A 11 0 0 (MQ below (CQi E Post (fun u => wBig E a u) w0 s.heap.size) args s 0 0 A) (wBig E a t) 43 [(0, .ref (a 0 0)), (1, .int x1), (2, .int x2), (3, .int x3), (4, .long x4), (6, .long x6), (8, .int x8)] [] := by
  intro n
  induction n with
  | zero => intro x1 x2 x3 x4 x6 x8 t hw; exact absurd hw id
  | succ n hself =>
    intro x1 x2 x3 x4 x6 x8 t hw
    have hw : wlX11_rub_43  Post KX (wLX11_rub_43  Post KX n) x1 x2 x3 x4 x6 x8 t := hw
    refine v_iload (pc := 43) C 6 rfl dX11_rub_43 ?_
    refine v_bipush (pc := 45) C 12 kb_12 dX11_rub_45 ?_
    refine v_icmp_ge (pc := 47) C 123 (by decide) dX11_rub_47 (fun hc => ?_) (fun hc => ?_)
    · have hw := hw.1 hc
      refine v_sub (lv' := [(0, .ref (a 0 0)), (4, .long x4), (6, .long x6)]) [0, 4, 5] rfl ?_
      exact hX x4 x6 t hw
    · have hw := hw.2 hc
      refine v_aload_n (pc := 50) C 0 rfl rfl dX11_rub_50 ?_
      refine v_get (pc := 51) C cfX11 rfl 0 1 rfl (by decide) wfX11_19 rfl dX11_rub_51 ?_
      refine v_iload_n (pc := 54) C 1 rfl rfl dX11_rub_54 ?_
      refine v_iload (pc := 55) C 6 rfl dX11_rub_55 ?_
      refine v_goBi (pc := 57) C (bs := (bsBig E a t)) (cs := [bPad E (a 2) (t 2)]) (cs' := (fun (_ : Unit) => [bPad E (a 2) (t 2)])) (bs' := (fun (_ : Unit) => (bsBig E a t))) (w' := (fun (_ : Unit) => (wBig E a t))) [2] (wBig_fl E a t) rfl (fun _ => rfl) (fun _ => rfl) (fun _ => (wBig_fl _ _ _).symm) (v_runVB (pc := 57) C [.int x1, .int x8] [] (fun sz => ctX4_dentOf l E (a 2) x1 x8 (t 2) hw sz) [2] (wBig_fl E a t) rfl rfl mfX4_dentOf mvX4_dentOf wmX11_170 rfl ⟨Nat.le_of_ble_eq_true rfl, Nat.le_of_ble_eq_true rfl⟩ ⟨rfl, rfl⟩ 10 (ci := 4) (qc := (RX4, TX4, 12)) rfl rfl rfl rfl (Nat.le_of_ble_eq_true rfl) ⟨Nat.zero_le _, Nat.zero_le _⟩ dX11_rub_57) (fun r5 _ hw => ?_)
      refine v_istore (pc := 60) C [(9, .int r5), (0, .ref (a 0 0)), (1, .int x1), (2, .int x2), (3, .int x3), (4, .long x4), (6, .long x6), (8, .int x8)] rfl (by decide) dX11_rub_60 ?_
      refine v_iload_n (pc := 62) C 3 rfl rfl dX11_rub_62 ?_
      refine v_iload (pc := 63) C 7 rfl dX11_rub_63 ?_
      refine v_ishr (pc := 65) C dX11_rub_65 ?_
      refine v_iconst (pc := 66) C 1 ki_1 dX11_rub_66 ?_
      refine v_iand (pc := 67) C dX11_rub_67 ?_
      refine v_if_eq (pc := 68) C 75 (by decide) dX11_rub_68 (fun hc => ?_) (fun hc => ?_)
      · have hw := hw.1 hc
        refine v_iconst (pc := 75) C 0 ki_0 dX11_rub_75 ?_
        refine v_sub (lv' := [(0, .ref (a 0 0)), (1, .int x1), (2, .int x2), (3, .int x3), (4, .long x4), (6, .long x6), (8, .int x8), (9, .int r5)]) [1, 2, 3, 4, 5, 6, 7, 0] rfl ?_
        exact vjX11_rub_76 C hA a  x1 x2 x3 x4 x6 x8 r5 0 t hw hself hX
      · have hw := hw.2 hc
        refine v_iconst (pc := 71) C 1 ki_1 dX11_rub_71 ?_
        refine v_goto (pc := 72) C 76 (by decide) dX11_rub_72 ?_
        refine v_sub (lv' := [(0, .ref (a 0 0)), (1, .int x1), (2, .int x2), (3, .int x3), (4, .long x4), (6, .long x6), (8, .int x8), (9, .int r5)]) [1, 2, 3, 4, 5, 6, 7, 0] rfl ?_
        exact vjX11_rub_76 C hA a  x1 x2 x3 x4 x6 x8 r5 1 t hw hself hX
set_option maxHeartbeats 4000000 in
set_option maxRecDepth 100000 in
theorem ctX11_rub (l : Launch) (E : VE) (a : Nat → Nat → Nat) (x1 : Int32) (x2 : Int32) (x3 : Int32) (t : Nat → St)  {Post : Int32 → (Nat → St) → Prop} (hw : wpX11_rub x1 x2 x3 t Post) (sz : Nat) : Met l yX11_rub (mW yX11_rub cX11_rub 11 (some .int)) rmX11_rub (CPre E [.ref (a 0 0), .int x1, .int x2, .int x3] sz (wBig E a t)) (CQi E Post (fun u => wBig E a u) (wBig E a t) sz) 0 0 (va_A (wBig E a t) sz) := by
  refine v_met (by decide) (Nat.le_of_ble_eq_true rfl) ?_
  intro pr e s m below meth c A hsz hA C
  subst hsz
  refine v_aload_n (pc := 0) C 0 rfl rfl dX11_rub_0 ?_
  refine v_get (pc := 1) C cfX11 rfl 0 1 rfl (by decide) wfX11_19 rfl dX11_rub_1 ?_
  refine v_iload_n (pc := 4) C 1 rfl rfl dX11_rub_4 ?_
  refine v_goBi (pc := 5) C (bs := (bsBig E a t)) (cs := [bPad E (a 2) (t 2)]) (cs' := (fun (_ : Unit) => [bPad E (a 2) (t 2)])) (bs' := (fun (_ : Unit) => (bsBig E a t))) (w' := (fun (_ : Unit) => (wBig E a t))) [2] (wBig_fl E a t) rfl (fun _ => rfl) (fun _ => rfl) (fun _ => (wBig_fl _ _ _).symm) (v_runVB (pc := 5) C [.int x1] [] (fun sz => ctX4_hasSheet l E (a 2) x1 (t 2) hw sz) [2] (wBig_fl E a t) rfl rfl mfX4_hasSheet mvX4_hasSheet wmX11_155 rfl ⟨Nat.le_of_ble_eq_true rfl, Nat.le_of_ble_eq_true rfl⟩ ⟨rfl, rfl⟩ 10 (ci := 4) (qc := (RX4, TX4, 12)) rfl rfl rfl rfl (Nat.le_of_ble_eq_true rfl) ⟨Nat.zero_le _, Nat.zero_le _⟩ dX11_rub_5) (fun r1 _ hw => ?_)
  refine v_if_eq (pc := 8) C 27 (by decide) dX11_rub_8 (fun hc => ?_) (fun hc => ?_)
  · have hw := hw.1 hc
    refine v_sub (lv' := [(0, .ref (a 0 0))]) [0] rfl ?_
    exact vjX11_rub_27 C hA a  t hw
  · have hw := hw.2 hc
    refine v_iload_n (pc := 11) C 2 rfl rfl dX11_rub_11 ?_
    refine v_goBi (pc := 12) C (bs := (bsBig E a t)) (cs := []) (cs' := (fun (_ : Unit) => [])) (bs' := (fun (_ : Unit) => (bsBig E a t))) (w' := (fun (_ : Unit) => (wBig E a t))) [] (wBig_fl E a t) rfl (fun _ => rfl) (fun _ => rfl) (fun _ => (wBig_fl _ _ _).symm) (v_runSB (pc := 12) C [.int x2] [] (fun sz => ctX11_isCells l E x2 hw sz) [] (wBig_fl E a t) rfl rfl mfX11_isCells msX11_isCells wmX11_99 rfl ⟨Nat.le_of_ble_eq_true rfl, Nat.le_of_ble_eq_true rfl⟩ ⟨rfl, rfl⟩ rfl (Nat.le_of_ble_eq_true rfl) ⟨Nat.zero_le _, Nat.zero_le _⟩ dX11_rub_12) (fun r4 _ hw => ?_)
    refine v_if_eq (pc := 15) C 27 (by decide) dX11_rub_15 (fun hc => ?_) (fun hc => ?_)
    · have hw := hw.1 hc
      refine v_sub (lv' := [(0, .ref (a 0 0))]) [0] rfl ?_
      exact vjX11_rub_27 C hA a  t hw
    · have hw := hw.2 hc
      refine v_iload_n (pc := 18) C 3 rfl rfl dX11_rub_18 ?_
      refine v_if_lt (pc := 19) C 27 (by decide) dX11_rub_19 (fun hc => ?_) (fun hc => ?_)
      · have hw := hw.1 hc
        refine v_sub (lv' := [(0, .ref (a 0 0))]) [0] rfl ?_
        exact vjX11_rub_27 C hA a  t hw
      · have hw := hw.2 hc
        refine v_iload_n (pc := 22) C 3 rfl rfl dX11_rub_22 ?_
        refine v_iconst (pc := 23) C 1 ki_1 dX11_rub_23 ?_
        refine v_icmp_le (pc := 24) C 34 (by decide) dX11_rub_24 (fun hc => ?_) (fun hc => ?_)
        · have hw := hw.1 hc
          refine v_lconst (pc := 34) C 1 kl_1 dX11_rub_34 ?_
          refine v_lstore (pc := 35) C [(4, .long 1), (0, .ref (a 0 0)), (1, .int x1), (2, .int x2), (3, .int x3)] rfl (by decide) dX11_rub_35 ?_
          refine v_lconst (pc := 37) C 1 kl_1 dX11_rub_37 ?_
          refine v_lstore (pc := 38) C [(6, .long 1), (4, .long 1), (0, .ref (a 0 0)), (1, .int x1), (2, .int x2), (3, .int x3)] rfl (by decide) dX11_rub_38 ?_
          refine v_iconst (pc := 40) C 0 ki_0 dX11_rub_40 ?_
          refine v_istore (pc := 41) C [(8, .int 0), (6, .long 1), (4, .long 1), (0, .ref (a 0 0)), (1, .int x1), (2, .int x2), (3, .int x3)] rfl (by decide) dX11_rub_41 ?_
          obtain ⟨n, hw⟩ := hw
          refine v_sub (lv' := [(0, .ref (a 0 0)), (1, .int x1), (2, .int x2), (3, .int x3), (4, .long 1), (6, .long 1), (8, .int 0)]) [3, 4, 5, 6, 2, 1, 0] rfl ?_
          refine vlX11_rub_43 C hA a  (fun y10 y11 t12 hw => ?_) n x1 x2 x3 1 1 0 t hw
          refine v_aload_n (pc := 123) C 0 rfl rfl dX11_rub_123 ?_
          refine v_lload (pc := 124) C 1 rfl dX11_rub_124 ?_
          refine v_lload (pc := 126) C 2 rfl dX11_rub_126 ?_
          refine v_goAv (pc := 128) C (wc' := (fun (u : (Nat → St)) => (wBig E a u))) (fun _ => rfl) (v_runVA (pc := 128) C [.long y10, .long y11] [] (fun sz => ctX11_keepFraction l E a y10 y11 t12 hw sz) mfX11_keepFraction mvX11_keepFraction wmX11_247 rfl ⟨Nat.le_of_ble_eq_true rfl, Nat.le_of_ble_eq_true rfl⟩ ⟨rfl, rfl⟩ 0 (ci := 11) (qc := (RX11, TX11, 15)) rfl rfl rfl rfl (Nat.le_of_ble_eq_true rfl) ⟨Nat.zero_le _, Nat.zero_le _⟩ dX11_rub_128) (fun t13 hw => ?_)
          refine v_iconst (pc := 131) C 1 ki_1 dX11_rub_131 ?_
          exact v_ireti (pc := 132) C t13 hA rfl hw dX11_rub_132
        · have hw := hw.2 hc
          refine v_sub (lv' := [(0, .ref (a 0 0))]) [0] rfl ?_
          exact vjX11_rub_27 C hA a  t hw
set_option maxHeartbeats 4000000 in
set_option maxRecDepth 100000 in
theorem vlX11_torn_26 (C : VC pr s m args meth c E A cX11_torn 3 (some .int) RX11) (hA : va_A w0 s.heap.size = A) (a : Nat → Nat → Nat)  {Post : Int32 → (Nat → St) → Prop} {KX : (Nat → St) → Prop} (hX : ∀ (t : Nat → St), KX t → V pr l e rmX11_torn s m args below meth c E A 3 0 0 (MQ below (CQi E Post (fun u => wBig E a u) w0 s.heap.size) args s 0 0 A) (wBig E a t) 66 [] []) : ∀ (n : Nat) (x1 : Int32) (x2 : Int32) (t : Nat → St), wLX11_torn_26  Post KX n (x1, x2, t) → V pr l e rmX11_torn s m args below meth c E A 3 0 0 (MQ below (CQi E Post (fun u => wBig E a u) w0 s.heap.size) args s 0 0 A) (wBig E a t) 26 [(0, .ref (a 0 0)), (1, .int x1), (2, .int x2)] [] := by
  intro n
  induction n with
  | zero => intro x1 x2 t hw; exact absurd hw id
  | succ n hself =>
    intro x1 x2 t hw
    have hw : wlX11_torn_26  Post KX (wLX11_torn_26  Post KX n) x1 x2 t := hw
    refine v_iload_n (pc := 26) C 2 rfl rfl dX11_torn_26 ?_
    refine v_aload_n (pc := 27) C 0 rfl rfl dX11_torn_27 ?_
    refine v_get (pc := 28) C cfX11 rfl 0 1 rfl (by decide) wfX11_19 rfl dX11_torn_28 ?_
    refine v_getN (pc := 31) C cfX4 rfl 10 3 rfl (by decide) wfX11_81 rfl dX11_torn_31 ?_
    refine v_icmp_ge (pc := 34) C 66 (by decide) dX11_torn_34 (fun hc => ?_) (fun hc => ?_)
    · have hw := hw.1 hc
      refine v_sub (lv' := []) [] rfl ?_
      exact hX t hw
    · have hw := hw.2 hc
      refine v_aload_n (pc := 37) C 0 rfl rfl dX11_torn_37 ?_
      refine v_get (pc := 38) C cfX11 rfl 0 1 rfl (by decide) wfX11_19 rfl dX11_torn_38 ?_
      refine v_iload_n (pc := 41) C 2 rfl rfl dX11_torn_41 ?_
      refine v_goBi (pc := 42) C (bs := (bsBig E a t)) (cs := [bPad E (a 2) (t 2)]) (cs' := (fun (_ : Unit) => [bPad E (a 2) (t 2)])) (bs' := (fun (_ : Unit) => (bsBig E a t))) (w' := (fun (_ : Unit) => (wBig E a t))) [2] (wBig_fl E a t) rfl (fun _ => rfl) (fun _ => rfl) (fun _ => (wBig_fl _ _ _).symm) (v_runVB (pc := 42) C [.int x2] [] (fun sz => ctX4_dentedBy l E (a 2) x2 (t 2) hw sz) [2] (wBig_fl E a t) rfl rfl mfX4_dentedBy mvX4_dentedBy wmX11_202 rfl ⟨Nat.le_of_ble_eq_true rfl, Nat.le_of_ble_eq_true rfl⟩ ⟨rfl, rfl⟩ 10 (ci := 4) (qc := (RX4, TX4, 12)) rfl rfl rfl rfl (Nat.le_of_ble_eq_true rfl) ⟨Nat.zero_le _, Nat.zero_le _⟩ dX11_torn_42) (fun r3 _ hw => ?_)
      refine v_iload_n (pc := 45) C 1 rfl rfl dX11_torn_45 ?_
      refine v_iand (pc := 46) C dX11_torn_46 ?_
      refine v_if_ne (pc := 47) C 60 (by decide) dX11_torn_47 (fun hc => ?_) (fun hc => ?_)
      · have hw := hw.1 hc
        obtain ⟨x2_4, ex⟩ : ∃ y : Int32, y = x2 + 1 := ⟨_, rfl⟩
        have hw := hw x2_4 ex
        refine v_iinc (pc := 60) C 2 rfl (by rw [ex, ki_1]) [(2, .int x2_4), (0, .ref (a 0 0)), (1, .int x1)] rfl (by decide) dX11_torn_60 ?_
        refine v_goto (pc := 63) C 26 (by decide) dX11_torn_63 ?_
        refine v_sub (lv' := [(0, .ref (a 0 0)), (1, .int x1), (2, .int x2_4)]) [1, 2, 0] rfl ?_
        exact hself x1 x2_4 t hw
      · have hw := hw.2 hc
        refine v_iload_n (pc := 50) C 2 rfl rfl dX11_torn_50 ?_
        refine v_aload_n (pc := 51) C 0 rfl rfl dX11_torn_51 ?_
        refine v_get (pc := 52) C cfX11 rfl 0 1 rfl (by decide) wfX11_19 rfl dX11_torn_52 ?_
        refine v_goBi (pc := 55) C (bs := (bsBig E a t)) (cs := [bPad E (a 2) (t 2)]) (cs' := (fun (_ : Unit) => [bPad E (a 2) (t 2)])) (bs' := (fun (_ : Unit) => (bsBig E a t))) (w' := (fun (_ : Unit) => (wBig E a t))) [2] (wBig_fl E a t) rfl (fun _ => rfl) (fun _ => rfl) (fun _ => (wBig_fl _ _ _).symm) (v_runVB (pc := 55) C [] [.int x2] (fun sz => ctX4_top l E (a 2) (t 2) hw sz) [2] (wBig_fl E a t) rfl rfl mfX4_top mvX4_top wmX11_164 rfl ⟨Nat.le_of_ble_eq_true rfl, Nat.le_of_ble_eq_true rfl⟩ ⟨rfl, rfl⟩ 10 (ci := 4) (qc := (RX4, TX4, 12)) rfl rfl rfl rfl (Nat.le_of_ble_eq_true rfl) ⟨Nat.zero_le _, Nat.zero_le _⟩ dX11_torn_55) (fun r5 _ hw => ?_)
        refine v_isub (pc := 58) C dX11_torn_58 ?_
        exact v_ireti (pc := 59) C t hA rfl hw dX11_torn_59
set_option maxHeartbeats 4000000 in
set_option maxRecDepth 100000 in
theorem ctX11_torn (l : Launch) (E : VE) (a : Nat → Nat → Nat) (x1 : Int32) (t : Nat → St)  {Post : Int32 → (Nat → St) → Prop} (hw : wpX11_torn x1 t Post) (sz : Nat) : Met l yX11_torn (mW yX11_torn cX11_torn 3 (some .int)) rmX11_torn (CPre E [.ref (a 0 0), .int x1] sz (wBig E a t)) (CQi E Post (fun u => wBig E a u) (wBig E a t) sz) 0 0 (va_A (wBig E a t) sz) := by
  refine v_met (by decide) (Nat.le_of_ble_eq_true rfl) ?_
  intro pr e s m below meth c A hsz hA C
  subst hsz
  refine v_aload_n (pc := 0) C 0 rfl rfl dX11_torn_0 ?_
  refine v_get (pc := 1) C cfX11 rfl 0 1 rfl (by decide) wfX11_19 rfl dX11_torn_1 ?_
  refine v_iload_n (pc := 4) C 1 rfl rfl dX11_torn_4 ?_
  refine v_goBi (pc := 5) C (bs := (bsBig E a t)) (cs := [bPad E (a 2) (t 2)]) (cs' := (fun (_ : Unit) => [bPad E (a 2) (t 2)])) (bs' := (fun (_ : Unit) => (bsBig E a t))) (w' := (fun (_ : Unit) => (wBig E a t))) [2] (wBig_fl E a t) rfl (fun _ => rfl) (fun _ => rfl) (fun _ => (wBig_fl _ _ _).symm) (v_runVB (pc := 5) C [.int x1] [] (fun sz => ctX4_hasNotes l E (a 2) x1 (t 2) hw sz) [2] (wBig_fl E a t) rfl rfl mfX4_hasNotes mvX4_hasNotes wmX11_211 rfl ⟨Nat.le_of_ble_eq_true rfl, Nat.le_of_ble_eq_true rfl⟩ ⟨rfl, rfl⟩ 10 (ci := 4) (qc := (RX4, TX4, 12)) rfl rfl rfl rfl (Nat.le_of_ble_eq_true rfl) ⟨Nat.zero_le _, Nat.zero_le _⟩ dX11_torn_5) (fun r1 _ hw => ?_)
  refine v_if_ne (pc := 8) C 18 (by decide) dX11_torn_8 (fun hc => ?_) (fun hc => ?_)
  · have hw := hw.1 hc
    refine v_aload_n (pc := 18) C 0 rfl rfl dX11_torn_18 ?_
    refine v_get (pc := 19) C cfX11 rfl 0 1 rfl (by decide) wfX11_19 rfl dX11_torn_19 ?_
    refine v_goBi (pc := 22) C (bs := (bsBig E a t)) (cs := [bPad E (a 2) (t 2)]) (cs' := (fun (_ : Unit) => [bPad E (a 2) (t 2)])) (bs' := (fun (_ : Unit) => (bsBig E a t))) (w' := (fun (_ : Unit) => (wBig E a t))) [2] (wBig_fl E a t) rfl (fun _ => rfl) (fun _ => rfl) (fun _ => (wBig_fl _ _ _).symm) (v_runVB (pc := 22) C [] [] (fun sz => ctX4_top l E (a 2) (t 2) hw sz) [2] (wBig_fl E a t) rfl rfl mfX4_top mvX4_top wmX11_164 rfl ⟨Nat.le_of_ble_eq_true rfl, Nat.le_of_ble_eq_true rfl⟩ ⟨rfl, rfl⟩ 10 (ci := 4) (qc := (RX4, TX4, 12)) rfl rfl rfl rfl (Nat.le_of_ble_eq_true rfl) ⟨Nat.zero_le _, Nat.zero_le _⟩ dX11_torn_22) (fun r2 _ hw => ?_)
    refine v_istore_n (pc := 25) C [(2, .int r2), (0, .ref (a 0 0)), (1, .int x1)] rfl rfl (by decide) dX11_torn_25 ?_
    obtain ⟨n, hw⟩ := hw
    refine v_sub (lv' := [(0, .ref (a 0 0)), (1, .int x1), (2, .int r2)]) [1, 2, 0] rfl ?_
    refine vlX11_torn_26 C hA a  (fun t6 hw => ?_) n x1 r2 t hw
    refine v_iconst (pc := 66) C (-1) ki_m1 dX11_torn_66 ?_
    exact v_ireti (pc := 67) C t6 hA rfl hw dX11_torn_67
  · have hw := hw.2 hc
    refine v_aload_n (pc := 11) C 0 rfl rfl dX11_torn_11 ?_
    refine v_bipush (pc := 12) C (-2) kb_m2 dX11_torn_12 ?_
    refine v_goAi (pc := 14) C (wc' := (fun (u : (Nat → St)) => (wBig E a u))) (fun _ => rfl) (v_runVA (pc := 14) C [.int (-2)] [] (fun sz => ctX11_bad l E a (-2) t hw sz) mfX11_bad mvX11_bad wmX11_77 rfl ⟨Nat.le_of_ble_eq_true rfl, Nat.le_of_ble_eq_true rfl⟩ ⟨rfl, rfl⟩ 0 (ci := 11) (qc := (RX11, TX11, 15)) rfl rfl rfl rfl (Nat.le_of_ble_eq_true rfl) ⟨Nat.zero_le _, Nat.zero_le _⟩ dX11_torn_14) (fun r7 t8 hw => ?_)
    exact v_ireti (pc := 17) C t8 hA rfl hw dX11_torn_17
set_option maxHeartbeats 4000000 in
set_option maxRecDepth 100000 in
theorem ctX11_nextDraw (l : Launch) (E : VE)  (x0 : Int64)   {Post : Int64 → Prop} (hw : wpX11_nextDraw x0 Post) (sz : Nat) : Met l yX11_nextDraw (mW yX11_nextDraw cX11_nextDraw 2 (some .long)) rmX11_nextDraw (CPre E [.long x0] sz (fl [])) (CQl E (fun (z : Int64) (_ : Unit) => Post z) (fun _ => (fl [])) (fl []) sz) 0 0 (va_A (fl []) sz) := by
  refine v_met (by decide) (Nat.le_of_ble_eq_true rfl) ?_
  intro pr e s m below meth c A hsz hA C
  subst hsz
  refine v_lload_n (pc := 0) C 0 rfl rfl dX11_nextDraw_0 ?_
  refine v_ldc2 (pc := 1) C 1103515245 wlX11_281 dX11_nextDraw_1 ?_
  refine v_lmul (pc := 4) C dX11_nextDraw_4 ?_
  refine v_ldc2 (pc := 5) C 12345 wlX11_283 dX11_nextDraw_5 ?_
  refine v_ladd (pc := 8) C dX11_nextDraw_8 ?_
  refine v_ldc2 (pc := 9) C 2147483648 wlX11_285 dX11_nextDraw_9 ?_
  refine v_lrem (pc := 12) C (by decide) dX11_nextDraw_12 ?_
  exact v_lret (pc := 13) C () hA rfl hw dX11_nextDraw_13
set_option maxHeartbeats 4000000 in
set_option maxRecDepth 100000 in
theorem ctX11_drawOf (l : Launch) (E : VE)  (x0 : Int64) (x2 : Int32)   {Post : Int32 → Prop} (hw : wpX11_drawOf x0 x2 Post) (sz : Nat) : Met l yX11_drawOf (mW yX11_drawOf cX11_drawOf 3 (some .int)) rmX11_drawOf (CPre E [.long x0, .int x2] sz (fl [])) (CQi E (fun (z : Int32) (_ : Unit) => Post z) (fun _ => (fl [])) (fl []) sz) 0 0 (va_A (fl []) sz) := by
  refine v_met (by decide) (Nat.le_of_ble_eq_true rfl) ?_
  intro pr e s m below meth c A hsz hA C
  subst hsz
  refine v_iload_n (pc := 0) C 1 rfl rfl dX11_drawOf_0 ?_
  refine v_if_gt (pc := 1) C 8 (by decide) dX11_drawOf_1 (fun hc => ?_) (fun hc => ?_)
  · have hw := hw.1 hc
    refine v_lload_n (pc := 8) C 0 rfl rfl dX11_drawOf_8 ?_
    refine v_ldc2 (pc := 9) C 65536 wlX11_287 dX11_drawOf_9 ?_
    refine v_ldiv (pc := 12) C (by decide) dX11_drawOf_12 ?_
    refine v_iload_n (pc := 13) C 1 rfl rfl dX11_drawOf_13 ?_
    refine v_i2l (pc := 14) C dX11_drawOf_14 ?_
    obtain ⟨hg, hw⟩ := hw
    refine v_lrem (pc := 15) C hg dX11_drawOf_15 ?_
    refine v_l2i (pc := 16) C dX11_drawOf_16 ?_
    exact v_ireti (pc := 17) C () hA rfl hw dX11_drawOf_17
  · have hw := hw.2 hc
    refine v_iconst (pc := 4) C 0 ki_0 dX11_drawOf_4 ?_
    refine v_goto (pc := 5) C 17 (by decide) dX11_drawOf_5 ?_
    exact v_ireti (pc := 17) C () hA rfl hw dX11_drawOf_17
set_option maxHeartbeats 4000000 in
set_option maxRecDepth 100000 in
theorem vlX11_sumOfLast_4 (C : VC pr s m args meth c E A cX11_sumOfLast 3 (some .int) RX11) (hA : va_A w0 s.heap.size = A) (a : Nat → Nat → Nat) (t : Nat → St) {Post : Int32 → Prop} {KX : Int32 → Prop} (hX : ∀ (x1 : Int32), KX x1 → V pr l e rmX11_sumOfLast s m args below meth c E A 3 0 0 (MQ below (CQi E (fun (z : Int32) (_ : Unit) => Post z) (fun _ => (wBig E a t)) w0 s.heap.size) args s 0 0 A) (wBig E a t) 25 [(1, .int x1)] []) : ∀ (n : Nat) (x1 : Int32) (x2 : Int32), wLX11_sumOfLast_4 t Post KX n (x1, x2) → V pr l e rmX11_sumOfLast s m args below meth c E A 3 0 0 (MQ below (CQi E (fun (z : Int32) (_ : Unit) => Post z) (fun _ => (wBig E a t)) w0 s.heap.size) args s 0 0 A) (wBig E a t) 4 [(0, .ref (a 0 0)), (1, .int x1), (2, .int x2)] [] := by
  intro n
  induction n with
  | zero => intro x1 x2 hw; exact absurd hw id
  | succ n hself =>
    intro x1 x2 hw
    have hw : wlX11_sumOfLast_4 t Post KX (wLX11_sumOfLast_4 t Post KX n) x1 x2 := hw
    refine v_iload_n (pc := 4) C 2 rfl rfl dX11_sumOfLast_4 ?_
    refine v_bipush (pc := 5) C 12 kb_12 dX11_sumOfLast_5 ?_
    refine v_icmp_ge (pc := 7) C 25 (by decide) dX11_sumOfLast_7 (fun hc => ?_) (fun hc => ?_)
    · have hw := hw.1 hc
      refine v_sub (lv' := [(1, .int x1)]) [1] rfl ?_
      exact hX x1 hw
    · have hw := hw.2 hc
      refine v_iload_n (pc := 10) C 1 rfl rfl dX11_sumOfLast_10 ?_
      refine v_aload_n (pc := 11) C 0 rfl rfl dX11_sumOfLast_11 ?_
      refine v_get (pc := 12) C cfX11 rfl 0 8 rfl (by decide) wfX11_53 rfl dX11_sumOfLast_12 ?_
      refine v_iload_n (pc := 15) C 2 rfl rfl dX11_sumOfLast_15 ?_
      obtain ⟨hg, hw⟩ := hw
      refine v_iald (pc := 16) C 1 rfl hg rfl dX11_sumOfLast_16 ?_
      refine v_iadd (pc := 17) C dX11_sumOfLast_17 ?_
      refine v_topi (fun x1_1 ex => ?_)
      have hw := hw x1_1 ex
      refine v_istore_n (pc := 18) C [(1, .int x1_1), (0, .ref (a 0 0)), (2, .int x2)] rfl rfl (by decide) dX11_sumOfLast_18 ?_
      obtain ⟨x2_2, ex⟩ : ∃ y : Int32, y = x2 + 1 := ⟨_, rfl⟩
      have hw := hw x2_2 ex
      refine v_iinc (pc := 19) C 2 rfl (by rw [ex, ki_1]) [(2, .int x2_2), (1, .int x1_1), (0, .ref (a 0 0))] rfl (by decide) dX11_sumOfLast_19 ?_
      refine v_goto (pc := 22) C 4 (by decide) dX11_sumOfLast_22 ?_
      refine v_sub (lv' := [(0, .ref (a 0 0)), (1, .int x1_1), (2, .int x2_2)]) [2, 1, 0] rfl ?_
      exact hself x1_1 x2_2 hw
set_option maxHeartbeats 4000000 in
set_option maxRecDepth 100000 in
theorem ctX11_sumOfLast (l : Launch) (E : VE) (a : Nat → Nat → Nat)  (t : Nat → St)  {Post : Int32 → Prop} (hw : wpX11_sumOfLast t Post) (sz : Nat) : Met l yX11_sumOfLast (mW yX11_sumOfLast cX11_sumOfLast 3 (some .int)) rmX11_sumOfLast (CPre E [.ref (a 0 0)] sz (wBig E a t)) (CQi E (fun (z : Int32) (_ : Unit) => Post z) (fun _ => (wBig E a t)) (wBig E a t) sz) 0 0 (va_A (wBig E a t) sz) := by
  refine v_met (by decide) (Nat.le_of_ble_eq_true rfl) ?_
  intro pr e s m below meth c A hsz hA C
  subst hsz
  refine v_iconst (pc := 0) C 0 ki_0 dX11_sumOfLast_0 ?_
  refine v_istore_n (pc := 1) C [(1, .int 0), (0, .ref (a 0 0))] rfl rfl (by decide) dX11_sumOfLast_1 ?_
  refine v_iconst (pc := 2) C 0 ki_0 dX11_sumOfLast_2 ?_
  refine v_istore_n (pc := 3) C [(2, .int 0), (1, .int 0), (0, .ref (a 0 0))] rfl rfl (by decide) dX11_sumOfLast_3 ?_
  obtain ⟨n, hw⟩ := hw
  refine v_sub (lv' := [(0, .ref (a 0 0)), (1, .int 0), (2, .int 0)]) [2, 1, 0] rfl ?_
  refine vlX11_sumOfLast_4 C hA a t (fun y3 hw => ?_) n 0 0 hw
  refine v_iload_n (pc := 25) C 0 rfl rfl dX11_sumOfLast_25 ?_
  exact v_ireti (pc := 26) C () hA rfl hw dX11_sumOfLast_26
set_option maxHeartbeats 4000000 in
set_option maxRecDepth 100000 in
theorem vjX11_drawn_20 (C : VC pr s m args meth c E A cX11_drawn 10 (some .int) RX11) (hA : va_A w0 s.heap.size = A) (a : Nat → Nat → Nat)  {Post : Int32 → (Nat → St) → Prop} (t : Nat → St) (hw : wjX11_drawn_20  Post t) : V pr l e rmX11_drawn s m args below meth c E A 10 0 0 (MQ below (CQi E Post (fun u => wBig E a u) w0 s.heap.size) args s 0 0 A) (wBig E a t) 20 [(0, .ref (a 0 0))] [] := by
  refine v_aload_n (pc := 20) C 0 rfl rfl dX11_drawn_20 ?_
  refine v_bipush (pc := 21) C (-2) kb_m2 dX11_drawn_21 ?_
  refine v_goAi (pc := 23) C (wc' := (fun (u : (Nat → St)) => (wBig E a u))) (fun _ => rfl) (v_runVA (pc := 23) C [.int (-2)] [] (fun sz => ctX11_bad l E a (-2) t hw sz) mfX11_bad mvX11_bad wmX11_77 rfl ⟨Nat.le_of_ble_eq_true rfl, Nat.le_of_ble_eq_true rfl⟩ ⟨rfl, rfl⟩ 0 (ci := 11) (qc := (RX11, TX11, 15)) rfl rfl rfl rfl (Nat.le_of_ble_eq_true rfl) ⟨Nat.zero_le _, Nat.zero_le _⟩ dX11_drawn_23) (fun r1 t2 hw => ?_)
  exact v_ireti (pc := 26) C t2 hA rfl hw dX11_drawn_26
set_option maxHeartbeats 4000000 in
set_option maxRecDepth 100000 in
theorem vlX11_drawn_61 (C : VC pr s m args meth c E A cX11_drawn 10 (some .int) RX11) (hA : va_A w0 s.heap.size = A) (a : Nat → Nat → Nat)  {Post : Int32 → (Nat → St) → Prop} {KX : Int32 → Int32 → Int32 → Int32 → (Nat → St) → Prop} (hX : ∀ (x1 : Int32) (x2 : Int32) (x3 : Int32) (x4 : Int32) (t : Nat → St), KX x1 x2 x3 x4 t → V pr l e rmX11_drawn s m args below meth c E A 10 0 0 (MQ below (CQi E Post (fun u => wBig E a u) w0 s.heap.size) args s 0 0 A) (wBig E a t) 91 [(0, .ref (a 0 0)), (1, .int x1), (2, .int x2), (3, .int x3), (4, .int x4)] []) : ∀ (n : Nat) (x1 : Int32) (x2 : Int32) (x3 : Int32) (x4 : Int32) (x5 : Int32) (t : Nat → St), wLX11_drawn_61  Post KX n (x1, x2, x3, x4, x5, t) → V pr l e rmX11_drawn s m args below meth c E A 10 0 0 (MQ below (CQi E Post (fun u => wBig E a u) w0 s.heap.size) args s 0 0 A) (wBig E a t) 61 [(0, .ref (a 0 0)), (1, .int x1), (2, .int x2), (3, .int x3), (4, .int x4), (5, .int x5)] [] := by
  intro n
  induction n with
  | zero => intro x1 x2 x3 x4 x5 t hw; exact absurd hw id
  | succ n hself =>
    intro x1 x2 x3 x4 x5 t hw
    have hw : wlX11_drawn_61  Post KX (wLX11_drawn_61  Post KX n) x1 x2 x3 x4 x5 t := hw
    refine v_iload (pc := 61) C 5 rfl dX11_drawn_61 ?_
    refine v_bipush (pc := 63) C 12 kb_12 dX11_drawn_63 ?_
    refine v_icmp_ge (pc := 65) C 91 (by decide) dX11_drawn_65 (fun hc => ?_) (fun hc => ?_)
    · have hw := hw.1 hc
      refine v_sub (lv' := [(0, .ref (a 0 0)), (1, .int x1), (2, .int x2), (3, .int x3), (4, .int x4)]) [0, 1, 2, 3, 4] rfl ?_
      exact hX x1 x2 x3 x4 t hw
    · have hw := hw.2 hc
      refine v_aload_n (pc := 68) C 0 rfl rfl dX11_drawn_68 ?_
      refine v_get (pc := 69) C cfX11 rfl 0 8 rfl (by decide) wfX11_53 rfl dX11_drawn_69 ?_
      refine v_iload (pc := 72) C 5 rfl dX11_drawn_72 ?_
      refine v_aload_n (pc := 74) C 0 rfl rfl dX11_drawn_74 ?_
      refine v_get (pc := 75) C cfX11 rfl 0 1 rfl (by decide) wfX11_19 rfl dX11_drawn_75 ?_
      refine v_iload_n (pc := 78) C 3 rfl rfl dX11_drawn_78 ?_
      refine v_iload (pc := 79) C 5 rfl dX11_drawn_79 ?_
      refine v_goBi (pc := 81) C (bs := (bsBig E a t)) (cs := [bPad E (a 2) (t 2)]) (cs' := (fun (_ : Unit) => [bPad E (a 2) (t 2)])) (bs' := (fun (_ : Unit) => (bsBig E a t))) (w' := (fun (_ : Unit) => (wBig E a t))) [2] (wBig_fl E a t) rfl (fun _ => rfl) (fun _ => rfl) (fun _ => (wBig_fl _ _ _).symm) (v_runVB (pc := 81) C [.int x3, .int x5] [.int x5, .ref (a 0 1)] (fun sz => ctX4_dentOf l E (a 2) x3 x5 (t 2) hw sz) [2] (wBig_fl E a t) rfl rfl mfX4_dentOf mvX4_dentOf wmX11_170 rfl ⟨Nat.le_of_ble_eq_true rfl, Nat.le_of_ble_eq_true rfl⟩ ⟨rfl, rfl⟩ 10 (ci := 4) (qc := (RX4, TX4, 12)) rfl rfl rfl rfl (Nat.le_of_ble_eq_true rfl) ⟨Nat.zero_le _, Nat.zero_le _⟩ dX11_drawn_81) (fun r6 _ hw => ?_)
      obtain ⟨hg, hw⟩ := hw
      obtain ⟨t7, es⟩ : ∃ y : Nat → St, y = upS t 0 ((t 0).sA 8 (upd ((t 0).A 8) x5.toNatClampNeg r6)) := ⟨_, rfl⟩
      have hw := hw t7 es
      refine v_iast (pc := 84) C 1 (w' := (wBig E a t7)) rfl rfl (by subst es; rfl) hg dX11_drawn_84 ?_
      obtain ⟨x5_8, ex⟩ : ∃ y : Int32, y = x5 + 1 := ⟨_, rfl⟩
      have hw := hw x5_8 ex
      refine v_iinc (pc := 85) C 5 rfl (by rw [ex, ki_1]) [(5, .int x5_8), (0, .ref (a 0 0)), (1, .int x1), (2, .int x2), (3, .int x3), (4, .int x4)] rfl (by decide) dX11_drawn_85 ?_
      refine v_goto (pc := 88) C 61 (by decide) dX11_drawn_88 ?_
      refine v_sub (lv' := [(0, .ref (a 0 0)), (1, .int x1), (2, .int x2), (3, .int x3), (4, .int x4), (5, .int x5_8)]) [1, 2, 3, 4, 5, 0] rfl ?_
      exact hself x1 x2 x3 x4 x5_8 t7 hw
set_option maxHeartbeats 4000000 in
set_option maxRecDepth 100000 in
theorem vlX11_drawn_98 (C : VC pr s m args meth c E A cX11_drawn 10 (some .int) RX11) (hA : va_A w0 s.heap.size = A) (a : Nat → Nat → Nat)  {Post : Int32 → (Nat → St) → Prop} {KX : (Nat → St) → Prop} (hX : ∀ (t : Nat → St), KX t → V pr l e rmX11_drawn s m args below meth c E A 10 0 0 (MQ below (CQi E Post (fun u => wBig E a u) w0 s.heap.size) args s 0 0 A) (wBig E a t) 198 [(0, .ref (a 0 0))] []) : ∀ (n : Nat) (x2 : Int32) (x3 : Int32) (x4 : Int32) (x5 : Int64) (x7 : Int32) (t : Nat → St), wLX11_drawn_98  Post KX n (x2, x3, x4, x5, x7, t) → V pr l e rmX11_drawn s m args below meth c E A 10 0 0 (MQ below (CQi E Post (fun u => wBig E a u) w0 s.heap.size) args s 0 0 A) (wBig E a t) 98 [(0, .ref (a 0 0)), (2, .int x2), (3, .int x3), (4, .int x4), (5, .long x5), (7, .int x7)] [] := by
  intro n
  induction n with
  | zero => intro x2 x3 x4 x5 x7 t hw; exact absurd hw id
  | succ n hself =>
    intro x2 x3 x4 x5 x7 t hw
    have hw : wlX11_drawn_98  Post KX (wLX11_drawn_98  Post KX n) x2 x3 x4 x5 x7 t := hw
    refine v_iload (pc := 98) C 5 rfl dX11_drawn_98 ?_
    refine v_iload_n (pc := 100) C 1 rfl rfl dX11_drawn_100 ?_
    refine v_icmp_gt (pc := 101) C 198 (by decide) dX11_drawn_101 (fun hc => ?_) (fun hc => ?_)
    · have hw := hw.1 hc
      refine v_sub (lv' := [(0, .ref (a 0 0))]) [0] rfl ?_
      exact hX t hw
    · have hw := hw.2 hc
      refine v_lload (pc := 104) C 4 rfl dX11_drawn_104 ?_
      refine v_goBl (pc := 106) C (bs := (bsBig E a t)) (cs := []) (cs' := (fun (_ : Unit) => [])) (bs' := (fun (_ : Unit) => (bsBig E a t))) (w' := (fun (_ : Unit) => (wBig E a t))) [] (wBig_fl E a t) rfl (fun _ => rfl) (fun _ => rfl) (fun _ => (wBig_fl _ _ _).symm) (v_runSB (pc := 106) C [.long x5] [] (fun sz => ctX11_nextDraw l E x5 hw sz) [] (wBig_fl E a t) rfl rfl mfX11_nextDraw msX11_nextDraw wmX11_252 rfl ⟨Nat.le_of_ble_eq_true rfl, Nat.le_of_ble_eq_true rfl⟩ ⟨rfl, rfl⟩ rfl (Nat.le_of_ble_eq_true rfl) ⟨Nat.zero_le _, Nat.zero_le _⟩ dX11_drawn_106) (fun r15 _ hw => ?_)
      refine v_lstore (pc := 109) C [(5, .long r15), (0, .ref (a 0 0)), (2, .int x2), (3, .int x3), (4, .int x4), (7, .int x7)] rfl (by decide) dX11_drawn_109 ?_
      refine v_lload (pc := 111) C 0 rfl dX11_drawn_111 ?_
      refine v_bipush (pc := 113) C 6 kb_6 dX11_drawn_113 ?_
      refine v_goBi (pc := 115) C (bs := (bsBig E a t)) (cs := []) (cs' := (fun (_ : Unit) => [])) (bs' := (fun (_ : Unit) => (bsBig E a t))) (w' := (fun (_ : Unit) => (wBig E a t))) [] (wBig_fl E a t) rfl (fun _ => rfl) (fun _ => rfl) (fun _ => (wBig_fl _ _ _).symm) (v_runSB (pc := 115) C [.long r15, .int 6] [] (fun sz => ctX11_drawOf l E r15 6 hw sz) [] (wBig_fl E a t) rfl rfl mfX11_drawOf msX11_drawOf wmX11_256 rfl ⟨Nat.le_of_ble_eq_true rfl, Nat.le_of_ble_eq_true rfl⟩ ⟨rfl, rfl⟩ rfl (Nat.le_of_ble_eq_true rfl) ⟨Nat.zero_le _, Nat.zero_le _⟩ dX11_drawn_115) (fun r16 _ hw => ?_)
      refine v_istore (pc := 118) C [(8, .int r16), (5, .long r15), (0, .ref (a 0 0)), (2, .int x2), (3, .int x3), (4, .int x4), (7, .int x7)] rfl (by decide) dX11_drawn_118 ?_
      refine v_lload (pc := 120) C 1 rfl dX11_drawn_120 ?_
      refine v_goBl (pc := 122) C (bs := (bsBig E a t)) (cs := []) (cs' := (fun (_ : Unit) => [])) (bs' := (fun (_ : Unit) => (bsBig E a t))) (w' := (fun (_ : Unit) => (wBig E a t))) [] (wBig_fl E a t) rfl (fun _ => rfl) (fun _ => rfl) (fun _ => (wBig_fl _ _ _).symm) (v_runSB (pc := 122) C [.long r15] [] (fun sz => ctX11_nextDraw l E r15 hw sz) [] (wBig_fl E a t) rfl rfl mfX11_nextDraw msX11_nextDraw wmX11_252 rfl ⟨Nat.le_of_ble_eq_true rfl, Nat.le_of_ble_eq_true rfl⟩ ⟨rfl, rfl⟩ rfl (Nat.le_of_ble_eq_true rfl) ⟨Nat.zero_le _, Nat.zero_le _⟩ dX11_drawn_122) (fun r17 _ hw => ?_)
      refine v_lstore (pc := 125) C [(5, .long r17), (8, .int r16), (0, .ref (a 0 0)), (2, .int x2), (3, .int x3), (4, .int x4), (7, .int x7)] rfl (by decide) dX11_drawn_125 ?_
      refine v_iconst (pc := 127) C 1 ki_1 dX11_drawn_127 ?_
      refine v_lload (pc := 128) C 0 rfl dX11_drawn_128 ?_
      refine v_bipush (pc := 130) C 9 kb_9 dX11_drawn_130 ?_
      refine v_goBi (pc := 132) C (bs := (bsBig E a t)) (cs := []) (cs' := (fun (_ : Unit) => [])) (bs' := (fun (_ : Unit) => (bsBig E a t))) (w' := (fun (_ : Unit) => (wBig E a t))) [] (wBig_fl E a t) rfl (fun _ => rfl) (fun _ => rfl) (fun _ => (wBig_fl _ _ _).symm) (v_runSB (pc := 132) C [.long r17, .int 9] [.int 1] (fun sz => ctX11_drawOf l E r17 9 hw sz) [] (wBig_fl E a t) rfl rfl mfX11_drawOf msX11_drawOf wmX11_256 rfl ⟨Nat.le_of_ble_eq_true rfl, Nat.le_of_ble_eq_true rfl⟩ ⟨rfl, rfl⟩ rfl (Nat.le_of_ble_eq_true rfl) ⟨Nat.zero_le _, Nat.zero_le _⟩ dX11_drawn_132) (fun r18 _ hw => ?_)
      refine v_iadd (pc := 135) C dX11_drawn_135 ?_
      refine v_topi (fun x9_19 ex => ?_)
      have hw := hw x9_19 ex
      refine v_istore (pc := 136) C [(9, .int x9_19), (5, .long r17), (8, .int r16), (0, .ref (a 0 0)), (2, .int x2), (3, .int x3), (4, .int x4), (7, .int x7)] rfl (by decide) dX11_drawn_136 ?_
      refine v_lload (pc := 138) C 1 rfl dX11_drawn_138 ?_
      refine v_goBl (pc := 140) C (bs := (bsBig E a t)) (cs := []) (cs' := (fun (_ : Unit) => [])) (bs' := (fun (_ : Unit) => (bsBig E a t))) (w' := (fun (_ : Unit) => (wBig E a t))) [] (wBig_fl E a t) rfl (fun _ => rfl) (fun _ => rfl) (fun _ => (wBig_fl _ _ _).symm) (v_runSB (pc := 140) C [.long r17] [] (fun sz => ctX11_nextDraw l E r17 hw sz) [] (wBig_fl E a t) rfl rfl mfX11_nextDraw msX11_nextDraw wmX11_252 rfl ⟨Nat.le_of_ble_eq_true rfl, Nat.le_of_ble_eq_true rfl⟩ ⟨rfl, rfl⟩ rfl (Nat.le_of_ble_eq_true rfl) ⟨Nat.zero_le _, Nat.zero_le _⟩ dX11_drawn_140) (fun r20 _ hw => ?_)
      refine v_lstore (pc := 143) C [(5, .long r20), (9, .int x9_19), (8, .int r16), (0, .ref (a 0 0)), (2, .int x2), (3, .int x3), (4, .int x4), (7, .int x7)] rfl (by decide) dX11_drawn_143 ?_
      refine v_aload_n (pc := 145) C 3 rfl rfl dX11_drawn_145 ?_
      refine v_get (pc := 146) C cfX11 rfl 0 8 rfl (by decide) wfX11_53 rfl dX11_drawn_146 ?_
      refine v_iconst (pc := 149) C 0 ki_0 dX11_drawn_149 ?_
      refine v_lload (pc := 150) C 0 rfl dX11_drawn_150 ?_
      refine v_sipush (pc := 152) C 4096 ks_4096 dX11_drawn_152 ?_
      refine v_goBi (pc := 155) C (bs := (bsBig E a t)) (cs := []) (cs' := (fun (_ : Unit) => [])) (bs' := (fun (_ : Unit) => (bsBig E a t))) (w' := (fun (_ : Unit) => (wBig E a t))) [] (wBig_fl E a t) rfl (fun _ => rfl) (fun _ => rfl) (fun _ => (wBig_fl _ _ _).symm) (v_runSB (pc := 155) C [.long r20, .int 4096] [.int 0, .ref (a 0 1)] (fun sz => ctX11_drawOf l E r20 4096 hw sz) [] (wBig_fl E a t) rfl rfl mfX11_drawOf msX11_drawOf wmX11_256 rfl ⟨Nat.le_of_ble_eq_true rfl, Nat.le_of_ble_eq_true rfl⟩ ⟨rfl, rfl⟩ rfl (Nat.le_of_ble_eq_true rfl) ⟨Nat.zero_le _, Nat.zero_le _⟩ dX11_drawn_155) (fun r21 _ hw => ?_)
      refine v_aload_n (pc := 158) C 3 rfl rfl dX11_drawn_158 ?_
      refine v_get (pc := 159) C cfX11 rfl 0 0 rfl (by decide) wfX11_12 rfl dX11_drawn_159 ?_
      refine v_iload (pc := 162) C 2 rfl dX11_drawn_162 ?_
      refine v_iload (pc := 164) C 1 rfl dX11_drawn_164 ?_
      refine v_iload_n (pc := 166) C 5 rfl rfl dX11_drawn_166 ?_
      refine v_iload (pc := 167) C 6 rfl dX11_drawn_167 ?_
      refine v_isub (pc := 169) C dX11_drawn_169 ?_
      refine v_goBi (pc := 170) C (bs := (bsBig E a t)) (cs := [bBox E (a 1)]) (cs' := (fun (_ : Unit) => [bBox E (a 1)])) (bs' := (fun (_ : Unit) => (bsBig E a t))) (w' := (fun (_ : Unit) => (wBig E a t))) [1] (wBig_fl E a t) rfl (fun _ => rfl) (fun _ => rfl) (fun _ => (wBig_fl _ _ _).symm) (v_runVB (pc := 170) C [.int r16, .int x9_19, .int (x3 - x4)] [.int r21, .int 0, .ref (a 0 1)] (fun sz => ctX5_forceOf l E (a 1) r16 x9_19 (x3 - x4) hw sz) [1] (wBig_fl E a t) rfl rfl mfX5_forceOf mvX5_forceOf wmX11_198 rfl ⟨Nat.le_of_ble_eq_true rfl, Nat.le_of_ble_eq_true rfl⟩ ⟨rfl, rfl⟩ 2 (ci := 5) (qc := (RX5, TX5, 1)) rfl rfl rfl rfl (Nat.le_of_ble_eq_true rfl) ⟨Nat.zero_le _, Nat.zero_le _⟩ dX11_drawn_170) (fun r22 _ hw => ?_)
      refine v_gov (pc := 173) C (wc := (fl [bArr E (fun _ => (a 0 1)) 12 ((t 0).A 8)])) (wc' := (fun (u : (Nat → Int32)) => (fl [bArr E (fun _ => (a 0 1)) 12 u]))) (w' := (fun (u : (Nat → Int32)) => (wBig E a (upS t 0 ((t 0).sA 8 u))))) [1] rfl (fun _ => rfl) (fun _ => rfl) (v_runS (pc := 173) C [.ref (a 0 1), .int 0, .int r21, .int r22] [] (fun sz => ctX11_dentInto l E (fun _ => (a 0 1)) 0 r21 r22 ((t 0).A 8) 12 hw sz) [1] rfl rfl mfX11_dentInto msX11_dentInto wmX11_260 rfl ⟨Nat.le_of_ble_eq_true rfl, Nat.le_of_ble_eq_true rfl⟩ ⟨rfl, rfl⟩ rfl (Nat.le_of_ble_eq_true rfl) ⟨Nat.zero_le _, Nat.zero_le _⟩ dX11_drawn_173) (fun p23 hw => ?_)
      obtain ⟨t24, et⟩ : ∃ y : Nat → St, y = upS t 0 ((t 0).sA 8 p23) := ⟨_, rfl⟩
      have hw := hw t24 et
      refine v_w (w' := wBig E a t24) (by subst et; rfl) ?_
      refine v_iload (pc := 176) C 7 rfl dX11_drawn_176 ?_
      refine v_iconst (pc := 178) C 3 ki_3 dX11_drawn_178 ?_
      refine v_irem (pc := 179) C (by decide) dX11_drawn_179 ?_
      refine v_if_ne (pc := 180) C 192 (by decide) dX11_drawn_180 (fun hc => ?_) (fun hc => ?_)
      · have hw := hw.1 hc
        obtain ⟨x7_25, ex⟩ : ∃ y : Int32, y = x7 + 1 := ⟨_, rfl⟩
        have hw := hw x7_25 ex
        refine v_iinc (pc := 192) C 7 rfl (by rw [ex, ki_1]) [(7, .int x7_25), (5, .long r20), (9, .int x9_19), (8, .int r16), (0, .ref (a 0 0)), (2, .int x2), (3, .int x3), (4, .int x4)] rfl (by decide) dX11_drawn_192 ?_
        refine v_goto (pc := 195) C 98 (by decide) dX11_drawn_195 ?_
        refine v_sub (lv' := [(0, .ref (a 0 0)), (2, .int x2), (3, .int x3), (4, .int x4), (5, .long r20), (7, .int x7_25)]) [4, 5, 6, 7, 1, 0] rfl ?_
        exact hself x2 x3 x4 r20 x7_25 t24 hw
      · have hw := hw.2 hc
        refine v_iload (pc := 183) C 6 rfl dX11_drawn_183 ?_
        refine v_iload_n (pc := 185) C 5 rfl rfl dX11_drawn_185 ?_
        refine v_icmp_ge (pc := 186) C 192 (by decide) dX11_drawn_186 (fun hc => ?_) (fun hc => ?_)
        · have hw := hw.1 hc
          obtain ⟨x7_26, ex⟩ : ∃ y : Int32, y = x7 + 1 := ⟨_, rfl⟩
          have hw := hw x7_26 ex
          refine v_iinc (pc := 192) C 7 rfl (by rw [ex, ki_1]) [(7, .int x7_26), (5, .long r20), (9, .int x9_19), (8, .int r16), (0, .ref (a 0 0)), (2, .int x2), (3, .int x3), (4, .int x4)] rfl (by decide) dX11_drawn_192 ?_
          refine v_goto (pc := 195) C 98 (by decide) dX11_drawn_195 ?_
          refine v_sub (lv' := [(0, .ref (a 0 0)), (2, .int x2), (3, .int x3), (4, .int x4), (5, .long r20), (7, .int x7_26)]) [4, 5, 6, 7, 1, 0] rfl ?_
          exact hself x2 x3 x4 r20 x7_26 t24 hw
        · have hw := hw.2 hc
          obtain ⟨x4_27, ex⟩ : ∃ y : Int32, y = x4 + 1 := ⟨_, rfl⟩
          have hw := hw x4_27 ex
          refine v_iinc (pc := 189) C 6 rfl (by rw [ex, ki_1]) [(4, .int x4_27), (5, .long r20), (9, .int x9_19), (8, .int r16), (0, .ref (a 0 0)), (2, .int x2), (3, .int x3), (7, .int x7)] rfl (by decide) dX11_drawn_189 ?_
          obtain ⟨x7_28, ex⟩ : ∃ y : Int32, y = x7 + 1 := ⟨_, rfl⟩
          have hw := hw x7_28 ex
          refine v_iinc (pc := 192) C 7 rfl (by rw [ex, ki_1]) [(7, .int x7_28), (4, .int x4_27), (5, .long r20), (9, .int x9_19), (8, .int r16), (0, .ref (a 0 0)), (2, .int x2), (3, .int x3)] rfl (by decide) dX11_drawn_192 ?_
          refine v_goto (pc := 195) C 98 (by decide) dX11_drawn_195 ?_
          refine v_sub (lv' := [(0, .ref (a 0 0)), (2, .int x2), (3, .int x3), (4, .int x4_27), (5, .long r20), (7, .int x7_28)]) [5, 6, 7, 1, 2, 0] rfl ?_
          exact hself x2 x3 x4_27 r20 x7_28 t24 hw
set_option maxHeartbeats 4000000 in
set_option maxRecDepth 100000 in
theorem ctX11_drawn (l : Launch) (E : VE) (a : Nat → Nat → Nat) (x1 : Int32) (x2 : Int32) (t : Nat → St)  {Post : Int32 → (Nat → St) → Prop} (hw : wpX11_drawn x1 x2 t Post) (sz : Nat) : Met l yX11_drawn (mW yX11_drawn cX11_drawn 10 (some .int)) rmX11_drawn (CPre E [.ref (a 0 0), .int x1, .int x2] sz (wBig E a t)) (CQi E Post (fun u => wBig E a u) (wBig E a t) sz) 0 0 (va_A (wBig E a t) sz) := by
  refine v_met (by decide) (Nat.le_of_ble_eq_true rfl) ?_
  intro pr e s m below meth c A hsz hA C
  subst hsz
  refine v_iload_n (pc := 0) C 1 rfl rfl dX11_drawn_0 ?_
  refine v_if_lt (pc := 1) C 20 (by decide) dX11_drawn_1 (fun hc => ?_) (fun hc => ?_)
  · have hw := hw.1 hc
    refine v_sub (lv' := [(0, .ref (a 0 0))]) [0] rfl ?_
    exact vjX11_drawn_20 C hA a  t hw
  · have hw := hw.2 hc
    refine v_iload_n (pc := 4) C 1 rfl rfl dX11_drawn_4 ?_
    refine v_ldc (pc := 5) C 999999 wkX11_251 dX11_drawn_5 ?_
    refine v_icmp_gt (pc := 7) C 20 (by decide) dX11_drawn_7 (fun hc => ?_) (fun hc => ?_)
    · have hw := hw.1 hc
      refine v_sub (lv' := [(0, .ref (a 0 0))]) [0] rfl ?_
      exact vjX11_drawn_20 C hA a  t hw
    · have hw := hw.2 hc
      refine v_iload_n (pc := 10) C 2 rfl rfl dX11_drawn_10 ?_
      refine v_if_lt (pc := 11) C 20 (by decide) dX11_drawn_11 (fun hc => ?_) (fun hc => ?_)
      · have hw := hw.1 hc
        refine v_sub (lv' := [(0, .ref (a 0 0))]) [0] rfl ?_
        exact vjX11_drawn_20 C hA a  t hw
      · have hw := hw.2 hc
        refine v_iload_n (pc := 14) C 2 rfl rfl dX11_drawn_14 ?_
        refine v_bipush (pc := 15) C 20 kb_20 dX11_drawn_15 ?_
        refine v_icmp_le (pc := 17) C 27 (by decide) dX11_drawn_17 (fun hc => ?_) (fun hc => ?_)
        · have hw := hw.1 hc
          refine v_aload_n (pc := 27) C 0 rfl rfl dX11_drawn_27 ?_
          refine v_get (pc := 28) C cfX11 rfl 0 1 rfl (by decide) wfX11_19 rfl dX11_drawn_28 ?_
          refine v_goBi (pc := 31) C (bs := (bsBig E a t)) (cs := [bPad E (a 2) (t 2)]) (cs' := (fun (_ : Unit) => [bPad E (a 2) (t 2)])) (bs' := (fun (_ : Unit) => (bsBig E a t))) (w' := (fun (_ : Unit) => (wBig E a t))) [2] (wBig_fl E a t) rfl (fun _ => rfl) (fun _ => rfl) (fun _ => (wBig_fl _ _ _).symm) (v_runVB (pc := 31) C [] [] (fun sz => ctX4_isUsedUp l E (a 2) (t 2) hw sz) [2] (wBig_fl E a t) rfl rfl mfX4_isUsedUp mvX4_isUsedUp wmX11_102 rfl ⟨Nat.le_of_ble_eq_true rfl, Nat.le_of_ble_eq_true rfl⟩ ⟨rfl, rfl⟩ 10 (ci := 4) (qc := (RX4, TX4, 12)) rfl rfl rfl rfl (Nat.le_of_ble_eq_true rfl) ⟨Nat.zero_le _, Nat.zero_le _⟩ dX11_drawn_31) (fun r3 _ hw => ?_)
          refine v_if_eq (pc := 34) C 39 (by decide) dX11_drawn_34 (fun hc => ?_) (fun hc => ?_)
          · have hw := hw.1 hc
            refine v_aload_n (pc := 39) C 0 rfl rfl dX11_drawn_39 ?_
            refine v_get (pc := 40) C cfX11 rfl 0 1 rfl (by decide) wfX11_19 rfl dX11_drawn_40 ?_
            refine v_getN (pc := 43) C cfX4 rfl 10 3 rfl (by decide) wfX11_81 rfl dX11_drawn_43 ?_
            refine v_iconst (pc := 46) C 1 ki_1 dX11_drawn_46 ?_
            refine v_isub (pc := 47) C dX11_drawn_47 ?_
            refine v_topi (fun x3_4 ex => ?_)
            have hw := hw x3_4 ex
            refine v_istore_n (pc := 48) C [(3, .int x3_4), (0, .ref (a 0 0)), (1, .int x1), (2, .int x2)] rfl rfl (by decide) dX11_drawn_48 ?_
            refine v_aload_n (pc := 49) C 1 rfl rfl dX11_drawn_49 ?_
            refine v_get (pc := 50) C cfX11 rfl 0 1 rfl (by decide) wfX11_19 rfl dX11_drawn_50 ?_
            refine v_goBi (pc := 53) C (bs := (bsBig E a t)) (cs := [bPad E (a 2) (t 2)]) (cs' := (fun (_ : Unit) => [bPad E (a 2) (t 2)])) (bs' := (fun (_ : Unit) => (bsBig E a t))) (w' := (fun (_ : Unit) => (wBig E a t))) [2] (wBig_fl E a t) rfl (fun _ => rfl) (fun _ => rfl) (fun _ => (wBig_fl _ _ _).symm) (v_runVB (pc := 53) C [] [] (fun sz => ctX4_top l E (a 2) (t 2) hw sz) [2] (wBig_fl E a t) rfl rfl mfX4_top mvX4_top wmX11_164 rfl ⟨Nat.le_of_ble_eq_true rfl, Nat.le_of_ble_eq_true rfl⟩ ⟨rfl, rfl⟩ 10 (ci := 4) (qc := (RX4, TX4, 12)) rfl rfl rfl rfl (Nat.le_of_ble_eq_true rfl) ⟨Nat.zero_le _, Nat.zero_le _⟩ dX11_drawn_53) (fun r5 _ hw => ?_)
            refine v_istore (pc := 56) C [(4, .int r5), (3, .int x3_4), (0, .ref (a 0 0)), (1, .int x1), (2, .int x2)] rfl (by decide) dX11_drawn_56 ?_
            refine v_iconst (pc := 58) C 0 ki_0 dX11_drawn_58 ?_
            refine v_istore (pc := 59) C [(5, .int 0), (4, .int r5), (3, .int x3_4), (0, .ref (a 0 0)), (1, .int x1), (2, .int x2)] rfl (by decide) dX11_drawn_59 ?_
            obtain ⟨n, hw⟩ := hw
            refine v_sub (lv' := [(0, .ref (a 0 0)), (1, .int x1), (2, .int x2), (3, .int x3_4), (4, .int r5), (5, .int 0)]) [3, 4, 5, 2, 1, 0] rfl ?_
            refine vlX11_drawn_61 C hA a  (fun y9 y10 y11 y12 t13 hw => ?_) n x1 x2 x3_4 r5 0 t hw
            refine v_iload_n (pc := 91) C 1 rfl rfl dX11_drawn_91 ?_
            refine v_i2l (pc := 92) C dX11_drawn_92 ?_
            refine v_topl (fun x5_14 ex => ?_)
            have hw := hw x5_14 ex
            refine v_lstore (pc := 93) C [(5, .long x5_14), (0, .ref (a 0 0)), (1, .int y9), (2, .int y10), (3, .int y11), (4, .int y12)] rfl (by decide) dX11_drawn_93 ?_
            refine v_iconst (pc := 95) C 1 ki_1 dX11_drawn_95 ?_
            refine v_istore (pc := 96) C [(7, .int 1), (5, .long x5_14), (0, .ref (a 0 0)), (1, .int y9), (2, .int y10), (3, .int y11), (4, .int y12)] rfl (by decide) dX11_drawn_96 ?_
            obtain ⟨n, hw⟩ := hw
            refine v_sub (lv' := [(0, .ref (a 0 0)), (2, .int y10), (3, .int y11), (4, .int y12), (5, .long x5_14), (7, .int 1)]) [2, 4, 5, 6, 1, 0] rfl ?_
            refine vlX11_drawn_98 C hA a  (fun t29 hw => ?_) n y10 y11 y12 x5_14 1 t13 hw
            refine v_aload_n (pc := 198) C 0 rfl rfl dX11_drawn_198 ?_
            refine v_goAi (pc := 199) C (wc' := (fun (_ : Unit) => (wBig E a t29))) (fun _ => rfl) (v_runVA (pc := 199) C [] [] (fun sz => ctX11_sumOfLast l E a t29 hw sz) mfX11_sumOfLast mvX11_sumOfLast wmX11_264 rfl ⟨Nat.le_of_ble_eq_true rfl, Nat.le_of_ble_eq_true rfl⟩ ⟨rfl, rfl⟩ 0 (ci := 11) (qc := (RX11, TX11, 15)) rfl rfl rfl rfl (Nat.le_of_ble_eq_true rfl) ⟨Nat.zero_le _, Nat.zero_le _⟩ dX11_drawn_199) (fun r30 _ hw => ?_)
            exact v_ireti (pc := 202) C t29 hA rfl hw dX11_drawn_202
          · have hw := hw.2 hc
            refine v_iconst (pc := 37) C (-1) ki_m1 dX11_drawn_37 ?_
            exact v_ireti (pc := 38) C t hA rfl hw dX11_drawn_38
        · have hw := hw.2 hc
          refine v_sub (lv' := [(0, .ref (a 0 0))]) [0] rfl ?_
          exact vjX11_drawn_20 C hA a  t hw
set_option maxHeartbeats 4000000 in
set_option maxRecDepth 100000 in
theorem vjX11_part_9 (C : VC pr s m args meth c E A cX11_part 2 (some .long) RX11) (hA : va_A w0 s.heap.size = A) (a : Nat → Nat → Nat)  {Post : Int64 → (Nat → St) → Prop} (t : Nat → St) (hw : wjX11_part_9  Post t) : V pr l e rmX11_part s m args below meth c E A 2 0 0 (MQ below (CQl E Post (fun u => wBig E a u) w0 s.heap.size) args s 0 0 A) (wBig E a t) 9 [(0, .ref (a 0 0))] [] := by
  refine v_aload_n (pc := 9) C 0 rfl rfl dX11_part_9 ?_
  refine v_bipush (pc := 10) C (-2) kb_m2 dX11_part_10 ?_
  refine v_goAi (pc := 12) C (wc' := (fun (u : (Nat → St)) => (wBig E a u))) (fun _ => rfl) (v_runVA (pc := 12) C [.int (-2)] [] (fun sz => ctX11_bad l E a (-2) t hw sz) mfX11_bad mvX11_bad wmX11_77 rfl ⟨Nat.le_of_ble_eq_true rfl, Nat.le_of_ble_eq_true rfl⟩ ⟨rfl, rfl⟩ 0 (ci := 11) (qc := (RX11, TX11, 15)) rfl rfl rfl rfl (Nat.le_of_ble_eq_true rfl) ⟨Nat.zero_le _, Nat.zero_le _⟩ dX11_part_12) (fun r1 t2 hw => ?_)
  refine v_i2l (pc := 15) C dX11_part_15 ?_
  exact v_lret (pc := 16) C t2 hA rfl hw dX11_part_16
set_option maxHeartbeats 4000000 in
set_option maxRecDepth 100000 in
theorem ctX11_part (l : Launch) (E : VE) (a : Nat → Nat → Nat) (x1 : Int32) (t : Nat → St)  {Post : Int64 → (Nat → St) → Prop} (hw : wpX11_part x1 t Post) (sz : Nat) : Met l yX11_part (mW yX11_part cX11_part 2 (some .long)) rmX11_part (CPre E [.ref (a 0 0), .int x1] sz (wBig E a t)) (CQl E Post (fun u => wBig E a u) (wBig E a t) sz) 0 0 (va_A (wBig E a t) sz) := by
  refine v_met (by decide) (Nat.le_of_ble_eq_true rfl) ?_
  intro pr e s m below meth c A hsz hA C
  subst hsz
  refine v_iload_n (pc := 0) C 1 rfl rfl dX11_part_0 ?_
  refine v_if_lt (pc := 1) C 9 (by decide) dX11_part_1 (fun hc => ?_) (fun hc => ?_)
  · have hw := hw.1 hc
    refine v_sub (lv' := [(0, .ref (a 0 0))]) [0] rfl ?_
    exact vjX11_part_9 C hA a  t hw
  · have hw := hw.2 hc
    refine v_iload_n (pc := 4) C 1 rfl rfl dX11_part_4 ?_
    refine v_iconst (pc := 5) C 1 ki_1 dX11_part_5 ?_
    refine v_icmp_le (pc := 6) C 17 (by decide) dX11_part_6 (fun hc => ?_) (fun hc => ?_)
    · have hw := hw.1 hc
      refine v_iload_n (pc := 17) C 1 rfl rfl dX11_part_17 ?_
      refine v_if_ne (pc := 18) C 28 (by decide) dX11_part_18 (fun hc => ?_) (fun hc => ?_)
      · have hw := hw.1 hc
        refine v_aload_n (pc := 28) C 0 rfl rfl dX11_part_28 ?_
        refine v_get (pc := 29) C cfX11 rfl 0 11 rfl (by decide) wfX11_65 rfl dX11_part_29 ?_
        exact v_lret (pc := 32) C t hA rfl hw dX11_part_32
      · have hw := hw.2 hc
        refine v_aload_n (pc := 21) C 0 rfl rfl dX11_part_21 ?_
        refine v_get (pc := 22) C cfX11 rfl 0 10 rfl (by decide) wfX11_61 rfl dX11_part_22 ?_
        refine v_goto (pc := 25) C 32 (by decide) dX11_part_25 ?_
        exact v_lret (pc := 32) C t hA rfl hw dX11_part_32
    · have hw := hw.2 hc
      refine v_sub (lv' := [(0, .ref (a 0 0))]) [0] rfl ?_
      exact vjX11_part_9 C hA a  t hw
set_option maxHeartbeats 4000000 in
set_option maxRecDepth 100000 in
theorem vjX11_image_9 (C : VC pr s m args meth c E A cX11_image 2 (some .int) RX11) (hA : va_A w0 s.heap.size = A) (a : Nat → Nat → Nat)  {Post : Int32 → (Nat → St) → Prop} (t : Nat → St) (hw : wjX11_image_9  Post t) : V pr l e rmX11_image s m args below meth c E A 2 0 0 (MQ below (CQi E Post (fun u => wBig E a u) w0 s.heap.size) args s 0 0 A) (wBig E a t) 9 [(0, .ref (a 0 0))] [] := by
  refine v_aload_n (pc := 9) C 0 rfl rfl dX11_image_9 ?_
  refine v_bipush (pc := 10) C (-2) kb_m2 dX11_image_10 ?_
  refine v_goAi (pc := 12) C (wc' := (fun (u : (Nat → St)) => (wBig E a u))) (fun _ => rfl) (v_runVA (pc := 12) C [.int (-2)] [] (fun sz => ctX11_bad l E a (-2) t hw sz) mfX11_bad mvX11_bad wmX11_77 rfl ⟨Nat.le_of_ble_eq_true rfl, Nat.le_of_ble_eq_true rfl⟩ ⟨rfl, rfl⟩ 0 (ci := 11) (qc := (RX11, TX11, 15)) rfl rfl rfl rfl (Nat.le_of_ble_eq_true rfl) ⟨Nat.zero_le _, Nat.zero_le _⟩ dX11_image_12) (fun r1 t2 hw => ?_)
  exact v_ireti (pc := 15) C t2 hA rfl hw dX11_image_15
set_option maxHeartbeats 4000000 in
set_option maxRecDepth 100000 in
theorem ctX11_image (l : Launch) (E : VE) (a : Nat → Nat → Nat) (x1 : Int32) (t : Nat → St)  {Post : Int32 → (Nat → St) → Prop} (hw : wpX11_image x1 t Post) (sz : Nat) : Met l yX11_image (mW yX11_image cX11_image 2 (some .int)) rmX11_image (CPre E [.ref (a 0 0), .int x1] sz (wBig E a t)) (CQi E Post (fun u => wBig E a u) (wBig E a t) sz) 0 0 (va_A (wBig E a t) sz) := by
  refine v_met (by decide) (Nat.le_of_ble_eq_true rfl) ?_
  intro pr e s m below meth c A hsz hA C
  subst hsz
  refine v_iload_n (pc := 0) C 1 rfl rfl dX11_image_0 ?_
  refine v_if_lt (pc := 1) C 9 (by decide) dX11_image_1 (fun hc => ?_) (fun hc => ?_)
  · have hw := hw.1 hc
    refine v_sub (lv' := [(0, .ref (a 0 0))]) [0] rfl ?_
    exact vjX11_image_9 C hA a  t hw
  · have hw := hw.2 hc
    refine v_iload_n (pc := 4) C 1 rfl rfl dX11_image_4 ?_
    refine v_iconst (pc := 5) C 2 ki_2 dX11_image_5 ?_
    refine v_icmp_lt (pc := 6) C 16 (by decide) dX11_image_6 (fun hc => ?_) (fun hc => ?_)
    · have hw := hw.1 hc
      refine v_aload_n (pc := 16) C 0 rfl rfl dX11_image_16 ?_
      refine v_iload_n (pc := 17) C 1 rfl rfl dX11_image_17 ?_
      refine v_imageOf (pc := 18) C a t x1 [] wmX11_267 (by decide) (by decide) (Nat.le_of_ble_eq_true rfl) ⟨Nat.zero_le _, Nat.zero_le _⟩ dX11_image_18 (fun hc => ?_) (fun hc => ?_)
      · have hw := hw.1 hc
        refine v_aload_n (pc := 21) C 0 rfl rfl dX11_image_21 ?_
        refine v_get (pc := 22) C cfX11 rfl 0 1 rfl (by decide) wfX11_19 rfl dX11_image_22 ?_
        refine v_goBv (pc := 25) C (bs := (bsBig E a t)) (cs := [bPad E (a 4) (t 4), bPad E (a 2) (t 2)]) (cs' := (fun (u : St) => [bPad E (a 4) u, bPad E (a 2) (t 2)])) (bs' := (fun (u : St) => (bsBig E a (upS t 4 u)))) (w' := (fun (u : St) => (wBig E a (upS t 4 u)))) [4, 2] (wBig_fl E a t) rfl (fun _ => rfl) (fun _ => rfl) (fun _ => (wBig_fl _ _ _).symm) (v_runVB (pc := 25) C [.ref (a 2 0)] [] (fun sz => ctX4_copyFrom l E (a 4) (a 2) (t 4) (t 2) hw sz) [4, 2] (wBig_fl E a t) rfl rfl mfX4_copyFrom mvX4_copyFrom wmX11_151 rfl ⟨Nat.le_of_ble_eq_true rfl, Nat.le_of_ble_eq_true rfl⟩ ⟨rfl, rfl⟩ 28 (ci := 4) (qc := (RX4, TX4, 12)) rfl rfl rfl rfl (Nat.le_of_ble_eq_true rfl) ⟨Nat.zero_le _, Nat.zero_le _⟩ dX11_image_25) (fun p3 hw => ?_)
        obtain ⟨t4, et⟩ : ∃ y : Nat → St, y = upS t 4 p3 := ⟨_, rfl⟩
        have hw := hw t4 et
        refine v_w (w' := wBig E a t4) (by subst et; rfl) ?_
        refine v_aload_n (pc := 28) C 0 rfl rfl dX11_image_28 ?_
        refine v_dup (pc := 29) C rfl dX11_image_29 ?_
        refine v_get (pc := 30) C cfX11 rfl 0 9 rfl (by decide) wfX11_57 rfl dX11_image_30 ?_
        refine v_iconst (pc := 33) C 1 ki_1 dX11_image_33 ?_
        refine v_iload_n (pc := 34) C 1 rfl rfl dX11_image_34 ?_
        refine v_ishl (pc := 35) C dX11_image_35 ?_
        refine v_ior (pc := 36) C dX11_image_36 ?_
        obtain ⟨t5, es⟩ : ∃ y : Nat → St, y = upS t4 0 ((t4 0).sI 9 (((t4 0).I 9) ||| ((1 : Int32) <<< (x1 &&& 31)))) := ⟨_, rfl⟩
        have hw := hw t5 es
        refine v_put (pc := 37) C cfX11 rfl 0 9 (ty := .int) (w' := (wBig E a t5)) rfl (by subst es; rfl) (by decide) wfX11_57 rfl rfl rfl rfl (Nat.le_of_ble_eq_true rfl) dX11_image_37 ?_
        refine v_iconst (pc := 40) C 1 ki_1 dX11_image_40 ?_
        exact v_ireti (pc := 41) C t5 hA rfl hw dX11_image_41
      · have hw := hw.2 hc
        refine v_aload_n (pc := 21) C 0 rfl rfl dX11_image_21 ?_
        refine v_get (pc := 22) C cfX11 rfl 0 1 rfl (by decide) wfX11_19 rfl dX11_image_22 ?_
        refine v_goBv (pc := 25) C (bs := (bsBig E a t)) (cs := [bPad E (a 5) (t 5), bPad E (a 2) (t 2)]) (cs' := (fun (u : St) => [bPad E (a 5) u, bPad E (a 2) (t 2)])) (bs' := (fun (u : St) => (bsBig E a (upS t 5 u)))) (w' := (fun (u : St) => (wBig E a (upS t 5 u)))) [5, 2] (wBig_fl E a t) rfl (fun _ => rfl) (fun _ => rfl) (fun _ => (wBig_fl _ _ _).symm) (v_runVB (pc := 25) C [.ref (a 2 0)] [] (fun sz => ctX4_copyFrom l E (a 5) (a 2) (t 5) (t 2) hw sz) [5, 2] (wBig_fl E a t) rfl rfl mfX4_copyFrom mvX4_copyFrom wmX11_151 rfl ⟨Nat.le_of_ble_eq_true rfl, Nat.le_of_ble_eq_true rfl⟩ ⟨rfl, rfl⟩ 37 (ci := 4) (qc := (RX4, TX4, 12)) rfl rfl rfl rfl (Nat.le_of_ble_eq_true rfl) ⟨Nat.zero_le _, Nat.zero_le _⟩ dX11_image_25) (fun p6 hw => ?_)
        obtain ⟨t7, et⟩ : ∃ y : Nat → St, y = upS t 5 p6 := ⟨_, rfl⟩
        have hw := hw t7 et
        refine v_w (w' := wBig E a t7) (by subst et; rfl) ?_
        refine v_aload_n (pc := 28) C 0 rfl rfl dX11_image_28 ?_
        refine v_dup (pc := 29) C rfl dX11_image_29 ?_
        refine v_get (pc := 30) C cfX11 rfl 0 9 rfl (by decide) wfX11_57 rfl dX11_image_30 ?_
        refine v_iconst (pc := 33) C 1 ki_1 dX11_image_33 ?_
        refine v_iload_n (pc := 34) C 1 rfl rfl dX11_image_34 ?_
        refine v_ishl (pc := 35) C dX11_image_35 ?_
        refine v_ior (pc := 36) C dX11_image_36 ?_
        obtain ⟨t8, es⟩ : ∃ y : Nat → St, y = upS t7 0 ((t7 0).sI 9 (((t7 0).I 9) ||| ((1 : Int32) <<< (x1 &&& 31)))) := ⟨_, rfl⟩
        have hw := hw t8 es
        refine v_put (pc := 37) C cfX11 rfl 0 9 (ty := .int) (w' := (wBig E a t8)) rfl (by subst es; rfl) (by decide) wfX11_57 rfl rfl rfl rfl (Nat.le_of_ble_eq_true rfl) dX11_image_37 ?_
        refine v_iconst (pc := 40) C 1 ki_1 dX11_image_40 ?_
        exact v_ireti (pc := 41) C t8 hA rfl hw dX11_image_41
    · have hw := hw.2 hc
      refine v_sub (lv' := [(0, .ref (a 0 0))]) [0] rfl ?_
      exact vjX11_image_9 C hA a  t hw
set_option maxHeartbeats 4000000 in
set_option maxRecDepth 100000 in
theorem vjX11_from_9 (C : VC pr s m args meth c E A cX11_from 2 (some .int) RX11) (hA : va_A w0 s.heap.size = A) (a : Nat → Nat → Nat)  {Post : Int32 → (Nat → St) → Prop} (t : Nat → St) (hw : wjX11_from_9  Post t) : V pr l e rmX11_from s m args below meth c E A 2 0 0 (MQ below (CQi E Post (fun u => wBig E a u) w0 s.heap.size) args s 0 0 A) (wBig E a t) 9 [(0, .ref (a 0 0))] [] := by
  refine v_aload_n (pc := 9) C 0 rfl rfl dX11_from_9 ?_
  refine v_bipush (pc := 10) C (-2) kb_m2 dX11_from_10 ?_
  refine v_goAi (pc := 12) C (wc' := (fun (u : (Nat → St)) => (wBig E a u))) (fun _ => rfl) (v_runVA (pc := 12) C [.int (-2)] [] (fun sz => ctX11_bad l E a (-2) t hw sz) mfX11_bad mvX11_bad wmX11_77 rfl ⟨Nat.le_of_ble_eq_true rfl, Nat.le_of_ble_eq_true rfl⟩ ⟨rfl, rfl⟩ 0 (ci := 11) (qc := (RX11, TX11, 15)) rfl rfl rfl rfl (Nat.le_of_ble_eq_true rfl) ⟨Nat.zero_le _, Nat.zero_le _⟩ dX11_from_12) (fun r1 t2 hw => ?_)
  exact v_ireti (pc := 15) C t2 hA rfl hw dX11_from_15
set_option maxHeartbeats 4000000 in
set_option maxRecDepth 100000 in
theorem ctX11_from (l : Launch) (E : VE) (a : Nat → Nat → Nat) (x1 : Int32) (t : Nat → St)  {Post : Int32 → (Nat → St) → Prop} (hw : wpX11_from x1 t Post) (sz : Nat) : Met l yX11_from (mW yX11_from cX11_from 2 (some .int)) rmX11_from (CPre E [.ref (a 0 0), .int x1] sz (wBig E a t)) (CQi E Post (fun u => wBig E a u) (wBig E a t) sz) 0 0 (va_A (wBig E a t) sz) := by
  refine v_met (by decide) (Nat.le_of_ble_eq_true rfl) ?_
  intro pr e s m below meth c A hsz hA C
  subst hsz
  refine v_iload_n (pc := 0) C 1 rfl rfl dX11_from_0 ?_
  refine v_if_lt (pc := 1) C 9 (by decide) dX11_from_1 (fun hc => ?_) (fun hc => ?_)
  · have hw := hw.1 hc
    refine v_sub (lv' := [(0, .ref (a 0 0))]) [0] rfl ?_
    exact vjX11_from_9 C hA a  t hw
  · have hw := hw.2 hc
    refine v_iload_n (pc := 4) C 1 rfl rfl dX11_from_4 ?_
    refine v_iconst (pc := 5) C 2 ki_2 dX11_from_5 ?_
    refine v_icmp_lt (pc := 6) C 16 (by decide) dX11_from_6 (fun hc => ?_) (fun hc => ?_)
    · have hw := hw.1 hc
      refine v_aload_n (pc := 16) C 0 rfl rfl dX11_from_16 ?_
      refine v_get (pc := 17) C cfX11 rfl 0 9 rfl (by decide) wfX11_57 rfl dX11_from_17 ?_
      refine v_iload_n (pc := 20) C 1 rfl rfl dX11_from_20 ?_
      refine v_ishr (pc := 21) C dX11_from_21 ?_
      refine v_iconst (pc := 22) C 1 ki_1 dX11_from_22 ?_
      refine v_iand (pc := 23) C dX11_from_23 ?_
      refine v_if_ne (pc := 24) C 32 (by decide) dX11_from_24 (fun hc => ?_) (fun hc => ?_)
      · have hw := hw.1 hc
        refine v_aload_n (pc := 32) C 0 rfl rfl dX11_from_32 ?_
        refine v_get (pc := 33) C cfX11 rfl 0 1 rfl (by decide) wfX11_19 rfl dX11_from_33 ?_
        refine v_aload_n (pc := 36) C 0 rfl rfl dX11_from_36 ?_
        refine v_iload_n (pc := 37) C 1 rfl rfl dX11_from_37 ?_
        refine v_imageOf (pc := 38) C a t x1 [.ref (a 2 0)] wmX11_267 (by decide) (by decide) (Nat.le_of_ble_eq_true rfl) ⟨Nat.zero_le _, Nat.zero_le _⟩ dX11_from_38 (fun hc => ?_) (fun hc => ?_)
        · have hw := hw.1 hc
          refine v_goBv (pc := 41) C (bs := (bsBig E a t)) (cs := [bPad E (a 2) (t 2), bPad E (a 4) (t 4)]) (cs' := (fun (u : St) => [bPad E (a 2) u, bPad E (a 4) (t 4)])) (bs' := (fun (u : St) => (bsBig E a (upS t 2 u)))) (w' := (fun (u : St) => (wBig E a (upS t 2 u)))) [2, 4] (wBig_fl E a t) rfl (fun _ => rfl) (fun _ => rfl) (fun _ => (wBig_fl _ _ _).symm) (v_runVB (pc := 41) C [.ref (a 4 0)] [] (fun sz => ctX4_copyFrom l E (a 2) (a 4) (t 2) (t 4) hw sz) [2, 4] (wBig_fl E a t) rfl rfl mfX4_copyFrom mvX4_copyFrom wmX11_151 rfl ⟨Nat.le_of_ble_eq_true rfl, Nat.le_of_ble_eq_true rfl⟩ ⟨rfl, rfl⟩ 10 (ci := 4) (qc := (RX4, TX4, 12)) rfl rfl rfl rfl (Nat.le_of_ble_eq_true rfl) ⟨Nat.zero_le _, Nat.zero_le _⟩ dX11_from_41) (fun p3 hw => ?_)
          obtain ⟨t4, et⟩ : ∃ y : Nat → St, y = upS t 2 p3 := ⟨_, rfl⟩
          have hw := hw t4 et
          refine v_w (w' := wBig E a t4) (by subst et; rfl) ?_
          refine v_iconst (pc := 44) C 1 ki_1 dX11_from_44 ?_
          exact v_ireti (pc := 45) C t4 hA rfl hw dX11_from_45
        · have hw := hw.2 hc
          refine v_goBv (pc := 41) C (bs := (bsBig E a t)) (cs := [bPad E (a 2) (t 2), bPad E (a 5) (t 5)]) (cs' := (fun (u : St) => [bPad E (a 2) u, bPad E (a 5) (t 5)])) (bs' := (fun (u : St) => (bsBig E a (upS t 2 u)))) (w' := (fun (u : St) => (wBig E a (upS t 2 u)))) [2, 5] (wBig_fl E a t) rfl (fun _ => rfl) (fun _ => rfl) (fun _ => (wBig_fl _ _ _).symm) (v_runVB (pc := 41) C [.ref (a 5 0)] [] (fun sz => ctX4_copyFrom l E (a 2) (a 5) (t 2) (t 5) hw sz) [2, 5] (wBig_fl E a t) rfl rfl mfX4_copyFrom mvX4_copyFrom wmX11_151 rfl ⟨Nat.le_of_ble_eq_true rfl, Nat.le_of_ble_eq_true rfl⟩ ⟨rfl, rfl⟩ 10 (ci := 4) (qc := (RX4, TX4, 12)) rfl rfl rfl rfl (Nat.le_of_ble_eq_true rfl) ⟨Nat.zero_le _, Nat.zero_le _⟩ dX11_from_41) (fun p5 hw => ?_)
          obtain ⟨t6, et⟩ : ∃ y : Nat → St, y = upS t 2 p5 := ⟨_, rfl⟩
          have hw := hw t6 et
          refine v_w (w' := wBig E a t6) (by subst et; rfl) ?_
          refine v_iconst (pc := 44) C 1 ki_1 dX11_from_44 ?_
          exact v_ireti (pc := 45) C t6 hA rfl hw dX11_from_45
      · have hw := hw.2 hc
        refine v_aload_n (pc := 27) C 0 rfl rfl dX11_from_27 ?_
        refine v_goAi (pc := 28) C (wc' := (fun (u : (Nat → St)) => (wBig E a u))) (fun _ => rfl) (v_runVA (pc := 28) C [] [] (fun sz => ctX11_no l E a t hw sz) mfX11_no mvX11_no wmX11_106 rfl ⟨Nat.le_of_ble_eq_true rfl, Nat.le_of_ble_eq_true rfl⟩ ⟨rfl, rfl⟩ 0 (ci := 11) (qc := (RX11, TX11, 15)) rfl rfl rfl rfl (Nat.le_of_ble_eq_true rfl) ⟨Nat.zero_le _, Nat.zero_le _⟩ dX11_from_28) (fun r7 t8 hw => ?_)
        exact v_ireti (pc := 31) C t8 hA rfl hw dX11_from_31
    · have hw := hw.2 hc
      refine v_sub (lv' := [(0, .ref (a 0 0))]) [0] rfl ?_
      exact vjX11_from_9 C hA a  t hw
set_option maxHeartbeats 4000000 in
set_option maxRecDepth 100000 in
theorem ctX11_status (l : Launch) (E : VE) (a : Nat → Nat → Nat) (x1 : Int32) (t : Nat → St)  {Post : Int32 → (Nat → St) → Prop} (hw : wpX11_status x1 t Post) (sz : Nat) : Met l yX11_status (mW yX11_status cX11_status 2 (some .int)) rmX11_status (CPre E [.ref (a 0 0), .int x1] sz (wBig E a t)) (CQi E Post (fun u => wBig E a u) (wBig E a t) sz) 0 0 (va_A (wBig E a t) sz) := by
  refine v_met (by decide) (Nat.le_of_ble_eq_true rfl) ?_
  intro pr e s m below meth c A hsz hA C
  subst hsz
  refine v_iload_n (pc := 0) C 1 rfl rfl dX11_status_0 ?_
  by_cases hc0 : x1 = 0
  · have hw := hw.1 hc0
    refine v_tblIn (pc := 1) C (off := 27) 28 dX11_status_1 (by rw [hc0]; decide) (by rw [hc0]; decide) (by rw [hc0]; decide) (by decide) ?_
    refine v_aload_n (pc := 28) C 0 rfl rfl dX11_status_28 ?_
    refine v_get (pc := 29) C cfX11 rfl 0 12 rfl (by decide) wfX11_68 rfl dX11_status_29 ?_
    exact v_ireti (pc := 32) C t hA rfl hw dX11_status_32
  replace hw := hw.2
  by_cases hc1 : x1 = 1
  · have hw := hw.1 hc1
    refine v_tblIn (pc := 1) C (off := 32) 33 dX11_status_1 (by rw [hc1]; decide) (by rw [hc1]; decide) (by rw [hc1]; decide) (by decide) ?_
    refine v_aload_n (pc := 33) C 0 rfl rfl dX11_status_33 ?_
    refine v_get (pc := 34) C cfX11 rfl 0 13 rfl (by decide) wfX11_71 rfl dX11_status_34 ?_
    exact v_ireti (pc := 37) C t hA rfl hw dX11_status_37
  replace hw := hw.2
  by_cases hc2 : x1 = 2
  · have hw := hw.1 hc2
    refine v_tblIn (pc := 1) C (off := 37) 38 dX11_status_1 (by rw [hc2]; decide) (by rw [hc2]; decide) (by rw [hc2]; decide) (by decide) ?_
    refine v_aload_n (pc := 38) C 0 rfl rfl dX11_status_38 ?_
    refine v_get (pc := 39) C cfX11 rfl 0 14 rfl (by decide) wfX11_74 rfl dX11_status_39 ?_
    exact v_ireti (pc := 42) C t hA rfl hw dX11_status_42
  replace hw := hw.2
  replace hw := hw hc0 hc1 hc2
  refine v_tblOut (pc := 1) C 43 (by decide) dX11_status_1 (tblo (k := 2) (by decide) (fun j hj => by rcases (show j = 0 ∨ j = 1 ∨ j = 2 by omega) with rfl | rfl | rfl <;> assumption)) ?_
  refine v_aload_n (pc := 43) C 0 rfl rfl dX11_status_43 ?_
  refine v_iconst (pc := 44) C (-1) ki_m1 dX11_status_44 ?_
  refine v_goAi (pc := 45) C (wc' := (fun (u : (Nat → St)) => (wBig E a u))) (fun _ => rfl) (v_runVA (pc := 45) C [.int (-1)] [] (fun sz => ctX11_bad l E a (-1) t hw sz) mfX11_bad mvX11_bad wmX11_77 rfl ⟨Nat.le_of_ble_eq_true rfl, Nat.le_of_ble_eq_true rfl⟩ ⟨rfl, rfl⟩ 0 (ci := 11) (qc := (RX11, TX11, 15)) rfl rfl rfl rfl (Nat.le_of_ble_eq_true rfl) ⟨Nat.zero_le _, Nat.zero_le _⟩ dX11_status_45) (fun r1 t2 hw => ?_)
  exact v_ireti (pc := 48) C t2 hA rfl hw dX11_status_48
set_option maxHeartbeats 4000000 in
set_option maxRecDepth 100000 in
theorem ctX11_amountOf (l : Launch) (E : VE) (a : Nat → Nat → Nat) (x1 : Int32) (t : Nat → St)  {Post : Int32 → Prop} (hw : wpX11_amountOf x1 t Post) (sz : Nat) : Met l yX11_amountOf (mW yX11_amountOf cX11_amountOf 2 (some .int)) rmX11_amountOf (CPre E [.ref (a 0 0), .int x1] sz (wBig E a t)) (CQi E (fun (z : Int32) (_ : Unit) => Post z) (fun _ => (wBig E a t)) (wBig E a t) sz) 0 0 (va_A (wBig E a t) sz) := by
  refine v_met (by decide) (Nat.le_of_ble_eq_true rfl) ?_
  intro pr e s m below meth c A hsz hA C
  subst hsz
  refine v_iload_n (pc := 0) C 1 rfl rfl dX11_amountOf_0 ?_
  by_cases hc0 : x1 = 0
  · have hw := hw.1 hc0
    refine v_tblIn (pc := 1) C (off := 39) 40 dX11_amountOf_1 (by rw [hc0]; decide) (by rw [hc0]; decide) (by rw [hc0]; decide) (by decide) ?_
    refine v_aload_n (pc := 40) C 0 rfl rfl dX11_amountOf_40 ?_
    refine v_get (pc := 41) C cfX11 rfl 0 1 rfl (by decide) wfX11_19 rfl dX11_amountOf_41 ?_
    refine v_getN (pc := 44) C cfX4 rfl 10 3 rfl (by decide) wfX11_81 rfl dX11_amountOf_44 ?_
    exact v_ireti (pc := 47) C () hA rfl hw dX11_amountOf_47
  replace hw := hw.2
  by_cases hc1 : x1 = 1
  · have hw := hw.1 hc1
    refine v_tblIn (pc := 1) C (off := 47) 48 dX11_amountOf_1 (by rw [hc1]; decide) (by rw [hc1]; decide) (by rw [hc1]; decide) (by decide) ?_
    refine v_aload_n (pc := 48) C 0 rfl rfl dX11_amountOf_48 ?_
    refine v_get (pc := 49) C cfX11 rfl 0 1 rfl (by decide) wfX11_19 rfl dX11_amountOf_49 ?_
    refine v_goBi (pc := 52) C (bs := (bsBig E a t)) (cs := [bPad E (a 2) (t 2)]) (cs' := (fun (_ : Unit) => [bPad E (a 2) (t 2)])) (bs' := (fun (_ : Unit) => (bsBig E a t))) (w' := (fun (_ : Unit) => (wBig E a t))) [2] (wBig_fl E a t) rfl (fun _ => rfl) (fun _ => rfl) (fun _ => (wBig_fl _ _ _).symm) (v_runVB (pc := 52) C [] [] (fun sz => ctX4_top l E (a 2) (t 2) hw sz) [2] (wBig_fl E a t) rfl rfl mfX4_top mvX4_top wmX11_164 rfl ⟨Nat.le_of_ble_eq_true rfl, Nat.le_of_ble_eq_true rfl⟩ ⟨rfl, rfl⟩ 10 (ci := 4) (qc := (RX4, TX4, 12)) rfl rfl rfl rfl (Nat.le_of_ble_eq_true rfl) ⟨Nat.zero_le _, Nat.zero_le _⟩ dX11_amountOf_52) (fun r1 _ hw => ?_)
    exact v_ireti (pc := 55) C () hA rfl hw dX11_amountOf_55
  replace hw := hw.2
  by_cases hc2 : x1 = 2
  · have hw := hw.1 hc2
    refine v_tblIn (pc := 1) C (off := 55) 56 dX11_amountOf_1 (by rw [hc2]; decide) (by rw [hc2]; decide) (by rw [hc2]; decide) (by decide) ?_
    refine v_aload_n (pc := 56) C 0 rfl rfl dX11_amountOf_56 ?_
    refine v_get (pc := 57) C cfX11 rfl 0 1 rfl (by decide) wfX11_19 rfl dX11_amountOf_57 ?_
    refine v_goBi (pc := 60) C (bs := (bsBig E a t)) (cs := [bPad E (a 2) (t 2)]) (cs' := (fun (_ : Unit) => [bPad E (a 2) (t 2)])) (bs' := (fun (_ : Unit) => (bsBig E a t))) (w' := (fun (_ : Unit) => (wBig E a t))) [2] (wBig_fl E a t) rfl (fun _ => rfl) (fun _ => rfl) (fun _ => (wBig_fl _ _ _).symm) (v_runVB (pc := 60) C [] [] (fun sz => ctX4_noteCount l E (a 2) (t 2) hw sz) [2] (wBig_fl E a t) rfl rfl mfX4_noteCount mvX4_noteCount wmX11_110 rfl ⟨Nat.le_of_ble_eq_true rfl, Nat.le_of_ble_eq_true rfl⟩ ⟨rfl, rfl⟩ 10 (ci := 4) (qc := (RX4, TX4, 12)) rfl rfl rfl rfl (Nat.le_of_ble_eq_true rfl) ⟨Nat.zero_le _, Nat.zero_le _⟩ dX11_amountOf_60) (fun r2 _ hw => ?_)
    exact v_ireti (pc := 63) C () hA rfl hw dX11_amountOf_63
  replace hw := hw.2
  by_cases hc3 : x1 = 3
  · have hw := hw.1 hc3
    refine v_tblIn (pc := 1) C (off := 63) 64 dX11_amountOf_1 (by rw [hc3]; decide) (by rw [hc3]; decide) (by rw [hc3]; decide) (by decide) ?_
    refine v_aload_n (pc := 64) C 0 rfl rfl dX11_amountOf_64 ?_
    refine v_get (pc := 65) C cfX11 rfl 0 1 rfl (by decide) wfX11_19 rfl dX11_amountOf_65 ?_
    refine v_getN (pc := 68) C cfX4 rfl 10 11 rfl (by decide) wfX11_132 rfl dX11_amountOf_68 ?_
    exact v_ireti (pc := 71) C () hA rfl hw dX11_amountOf_71
  replace hw := hw.2
  by_cases hc4 : x1 = 4
  · have hw := hw.1 hc4
    refine v_tblIn (pc := 1) C (off := 71) 72 dX11_amountOf_1 (by rw [hc4]; decide) (by rw [hc4]; decide) (by rw [hc4]; decide) (by decide) ?_
    refine v_aload_n (pc := 72) C 0 rfl rfl dX11_amountOf_72 ?_
    refine v_get (pc := 73) C cfX11 rfl 0 1 rfl (by decide) wfX11_19 rfl dX11_amountOf_73 ?_
    refine v_getN (pc := 76) C cfX4 rfl 10 4 rfl (by decide) wfX11_92 rfl dX11_amountOf_76 ?_
    exact v_ireti (pc := 79) C () hA rfl hw dX11_amountOf_79
  replace hw := hw.2
  by_cases hc5 : x1 = 5
  · have hw := hw.1 hc5
    refine v_tblIn (pc := 1) C (off := 79) 80 dX11_amountOf_1 (by rw [hc5]; decide) (by rw [hc5]; decide) (by rw [hc5]; decide) (by decide) ?_
    refine v_aload_n (pc := 80) C 0 rfl rfl dX11_amountOf_80 ?_
    refine v_get (pc := 81) C cfX11 rfl 0 1 rfl (by decide) wfX11_19 rfl dX11_amountOf_81 ?_
    refine v_getN (pc := 84) C cfX4 rfl 10 2 rfl (by decide) wfX11_126 rfl dX11_amountOf_84 ?_
    exact v_ireti (pc := 87) C () hA rfl hw dX11_amountOf_87
  replace hw := hw.2
  replace hw := hw hc0 hc1 hc2 hc3 hc4 hc5
  refine v_tblOut (pc := 1) C 88 (by decide) dX11_amountOf_1 (tblo (k := 5) (by decide) (fun j hj => by rcases (show j = 0 ∨ j = 1 ∨ j = 2 ∨ j = 3 ∨ j = 4 ∨ j = 5 by omega) with rfl | rfl | rfl | rfl | rfl | rfl <;> assumption)) ?_
  refine v_aload_n (pc := 88) C 0 rfl rfl dX11_amountOf_88 ?_
  refine v_get (pc := 89) C cfX11 rfl 0 7 rfl (by decide) wfX11_49 rfl dX11_amountOf_89 ?_
  refine v_getN (pc := 92) C cfX7 rfl 54 1 rfl (by decide) wfX11_138 rfl dX11_amountOf_92 ?_
  exact v_ireti (pc := 95) C () hA rfl hw dX11_amountOf_95
set_option maxHeartbeats 4000000 in
set_option maxRecDepth 100000 in
theorem vjX11_count_10 (C : VC pr s m args meth c E A cX11_count 2 (some .int) RX11) (hA : va_A w0 s.heap.size = A) (a : Nat → Nat → Nat)  {Post : Int32 → (Nat → St) → Prop} (t : Nat → St) (hw : wjX11_count_10  Post t) : V pr l e rmX11_count s m args below meth c E A 2 0 0 (MQ below (CQi E Post (fun u => wBig E a u) w0 s.heap.size) args s 0 0 A) (wBig E a t) 10 [(0, .ref (a 0 0))] [] := by
  refine v_aload_n (pc := 10) C 0 rfl rfl dX11_count_10 ?_
  refine v_bipush (pc := 11) C (-2) kb_m2 dX11_count_11 ?_
  refine v_goAi (pc := 13) C (wc' := (fun (u : (Nat → St)) => (wBig E a u))) (fun _ => rfl) (v_runVA (pc := 13) C [.int (-2)] [] (fun sz => ctX11_bad l E a (-2) t hw sz) mfX11_bad mvX11_bad wmX11_77 rfl ⟨Nat.le_of_ble_eq_true rfl, Nat.le_of_ble_eq_true rfl⟩ ⟨rfl, rfl⟩ 0 (ci := 11) (qc := (RX11, TX11, 15)) rfl rfl rfl rfl (Nat.le_of_ble_eq_true rfl) ⟨Nat.zero_le _, Nat.zero_le _⟩ dX11_count_13) (fun r1 t2 hw => ?_)
  refine v_goto (pc := 16) C 24 (by decide) dX11_count_16 ?_
  exact v_ireti (pc := 24) C t2 hA rfl hw dX11_count_24
set_option maxHeartbeats 4000000 in
set_option maxRecDepth 100000 in
theorem ctX11_count (l : Launch) (E : VE) (a : Nat → Nat → Nat) (x1 : Int32) (t : Nat → St)  {Post : Int32 → (Nat → St) → Prop} (hw : wpX11_count x1 t Post) (sz : Nat) : Met l yX11_count (mW yX11_count cX11_count 2 (some .int)) rmX11_count (CPre E [.ref (a 0 0), .int x1] sz (wBig E a t)) (CQi E Post (fun u => wBig E a u) (wBig E a t) sz) 0 0 (va_A (wBig E a t) sz) := by
  refine v_met (by decide) (Nat.le_of_ble_eq_true rfl) ?_
  intro pr e s m below meth c A hsz hA C
  subst hsz
  refine v_iload_n (pc := 0) C 1 rfl rfl dX11_count_0 ?_
  refine v_if_lt (pc := 1) C 10 (by decide) dX11_count_1 (fun hc => ?_) (fun hc => ?_)
  · have hw := hw.1 hc
    refine v_sub (lv' := [(0, .ref (a 0 0))]) [0] rfl ?_
    exact vjX11_count_10 C hA a  t hw
  · have hw := hw.2 hc
    refine v_iload_n (pc := 4) C 1 rfl rfl dX11_count_4 ?_
    refine v_bipush (pc := 5) C 6 kb_6 dX11_count_5 ?_
    refine v_icmp_le (pc := 7) C 19 (by decide) dX11_count_7 (fun hc => ?_) (fun hc => ?_)
    · have hw := hw.1 hc
      refine v_aload_n (pc := 19) C 0 rfl rfl dX11_count_19 ?_
      refine v_iload_n (pc := 20) C 1 rfl rfl dX11_count_20 ?_
      refine v_goAi (pc := 21) C (wc' := (fun (_ : Unit) => (wBig E a t))) (fun _ => rfl) (v_runVA (pc := 21) C [.int x1] [] (fun sz => ctX11_amountOf l E a x1 t hw sz) mfX11_amountOf mvX11_amountOf wmX11_271 rfl ⟨Nat.le_of_ble_eq_true rfl, Nat.le_of_ble_eq_true rfl⟩ ⟨rfl, rfl⟩ 0 (ci := 11) (qc := (RX11, TX11, 15)) rfl rfl rfl rfl (Nat.le_of_ble_eq_true rfl) ⟨Nat.zero_le _, Nat.zero_le _⟩ dX11_count_21) (fun r3 _ hw => ?_)
      exact v_ireti (pc := 24) C t hA rfl hw dX11_count_24
    · have hw := hw.2 hc
      refine v_sub (lv' := [(0, .ref (a 0 0))]) [0] rfl ?_
      exact vjX11_count_10 C hA a  t hw
set_option maxHeartbeats 4000000 in
set_option maxRecDepth 100000 in
theorem vlX11_digest_6 (C : VC pr s m args meth c E A cX11_digest 4 (some .long) RX11) (hA : va_A w0 s.heap.size = A) (a : Nat → Nat → Nat) (t : Nat → St) {Post : Int64 → Prop} {KX : Int64 → Prop} (hX : ∀ (x1 : Int64), KX x1 → V pr l e rmX11_digest s m args below meth c E A 4 0 0 (MQ below (CQl E (fun (z : Int64) (_ : Unit) => Post z) (fun _ => (wBig E a t)) w0 s.heap.size) args s 0 0 A) (wBig E a t) 31 [(0, .ref (a 0 0)), (1, .long x1)] []) : ∀ (n : Nat) (x1 : Int64) (x3 : Int32), wLX11_digest_6 t Post KX n (x1, x3) → V pr l e rmX11_digest s m args below meth c E A 4 0 0 (MQ below (CQl E (fun (z : Int64) (_ : Unit) => Post z) (fun _ => (wBig E a t)) w0 s.heap.size) args s 0 0 A) (wBig E a t) 6 [(0, .ref (a 0 0)), (1, .long x1), (3, .int x3)] [] := by
  intro n
  induction n with
  | zero => intro x1 x3 hw; exact absurd hw id
  | succ n hself =>
    intro x1 x3 hw
    have hw : wlX11_digest_6 t Post KX (wLX11_digest_6 t Post KX n) x1 x3 := hw
    refine v_iload_n (pc := 6) C 2 rfl rfl dX11_digest_6 ?_
    refine v_bipush (pc := 7) C 6 kb_6 dX11_digest_7 ?_
    refine v_icmp_gt (pc := 9) C 31 (by decide) dX11_digest_9 (fun hc => ?_) (fun hc => ?_)
    · have hw := hw.1 hc
      refine v_sub (lv' := [(0, .ref (a 0 0)), (1, .long x1)]) [0, 1] rfl ?_
      exact hX x1 hw
    · have hw := hw.2 hc
      refine v_ldc2 (pc := 12) C 31 wlX11_276 dX11_digest_12 ?_
      refine v_lload_n (pc := 15) C 1 rfl rfl dX11_digest_15 ?_
      refine v_lmul (pc := 16) C dX11_digest_16 ?_
      refine v_aload_n (pc := 17) C 0 rfl rfl dX11_digest_17 ?_
      refine v_iload_n (pc := 18) C 2 rfl rfl dX11_digest_18 ?_
      refine v_goAi (pc := 19) C (wc' := (fun (_ : Unit) => (wBig E a t))) (fun _ => rfl) (v_runVA (pc := 19) C [.int x3] [.long (31 * x1)] (fun sz => ctX11_amountOf l E a x3 t hw sz) mfX11_amountOf mvX11_amountOf wmX11_271 rfl ⟨Nat.le_of_ble_eq_true rfl, Nat.le_of_ble_eq_true rfl⟩ ⟨rfl, rfl⟩ 0 (ci := 11) (qc := (RX11, TX11, 15)) rfl rfl rfl rfl (Nat.le_of_ble_eq_true rfl) ⟨Nat.zero_le _, Nat.zero_le _⟩ dX11_digest_19) (fun r1 _ hw => ?_)
      refine v_i2l (pc := 22) C dX11_digest_22 ?_
      refine v_ladd (pc := 23) C dX11_digest_23 ?_
      refine v_topl (fun x1_2 ex => ?_)
      have hw := hw x1_2 ex
      refine v_lstore_n (pc := 24) C [(1, .long x1_2), (0, .ref (a 0 0)), (3, .int x3)] rfl rfl (by decide) dX11_digest_24 ?_
      obtain ⟨x3_3, ex⟩ : ∃ y : Int32, y = x3 + 1 := ⟨_, rfl⟩
      have hw := hw x3_3 ex
      refine v_iinc (pc := 25) C 2 rfl (by rw [ex, ki_1]) [(3, .int x3_3), (1, .long x1_2), (0, .ref (a 0 0))] rfl (by decide) dX11_digest_25 ?_
      refine v_goto (pc := 28) C 6 (by decide) dX11_digest_28 ?_
      refine v_sub (lv' := [(0, .ref (a 0 0)), (1, .long x1_2), (3, .int x3_3)]) [2, 1, 0] rfl ?_
      exact hself x1_2 x3_3 hw
set_option maxHeartbeats 4000000 in
set_option maxRecDepth 100000 in
theorem ctX11_digest (l : Launch) (E : VE) (a : Nat → Nat → Nat)  (t : Nat → St)  {Post : Int64 → Prop} (hw : wpX11_digest t Post) (sz : Nat) : Met l yX11_digest (mW yX11_digest cX11_digest 4 (some .long)) rmX11_digest (CPre E [.ref (a 0 0)] sz (wBig E a t)) (CQl E (fun (z : Int64) (_ : Unit) => Post z) (fun _ => (wBig E a t)) (wBig E a t) sz) 0 0 (va_A (wBig E a t) sz) := by
  refine v_met (by decide) (Nat.le_of_ble_eq_true rfl) ?_
  intro pr e s m below meth c A hsz hA C
  subst hsz
  refine v_ldc2 (pc := 0) C 919 wlX11_274 dX11_digest_0 ?_
  refine v_lstore_n (pc := 3) C [(1, .long 919), (0, .ref (a 0 0))] rfl rfl (by decide) dX11_digest_3 ?_
  refine v_iconst (pc := 4) C 0 ki_0 dX11_digest_4 ?_
  refine v_istore_n (pc := 5) C [(3, .int 0), (1, .long 919), (0, .ref (a 0 0))] rfl rfl (by decide) dX11_digest_5 ?_
  obtain ⟨n, hw⟩ := hw
  refine v_sub (lv' := [(0, .ref (a 0 0)), (1, .long 919), (3, .int 0)]) [2, 1, 0] rfl ?_
  refine vlX11_digest_6 C hA a t (fun y4 hw => ?_) n 919 0 hw
  refine v_aload_n (pc := 31) C 0 rfl rfl dX11_digest_31 ?_
  refine v_get (pc := 32) C cfX11 rfl 0 1 rfl (by decide) wfX11_19 rfl dX11_digest_32 ?_
  refine v_lload_n (pc := 35) C 1 rfl rfl dX11_digest_35 ?_
  refine v_goBl (pc := 36) C (bs := (bsBig E a t)) (cs := [bPad E (a 2) (t 2)]) (cs' := (fun (_ : Unit) => [bPad E (a 2) (t 2)])) (bs' := (fun (_ : Unit) => (bsBig E a t))) (w' := (fun (_ : Unit) => (wBig E a t))) [2] (wBig_fl E a t) rfl (fun _ => rfl) (fun _ => rfl) (fun _ => (wBig_fl _ _ _).symm) (v_runVB (pc := 36) C [.long y4] [] (fun sz => ctX4_digestFrom l E (a 2) y4 (t 2) hw sz) [2] (wBig_fl E a t) rfl rfl mfX4_digestFrom mvX4_digestFrom wmX11_278 rfl ⟨Nat.le_of_ble_eq_true rfl, Nat.le_of_ble_eq_true rfl⟩ ⟨rfl, rfl⟩ 10 (ci := 4) (qc := (RX4, TX4, 12)) rfl rfl rfl rfl (Nat.le_of_ble_eq_true rfl) ⟨Nat.zero_le _, Nat.zero_le _⟩ dX11_digest_36) (fun r5 _ hw => ?_)
  refine v_lstore_n (pc := 39) C [(1, .long r5), (0, .ref (a 0 0))] rfl rfl (by decide) dX11_digest_39 ?_
  refine v_ldc2 (pc := 40) C 31 wlX11_276 dX11_digest_40 ?_
  refine v_lload_n (pc := 43) C 0 rfl rfl dX11_digest_43 ?_
  refine v_lmul (pc := 44) C dX11_digest_44 ?_
  refine v_aload_n (pc := 45) C 1 rfl rfl dX11_digest_45 ?_
  refine v_get (pc := 46) C cfX11 rfl 0 10 rfl (by decide) wfX11_61 rfl dX11_digest_46 ?_
  refine v_ladd (pc := 49) C dX11_digest_49 ?_
  refine v_topl (fun x1_6 ex => ?_)
  have hw := hw x1_6 ex
  refine v_lstore_n (pc := 50) C [(1, .long x1_6), (0, .ref (a 0 0))] rfl rfl (by decide) dX11_digest_50 ?_
  refine v_ldc2 (pc := 51) C 31 wlX11_276 dX11_digest_51 ?_
  refine v_lload_n (pc := 54) C 0 rfl rfl dX11_digest_54 ?_
  refine v_lmul (pc := 55) C dX11_digest_55 ?_
  refine v_aload_n (pc := 56) C 1 rfl rfl dX11_digest_56 ?_
  refine v_get (pc := 57) C cfX11 rfl 0 11 rfl (by decide) wfX11_65 rfl dX11_digest_57 ?_
  refine v_ladd (pc := 60) C dX11_digest_60 ?_
  exact v_lret (pc := 61) C () hA rfl hw dX11_digest_61
set_option maxHeartbeats 4000000 in
set_option maxRecDepth 100000 in
theorem ctX12_in (l : Launch) (E : VE)  (x0 : Int64) (x2 : Int64) (x4 : Int64)   {Post : Int32 → Prop} (hw : wpX12_in x0 x2 x4 Post) (sz : Nat) : Met l yX12_in (mW yX12_in cX12_in 6 (some .boolean)) rmX12_in (CPre E [.long x0, .long x2, .long x4] sz (fl [])) (CQi E (fun (z : Int32) (_ : Unit) => Post z) (fun _ => (fl [])) (fl []) sz) 0 0 (va_A (fl []) sz) := by
  refine v_met (by decide) (Nat.le_of_ble_eq_true rfl) ?_
  intro pr e s m below meth c A hsz hA C
  subst hsz
  refine v_lload_n (pc := 0) C 0 rfl rfl dX12_in_0 ?_
  refine v_lload_n (pc := 1) C 1 rfl rfl dX12_in_1 ?_
  refine v_lcmp (pc := 2) C dX12_in_2 ?_
  refine v_if_lt (pc := 3) C 17 (by decide) dX12_in_3 (fun hc => ?_) (fun hc => ?_)
  · have hw := hw.1 hc
    refine v_iconst (pc := 17) C 0 ki_0 dX12_in_17 ?_
    exact v_iretz (pc := 18) C rfl () hA rfl hw dX12_in_18
  · have hw := hw.2 hc
    refine v_lload_n (pc := 6) C 0 rfl rfl dX12_in_6 ?_
    refine v_lload (pc := 7) C 2 rfl dX12_in_7 ?_
    refine v_lcmp (pc := 9) C dX12_in_9 ?_
    refine v_if_gt (pc := 10) C 17 (by decide) dX12_in_10 (fun hc => ?_) (fun hc => ?_)
    · have hw := hw.1 hc
      refine v_iconst (pc := 17) C 0 ki_0 dX12_in_17 ?_
      exact v_iretz (pc := 18) C rfl () hA rfl hw dX12_in_18
    · have hw := hw.2 hc
      refine v_iconst (pc := 13) C 1 ki_1 dX12_in_13 ?_
      refine v_goto (pc := 14) C 18 (by decide) dX12_in_14 ?_
      exact v_iretz (pc := 18) C rfl () hA rfl hw dX12_in_18
set_option maxHeartbeats 4000000 in
set_option maxRecDepth 100000 in
theorem ctX12_has (l : Launch) (E : VE)  (x0 : Int32) (x1 : Int32)   {Post : Int32 → Prop} (hw : wpX12_has x0 x1 Post) (sz : Nat) : Met l yX12_has (mW yX12_has cX12_has 2 (some .boolean)) rmX12_has (CPre E [.int x0, .int x1] sz (fl [])) (CQi E (fun (z : Int32) (_ : Unit) => Post z) (fun _ => (fl [])) (fl []) sz) 0 0 (va_A (fl []) sz) := by
  refine v_met (by decide) (Nat.le_of_ble_eq_true rfl) ?_
  intro pr e s m below meth c A hsz hA C
  subst hsz
  refine v_iload_n (pc := 0) C 0 rfl rfl dX12_has_0 ?_
  refine v_iload_n (pc := 1) C 1 rfl rfl dX12_has_1 ?_
  refine v_ishr (pc := 2) C dX12_has_2 ?_
  refine v_iconst (pc := 3) C 1 ki_1 dX12_has_3 ?_
  refine v_iand (pc := 4) C dX12_has_4 ?_
  refine v_iconst (pc := 5) C 1 ki_1 dX12_has_5 ?_
  refine v_icmp_ne (pc := 6) C 13 (by decide) dX12_has_6 (fun hc => ?_) (fun hc => ?_)
  · have hw := hw.1 hc
    refine v_iconst (pc := 13) C 0 ki_0 dX12_has_13 ?_
    exact v_iretz (pc := 14) C rfl () hA rfl hw dX12_has_14
  · have hw := hw.2 hc
    refine v_iconst (pc := 9) C 1 ki_1 dX12_has_9 ?_
    refine v_goto (pc := 10) C 14 (by decide) dX12_has_10 ?_
    exact v_iretz (pc := 14) C rfl () hA rfl hw dX12_has_14
set_option maxHeartbeats 4000000 in
set_option maxRecDepth 100000 in
theorem vlX12_ones_4 (C : VC pr s m args meth c E A cX12_ones 3 (some .int) RX12) (hA : va_A w0 s.heap.size = A)   {Post : Int32 → Prop} {KX : Int32 → Prop} (hX : ∀ (x1 : Int32), KX x1 → V pr l e rmX12_ones s m args below meth c E A 3 0 0 (MQ below (CQi E (fun (z : Int32) (_ : Unit) => Post z) (fun _ => (fl [])) w0 s.heap.size) args s 0 0 A) (fl []) 20 [(1, .int x1)] []) : ∀ (n : Nat) (x1 : Int32) (x2 : Int32), wLX12_ones_4  Post KX n (x1, x2) → V pr l e rmX12_ones s m args below meth c E A 3 0 0 (MQ below (CQi E (fun (z : Int32) (_ : Unit) => Post z) (fun _ => (fl [])) w0 s.heap.size) args s 0 0 A) (fl []) 4 [(1, .int x1), (2, .int x2)] [] := by
  intro n
  induction n with
  | zero => intro x1 x2 hw; exact absurd hw id
  | succ n hself =>
    intro x1 x2 hw
    have hw : wlX12_ones_4  Post KX (wLX12_ones_4  Post KX n) x1 x2 := hw
    refine v_iload_n (pc := 4) C 1 rfl rfl dX12_ones_4 ?_
    refine v_if_eq (pc := 5) C 20 (by decide) dX12_ones_5 (fun hc => ?_) (fun hc => ?_)
    · have hw := hw.1 hc
      refine v_sub (lv' := [(1, .int x1)]) [0] rfl ?_
      exact hX x1 hw
    · have hw := hw.2 hc
      obtain ⟨x1_1, ex⟩ : ∃ y : Int32, y = x1 + 1 := ⟨_, rfl⟩
      have hw := hw x1_1 ex
      refine v_iinc (pc := 8) C 0 rfl (by rw [ex, ki_1]) [(1, .int x1_1), (2, .int x2)] rfl (by decide) dX12_ones_8 ?_
      refine v_iload_n (pc := 11) C 1 rfl rfl dX12_ones_11 ?_
      refine v_iload_n (pc := 12) C 1 rfl rfl dX12_ones_12 ?_
      refine v_iconst (pc := 13) C 1 ki_1 dX12_ones_13 ?_
      refine v_isub (pc := 14) C dX12_ones_14 ?_
      refine v_iand (pc := 15) C dX12_ones_15 ?_
      refine v_topi (fun x2_2 ex => ?_)
      have hw := hw x2_2 ex
      refine v_istore_n (pc := 16) C [(2, .int x2_2), (1, .int x1_1)] rfl rfl (by decide) dX12_ones_16 ?_
      refine v_goto (pc := 17) C 4 (by decide) dX12_ones_17 ?_
      refine v_sub (lv' := [(1, .int x1_1), (2, .int x2_2)]) [1, 0] rfl ?_
      exact hself x1_1 x2_2 hw
set_option maxHeartbeats 4000000 in
set_option maxRecDepth 100000 in
theorem ctX12_ones (l : Launch) (E : VE)  (x0 : Int32)   {Post : Int32 → Prop} (hw : wpX12_ones x0 Post) (sz : Nat) : Met l yX12_ones (mW yX12_ones cX12_ones 3 (some .int)) rmX12_ones (CPre E [.int x0] sz (fl [])) (CQi E (fun (z : Int32) (_ : Unit) => Post z) (fun _ => (fl [])) (fl []) sz) 0 0 (va_A (fl []) sz) := by
  refine v_met (by decide) (Nat.le_of_ble_eq_true rfl) ?_
  intro pr e s m below meth c A hsz hA C
  subst hsz
  refine v_iconst (pc := 0) C 0 ki_0 dX12_ones_0 ?_
  refine v_istore_n (pc := 1) C [(1, .int 0), (0, .int x0)] rfl rfl (by decide) dX12_ones_1 ?_
  refine v_iload_n (pc := 2) C 1 rfl rfl dX12_ones_2 ?_
  refine v_istore_n (pc := 3) C [(2, .int x0), (1, .int 0), (0, .int x0)] rfl rfl (by decide) dX12_ones_3 ?_
  obtain ⟨n, hw⟩ := hw
  refine v_sub (lv' := [(1, .int 0), (2, .int x0)]) [1, 0] rfl ?_
  refine vlX12_ones_4 C hA   (fun y3 hw => ?_) n 0 x0 hw
  refine v_iload_n (pc := 20) C 0 rfl rfl dX12_ones_20 ?_
  exact v_ireti (pc := 21) C () hA rfl hw dX12_ones_21
set_option maxHeartbeats 4000000 in
set_option maxRecDepth 100000 in
theorem ctX12_refuse (l : Launch) (E : VE) (a : Nat → Nat) (x1 : Int32) (x2 : Int32) (p : St)  {Post : Int32 → St → Prop} (hw : wpX12_refuse x1 x2 p Post) (sz : Nat) : Met l yX12_refuse (mW yX12_refuse cX12_refuse 3 (some .int)) rmX12_refuse (CPre E [.ref (a 0), .int x1, .int x2] sz (fl [bModel E a p])) (CQi E Post (fun u => (fl [bModel E a u])) (fl [bModel E a p]) sz) 0 0 (va_A (fl [bModel E a p]) sz) := by
  refine v_met (by decide) (Nat.le_of_ble_eq_true rfl) ?_
  intro pr e s m below meth c A hsz hA C
  subst hsz
  refine v_aload_n (pc := 0) C 0 rfl rfl dX12_refuse_0 ?_
  refine v_get (pc := 1) C cfX12 rfl 0 9 rfl (by decide) wfX12_27 rfl dX12_refuse_1 ?_
  refine v_iload_n (pc := 4) C 1 rfl rfl dX12_refuse_4 ?_
  refine v_dup2 (pc := 5) C rfl rfl dX12_refuse_5 ?_
  obtain ⟨hg, hw⟩ := hw
  refine v_iald (pc := 6) C 4 rfl hg rfl dX12_refuse_6 ?_
  refine v_iconst (pc := 7) C 1 ki_1 dX12_refuse_7 ?_
  refine v_iadd (pc := 8) C dX12_refuse_8 ?_
  obtain ⟨hg, hw⟩ := hw
  obtain ⟨p1, es⟩ : ∃ y : St, y = p.sA 9 (upd (p.A 9) x1.toNatClampNeg (((p.A 9) x1.toNatClampNeg) + 1)) := ⟨_, rfl⟩
  have hw := hw p1 es
  refine v_iast (pc := 9) C 4 (w' := (fl [bModel E a p1])) rfl rfl (by subst es; rfl) hg dX12_refuse_9 ?_
  refine v_iload_n (pc := 10) C 2 rfl rfl dX12_refuse_10 ?_
  exact v_ireti (pc := 11) C p1 hA rfl hw dX12_refuse_11
end

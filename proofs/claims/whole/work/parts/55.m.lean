section
variable {pr : Program} {l : Launch} {e : Env} {s : State} {m : MethodId} {args : Array Value} {below : List Frame} {meth : Method} {c : Code} {E : VE} {A : Nat → Prop} {w0 : va_W}
theorem dX4_tearTop_0 : decode cX4_tearTop 0 = .ok (.aload_n 0, 1) := by decide +kernel
theorem dX4_tearTop_1 : decode cX4_tearTop 1 = .ok (.getfield 11, 3) := by decide +kernel
theorem dX4_tearTop_4 : decode cX4_tearTop 4 = .ok (.iconst 0, 1) := by decide +kernel
theorem dX4_tearTop_5 : decode cX4_tearTop 5 = .ok (.dup2, 1) := by decide +kernel
theorem dX4_tearTop_6 : decode cX4_tearTop 6 = .ok (.iaload, 1) := by decide +kernel
theorem dX4_tearTop_7 : decode cX4_tearTop 7 = .ok (.iconst 1, 1) := by decide +kernel
theorem dX4_tearTop_8 : decode cX4_tearTop 8 = .ok (.iadd, 1) := by decide +kernel
theorem dX4_tearTop_9 : decode cX4_tearTop 9 = .ok (.iastore, 1) := by decide +kernel
theorem dX4_tearTop_10 : decode cX4_tearTop 10 = .ok (.aload_n 0, 1) := by decide +kernel
theorem dX4_tearTop_11 : decode cX4_tearTop 11 = .ok (.getfield 11, 3) := by decide +kernel
theorem dX4_tearTop_14 : decode cX4_tearTop 14 = .ok (.iconst 0, 1) := by decide +kernel
theorem dX4_tearTop_15 : decode cX4_tearTop 15 = .ok (.iaload, 1) := by decide +kernel
theorem dX4_tearTop_16 : decode cX4_tearTop 16 = .ok (.iconst 1, 1) := by decide +kernel
theorem dX4_tearTop_17 : decode cX4_tearTop 17 = .ok (.isub, 1) := by decide +kernel
theorem dX4_tearTop_18 : decode cX4_tearTop 18 = .ok (.ireturn, 1) := by decide +kernel
theorem dX4_pressInto_0 : decode cX4_pressInto 0 = .ok (.aload_n 0, 1) := by decide +kernel
theorem dX4_pressInto_1 : decode cX4_pressInto 1 = .ok (.getfield 11, 3) := by decide +kernel
theorem dX4_pressInto_4 : decode cX4_pressInto 4 = .ok (.iload_n 1, 1) := by decide +kernel
theorem dX4_pressInto_5 : decode cX4_pressInto 5 = .ok (.iconst 2, 1) := by decide +kernel
theorem dX4_pressInto_6 : decode cX4_pressInto 6 = .ok (.invokestatic 55, 3) := by decide +kernel
theorem dX4_pressInto_9 : decode cX4_pressInto 9 = .ok (.iload_n 2, 1) := by decide +kernel
theorem dX4_pressInto_10 : decode cX4_pressInto 10 = .ok (.iload_n 3, 1) := by decide +kernel
theorem dX4_pressInto_11 : decode cX4_pressInto 11 = .ok (.invokestatic 76, 3) := by decide +kernel
theorem dX4_pressInto_14 : decode cX4_pressInto 14 = .ok (.iload_n 1, 1) := by decide +kernel
theorem dX4_pressInto_15 : decode cX4_pressInto 15 = .ok (.aload_n 0, 1) := by decide +kernel
theorem dX4_pressInto_16 : decode cX4_pressInto 16 = .ok (.getfield 11, 3) := by decide +kernel
theorem dX4_pressInto_19 : decode cX4_pressInto 19 = .ok (.iconst 0, 1) := by decide +kernel
theorem dX4_pressInto_20 : decode cX4_pressInto 20 = .ok (.iaload, 1) := by decide +kernel
theorem dX4_pressInto_21 : decode cX4_pressInto 21 = .ok (.if_icmp .le 20, 3) := by decide +kernel
theorem dX4_pressInto_24 : decode cX4_pressInto 24 = .ok (.aload_n 0, 1) := by decide +kernel
theorem dX4_pressInto_25 : decode cX4_pressInto 25 = .ok (.getfield 25, 3) := by decide +kernel
theorem dX4_pressInto_28 : decode cX4_pressInto 28 = .ok (.iload_n 1, 1) := by decide +kernel
theorem dX4_pressInto_29 : decode cX4_pressInto 29 = .ok (.iconst 1, 1) := by decide +kernel
theorem dX4_pressInto_30 : decode cX4_pressInto 30 = .ok (.isub, 1) := by decide +kernel
theorem dX4_pressInto_31 : decode cX4_pressInto 31 = .ok (.ishr, 1) := by decide +kernel
theorem dX4_pressInto_32 : decode cX4_pressInto 32 = .ok (.iconst 1, 1) := by decide +kernel
theorem dX4_pressInto_33 : decode cX4_pressInto 33 = .ok (.iand, 1) := by decide +kernel
theorem dX4_pressInto_34 : decode cX4_pressInto 34 = .ok (.ifCond .eq 7, 3) := by decide +kernel
theorem dX4_pressInto_37 : decode cX4_pressInto 37 = .ok (.iconst 1, 1) := by decide +kernel
theorem dX4_pressInto_38 : decode cX4_pressInto 38 = .ok (.goto 4, 3) := by decide +kernel
theorem dX4_pressInto_41 : decode cX4_pressInto 41 = .ok (.iconst 0, 1) := by decide +kernel
theorem dX4_pressInto_42 : decode cX4_pressInto 42 = .ok (.istore 4, 2) := by decide +kernel
theorem dX4_pressInto_44 : decode cX4_pressInto 44 = .ok (.iload 4, 2) := by decide +kernel
theorem dX4_pressInto_46 : decode cX4_pressInto 46 = .ok (.ifCond .eq 22, 3) := by decide +kernel
theorem dX4_pressInto_49 : decode cX4_pressInto 49 = .ok (.iload_n 3, 1) := by decide +kernel
theorem dX4_pressInto_50 : decode cX4_pressInto 50 = .ok (.iconst 2, 1) := by decide +kernel
theorem dX4_pressInto_51 : decode cX4_pressInto 51 = .ok (.if_icmp .lt 17, 3) := by decide +kernel
theorem dX4_pressInto_54 : decode cX4_pressInto 54 = .ok (.aload_n 0, 1) := by decide +kernel
theorem dX4_pressInto_55 : decode cX4_pressInto 55 = .ok (.getfield 11, 3) := by decide +kernel
theorem dX4_pressInto_58 : decode cX4_pressInto 58 = .ok (.iload_n 1, 1) := by decide +kernel
theorem dX4_pressInto_59 : decode cX4_pressInto 59 = .ok (.iconst 1, 1) := by decide +kernel
theorem dX4_pressInto_60 : decode cX4_pressInto 60 = .ok (.invokestatic 55, 3) := by decide +kernel
theorem dX4_pressInto_63 : decode cX4_pressInto 63 = .ok (.dup2, 1) := by decide +kernel
theorem dX4_pressInto_64 : decode cX4_pressInto 64 = .ok (.iaload, 1) := by decide +kernel
theorem dX4_pressInto_65 : decode cX4_pressInto 65 = .ok (.iload_n 2, 1) := by decide +kernel
theorem dX4_pressInto_66 : decode cX4_pressInto 66 = .ok (.ior, 1) := by decide +kernel
theorem dX4_pressInto_67 : decode cX4_pressInto 67 = .ok (.iastore, 1) := by decide +kernel
theorem dX4_pressInto_68 : decode cX4_pressInto 68 = .ok (.return_, 1) := by decide +kernel
theorem dX4_putNote_0 : decode cX4_putNote 0 = .ok (.aload_n 0, 1) := by decide +kernel
theorem dX4_putNote_1 : decode cX4_putNote 1 = .ok (.getfield 11, 3) := by decide +kernel
theorem dX4_putNote_4 : decode cX4_putNote 4 = .ok (.iconst 1, 1) := by decide +kernel
theorem dX4_putNote_5 : decode cX4_putNote 5 = .ok (.iaload, 1) := by decide +kernel
theorem dX4_putNote_6 : decode cX4_putNote 6 = .ok (.istore 5, 2) := by decide +kernel
theorem dX4_putNote_8 : decode cX4_putNote 8 = .ok (.aload_n 0, 1) := by decide +kernel
theorem dX4_putNote_9 : decode cX4_putNote 9 = .ok (.getfield 11, 3) := by decide +kernel
theorem dX4_putNote_12 : decode cX4_putNote 12 = .ok (.iconst 0, 1) := by decide +kernel
theorem dX4_putNote_13 : decode cX4_putNote 13 = .ok (.iaload, 1) := by decide +kernel
theorem dX4_putNote_14 : decode cX4_putNote 14 = .ok (.istore 6, 2) := by decide +kernel
theorem dX4_putNote_16 : decode cX4_putNote 16 = .ok (.iload 5, 2) := by decide +kernel
theorem dX4_putNote_18 : decode cX4_putNote 18 = .ok (.bipush 10, 2) := by decide +kernel
theorem dX4_putNote_20 : decode cX4_putNote 20 = .ok (.if_icmp .ge 12, 3) := by decide +kernel
theorem dX4_putNote_23 : decode cX4_putNote 23 = .ok (.iload 6, 2) := by decide +kernel
theorem dX4_putNote_25 : decode cX4_putNote 25 = .ok (.aload_n 0, 1) := by decide +kernel
theorem dX4_putNote_26 : decode cX4_putNote 26 = .ok (.getfield 22, 3) := by decide +kernel
theorem dX4_putNote_29 : decode cX4_putNote 29 = .ok (.if_icmp .lt 5, 3) := by decide +kernel
theorem dX4_putNote_32 : decode cX4_putNote 32 = .ok (.iconst (-1), 1) := by decide +kernel
theorem dX4_putNote_33 : decode cX4_putNote 33 = .ok (.ireturn, 1) := by decide +kernel
theorem dX4_putNote_34 : decode cX4_putNote 34 = .ok (.aload_n 0, 1) := by decide +kernel
theorem dX4_putNote_35 : decode cX4_putNote 35 = .ok (.getfield 28, 3) := by decide +kernel
theorem dX4_putNote_38 : decode cX4_putNote 38 = .ok (.iload 5, 2) := by decide +kernel
theorem dX4_putNote_40 : decode cX4_putNote 40 = .ok (.iload_n 2, 1) := by decide +kernel
theorem dX4_putNote_41 : decode cX4_putNote 41 = .ok (.iastore, 1) := by decide +kernel
theorem dX4_putNote_42 : decode cX4_putNote 42 = .ok (.aload_n 0, 1) := by decide +kernel
theorem dX4_putNote_43 : decode cX4_putNote 43 = .ok (.getfield 31, 3) := by decide +kernel
theorem dX4_putNote_46 : decode cX4_putNote 46 = .ok (.iload 5, 2) := by decide +kernel
theorem dX4_putNote_48 : decode cX4_putNote 48 = .ok (.iload_n 3, 1) := by decide +kernel
theorem dX4_putNote_49 : decode cX4_putNote 49 = .ok (.iastore, 1) := by decide +kernel
theorem dX4_putNote_50 : decode cX4_putNote 50 = .ok (.aload_n 0, 1) := by decide +kernel
theorem dX4_putNote_51 : decode cX4_putNote 51 = .ok (.getfield 34, 3) := by decide +kernel
theorem dX4_putNote_54 : decode cX4_putNote 54 = .ok (.iload 5, 2) := by decide +kernel
theorem dX4_putNote_56 : decode cX4_putNote 56 = .ok (.iload 4, 2) := by decide +kernel
theorem dX4_putNote_58 : decode cX4_putNote 58 = .ok (.iastore, 1) := by decide +kernel
theorem dX4_putNote_59 : decode cX4_putNote 59 = .ok (.aload_n 0, 1) := by decide +kernel
theorem dX4_putNote_60 : decode cX4_putNote 60 = .ok (.getfield 37, 3) := by decide +kernel
theorem dX4_putNote_63 : decode cX4_putNote 63 = .ok (.iload 5, 2) := by decide +kernel
theorem dX4_putNote_65 : decode cX4_putNote 65 = .ok (.iload 6, 2) := by decide +kernel
theorem dX4_putNote_67 : decode cX4_putNote 67 = .ok (.iastore, 1) := by decide +kernel
theorem dX4_putNote_68 : decode cX4_putNote 68 = .ok (.iconst 0, 1) := by decide +kernel
theorem dX4_putNote_69 : decode cX4_putNote 69 = .ok (.istore 7, 2) := by decide +kernel
theorem dX4_putNote_71 : decode cX4_putNote 71 = .ok (.iload 7, 2) := by decide +kernel
theorem dX4_putNote_73 : decode cX4_putNote 73 = .ok (.bipush 6, 2) := by decide +kernel
theorem dX4_putNote_75 : decode cX4_putNote 75 = .ok (.if_icmp .ge 30, 3) := by decide +kernel
theorem dX4_putNote_78 : decode cX4_putNote 78 = .ok (.aload_n 0, 1) := by decide +kernel
theorem dX4_putNote_79 : decode cX4_putNote 79 = .ok (.getfield 40, 3) := by decide +kernel
theorem dX4_putNote_82 : decode cX4_putNote 82 = .ok (.iload 5, 2) := by decide +kernel
theorem dX4_putNote_84 : decode cX4_putNote 84 = .ok (.bipush 6, 2) := by decide +kernel
theorem dX4_putNote_86 : decode cX4_putNote 86 = .ok (.imul, 1) := by decide +kernel
theorem dX4_putNote_87 : decode cX4_putNote 87 = .ok (.iload 7, 2) := by decide +kernel
theorem dX4_putNote_89 : decode cX4_putNote 89 = .ok (.iadd, 1) := by decide +kernel
theorem dX4_putNote_90 : decode cX4_putNote 90 = .ok (.aload_n 1, 1) := by decide +kernel
theorem dX4_putNote_91 : decode cX4_putNote 91 = .ok (.iload_n 2, 1) := by decide +kernel
theorem dX4_putNote_92 : decode cX4_putNote 92 = .ok (.iload_n 3, 1) := by decide +kernel
theorem dX4_putNote_93 : decode cX4_putNote 93 = .ok (.iload 7, 2) := by decide +kernel
theorem dX4_putNote_95 : decode cX4_putNote 95 = .ok (.invokevirtual 59, 3) := by decide +kernel
theorem dX4_putNote_98 : decode cX4_putNote 98 = .ok (.iastore, 1) := by decide +kernel
theorem dX4_putNote_99 : decode cX4_putNote 99 = .ok (.iinc 7 1, 3) := by decide +kernel
theorem dX4_putNote_102 : decode cX4_putNote 102 = .ok (.goto (-31), 3) := by decide +kernel
theorem dX4_putNote_105 : decode cX4_putNote 105 = .ok (.aload_n 0, 1) := by decide +kernel
theorem dX4_putNote_106 : decode cX4_putNote 106 = .ok (.getfield 11, 3) := by decide +kernel
theorem dX4_putNote_109 : decode cX4_putNote 109 = .ok (.iconst 1, 1) := by decide +kernel
theorem dX4_putNote_110 : decode cX4_putNote 110 = .ok (.iload 5, 2) := by decide +kernel
theorem dX4_putNote_112 : decode cX4_putNote 112 = .ok (.iconst 1, 1) := by decide +kernel
theorem dX4_putNote_113 : decode cX4_putNote 113 = .ok (.iadd, 1) := by decide +kernel
theorem dX4_putNote_114 : decode cX4_putNote 114 = .ok (.iastore, 1) := by decide +kernel
theorem dX4_putNote_115 : decode cX4_putNote 115 = .ok (.aload_n 1, 1) := by decide +kernel
theorem dX4_putNote_116 : decode cX4_putNote 116 = .ok (.iload_n 2, 1) := by decide +kernel
theorem dX4_putNote_117 : decode cX4_putNote 117 = .ok (.invokevirtual 65, 3) := by decide +kernel
theorem dX4_putNote_120 : decode cX4_putNote 120 = .ok (.ifCond .eq 19, 3) := by decide +kernel
theorem dX4_putNote_123 : decode cX4_putNote 123 = .ok (.aload_n 0, 1) := by decide +kernel
theorem dX4_putNote_124 : decode cX4_putNote 124 = .ok (.getfield 11, 3) := by decide +kernel
theorem dX4_putNote_127 : decode cX4_putNote 127 = .ok (.iload 6, 2) := by decide +kernel
theorem dX4_putNote_129 : decode cX4_putNote 129 = .ok (.iconst 0, 1) := by decide +kernel
theorem dX4_putNote_130 : decode cX4_putNote 130 = .ok (.invokestatic 55, 3) := by decide +kernel
theorem dX4_putNote_133 : decode cX4_putNote 133 = .ok (.dup2, 1) := by decide +kernel
theorem dX4_putNote_134 : decode cX4_putNote 134 = .ok (.iaload, 1) := by decide +kernel
theorem dX4_putNote_135 : decode cX4_putNote 135 = .ok (.iload 4, 2) := by decide +kernel
theorem dX4_putNote_137 : decode cX4_putNote 137 = .ok (.ior, 1) := by decide +kernel
theorem dX4_putNote_138 : decode cX4_putNote 138 = .ok (.iastore, 1) := by decide +kernel
theorem dX4_putNote_139 : decode cX4_putNote 139 = .ok (.iload 6, 2) := by decide +kernel
theorem dX4_putNote_141 : decode cX4_putNote 141 = .ok (.istore 7, 2) := by decide +kernel
theorem dX4_putNote_143 : decode cX4_putNote 143 = .ok (.iload 7, 2) := by decide +kernel
theorem dX4_putNote_145 : decode cX4_putNote 145 = .ok (.aload_n 0, 1) := by decide +kernel
theorem dX4_putNote_146 : decode cX4_putNote 146 = .ok (.getfield 22, 3) := by decide +kernel
theorem dX4_putNote_149 : decode cX4_putNote 149 = .ok (.if_icmp .ge 25, 3) := by decide +kernel
theorem dX4_putNote_152 : decode cX4_putNote 152 = .ok (.aload_n 0, 1) := by decide +kernel
theorem dX4_putNote_153 : decode cX4_putNote 153 = .ok (.iload 7, 2) := by decide +kernel
theorem dX4_putNote_155 : decode cX4_putNote 155 = .ok (.iload 4, 2) := by decide +kernel
theorem dX4_putNote_157 : decode cX4_putNote 157 = .ok (.aload_n 0, 1) := by decide +kernel
theorem dX4_putNote_158 : decode cX4_putNote 158 = .ok (.iload 5, 2) := by decide +kernel
theorem dX4_putNote_160 : decode cX4_putNote 160 = .ok (.iload 7, 2) := by decide +kernel
theorem dX4_putNote_162 : decode cX4_putNote 162 = .ok (.invokevirtual 69, 3) := by decide +kernel
theorem dX4_putNote_165 : decode cX4_putNote 165 = .ok (.invokevirtual 72, 3) := by decide +kernel
theorem dX4_putNote_168 : decode cX4_putNote 168 = .ok (.iinc 7 1, 3) := by decide +kernel
theorem dX4_putNote_171 : decode cX4_putNote 171 = .ok (.goto (-28), 3) := by decide +kernel
theorem dX4_putNote_174 : decode cX4_putNote 174 = .ok (.iload 5, 2) := by decide +kernel
theorem dX4_putNote_176 : decode cX4_putNote 176 = .ok (.ireturn, 1) := by decide +kernel
theorem dX4_writtenOn_0 : decode cX4_writtenOn 0 = .ok (.iconst 0, 1) := by decide +kernel
theorem dX4_writtenOn_1 : decode cX4_writtenOn 1 = .ok (.istore_n 2, 1) := by decide +kernel
theorem dX4_writtenOn_2 : decode cX4_writtenOn 2 = .ok (.iconst 0, 1) := by decide +kernel
theorem dX4_writtenOn_3 : decode cX4_writtenOn 3 = .ok (.istore_n 3, 1) := by decide +kernel
theorem dX4_writtenOn_4 : decode cX4_writtenOn 4 = .ok (.iload_n 3, 1) := by decide +kernel
theorem dX4_writtenOn_5 : decode cX4_writtenOn 5 = .ok (.aload_n 0, 1) := by decide +kernel
theorem dX4_writtenOn_6 : decode cX4_writtenOn 6 = .ok (.getfield 11, 3) := by decide +kernel
theorem dX4_writtenOn_9 : decode cX4_writtenOn 9 = .ok (.iconst 1, 1) := by decide +kernel
theorem dX4_writtenOn_10 : decode cX4_writtenOn 10 = .ok (.iaload, 1) := by decide +kernel
theorem dX4_writtenOn_11 : decode cX4_writtenOn 11 = .ok (.if_icmp .ge 25, 3) := by decide +kernel
theorem dX4_writtenOn_14 : decode cX4_writtenOn 14 = .ok (.aload_n 0, 1) := by decide +kernel
theorem dX4_writtenOn_15 : decode cX4_writtenOn 15 = .ok (.getfield 37, 3) := by decide +kernel
theorem dX4_writtenOn_18 : decode cX4_writtenOn 18 = .ok (.iload_n 3, 1) := by decide +kernel
theorem dX4_writtenOn_19 : decode cX4_writtenOn 19 = .ok (.iaload, 1) := by decide +kernel
theorem dX4_writtenOn_20 : decode cX4_writtenOn 20 = .ok (.iload_n 1, 1) := by decide +kernel
theorem dX4_writtenOn_21 : decode cX4_writtenOn 21 = .ok (.if_icmp .ne 9, 3) := by decide +kernel
theorem dX4_writtenOn_24 : decode cX4_writtenOn 24 = .ok (.iload_n 2, 1) := by decide +kernel
theorem dX4_writtenOn_25 : decode cX4_writtenOn 25 = .ok (.iconst 1, 1) := by decide +kernel
theorem dX4_writtenOn_26 : decode cX4_writtenOn 26 = .ok (.iload_n 3, 1) := by decide +kernel
theorem dX4_writtenOn_27 : decode cX4_writtenOn 27 = .ok (.ishl, 1) := by decide +kernel
theorem dX4_writtenOn_28 : decode cX4_writtenOn 28 = .ok (.ior, 1) := by decide +kernel
theorem dX4_writtenOn_29 : decode cX4_writtenOn 29 = .ok (.istore_n 2, 1) := by decide +kernel
theorem dX4_writtenOn_30 : decode cX4_writtenOn 30 = .ok (.iinc 3 1, 3) := by decide +kernel
theorem dX4_writtenOn_33 : decode cX4_writtenOn 33 = .ok (.goto (-29), 3) := by decide +kernel
theorem dX4_writtenOn_36 : decode cX4_writtenOn 36 = .ok (.iload_n 2, 1) := by decide +kernel
theorem dX4_writtenOn_37 : decode cX4_writtenOn 37 = .ok (.ireturn, 1) := by decide +kernel
theorem dX4_cellsDented_0 : decode cX4_cellsDented 0 = .ok (.aload_n 0, 1) := by decide +kernel
theorem dX4_cellsDented_1 : decode cX4_cellsDented 1 = .ok (.iload_n 1, 1) := by decide +kernel
theorem dX4_cellsDented_2 : decode cX4_cellsDented 2 = .ok (.iload_n 2, 1) := by decide +kernel
theorem dX4_cellsDented_3 : decode cX4_cellsDented 3 = .ok (.invokevirtual 69, 3) := by decide +kernel
theorem dX4_cellsDented_6 : decode cX4_cellsDented 6 = .ok (.ifCond .le 12, 3) := by decide +kernel
theorem dX4_cellsDented_9 : decode cX4_cellsDented 9 = .ok (.aload_n 0, 1) := by decide +kernel
theorem dX4_cellsDented_10 : decode cX4_cellsDented 10 = .ok (.getfield 34, 3) := by decide +kernel
theorem dX4_cellsDented_13 : decode cX4_cellsDented 13 = .ok (.iload_n 1, 1) := by decide +kernel
theorem dX4_cellsDented_14 : decode cX4_cellsDented 14 = .ok (.iaload, 1) := by decide +kernel
theorem dX4_cellsDented_15 : decode cX4_cellsDented 15 = .ok (.goto 4, 3) := by decide +kernel
theorem dX4_cellsDented_18 : decode cX4_cellsDented 18 = .ok (.iconst 0, 1) := by decide +kernel
theorem dX4_cellsDented_19 : decode cX4_cellsDented 19 = .ok (.ireturn, 1) := by decide +kernel
theorem dX4_dentedBy_0 : decode cX4_dentedBy 0 = .ok (.iconst 0, 1) := by decide +kernel
theorem dX4_dentedBy_1 : decode cX4_dentedBy 1 = .ok (.istore_n 2, 1) := by decide +kernel
theorem dX4_dentedBy_2 : decode cX4_dentedBy 2 = .ok (.iconst 0, 1) := by decide +kernel
theorem dX4_dentedBy_3 : decode cX4_dentedBy 3 = .ok (.istore_n 3, 1) := by decide +kernel
theorem dX4_dentedBy_4 : decode cX4_dentedBy 4 = .ok (.iload_n 3, 1) := by decide +kernel
theorem dX4_dentedBy_5 : decode cX4_dentedBy 5 = .ok (.aload_n 0, 1) := by decide +kernel
theorem dX4_dentedBy_6 : decode cX4_dentedBy 6 = .ok (.getfield 11, 3) := by decide +kernel
theorem dX4_dentedBy_9 : decode cX4_dentedBy 9 = .ok (.iconst 1, 1) := by decide +kernel
theorem dX4_dentedBy_10 : decode cX4_dentedBy 10 = .ok (.iaload, 1) := by decide +kernel
theorem dX4_dentedBy_11 : decode cX4_dentedBy 11 = .ok (.if_icmp .ge 24, 3) := by decide +kernel
theorem dX4_dentedBy_14 : decode cX4_dentedBy 14 = .ok (.aload_n 0, 1) := by decide +kernel
theorem dX4_dentedBy_15 : decode cX4_dentedBy 15 = .ok (.iload_n 3, 1) := by decide +kernel
theorem dX4_dentedBy_16 : decode cX4_dentedBy 16 = .ok (.iload_n 1, 1) := by decide +kernel
theorem dX4_dentedBy_17 : decode cX4_dentedBy 17 = .ok (.invokevirtual 83, 3) := by decide +kernel
theorem dX4_dentedBy_20 : decode cX4_dentedBy 20 = .ok (.ifCond .eq 9, 3) := by decide +kernel
theorem dX4_dentedBy_23 : decode cX4_dentedBy 23 = .ok (.iload_n 2, 1) := by decide +kernel
theorem dX4_dentedBy_24 : decode cX4_dentedBy 24 = .ok (.iconst 1, 1) := by decide +kernel
theorem dX4_dentedBy_25 : decode cX4_dentedBy 25 = .ok (.iload_n 3, 1) := by decide +kernel
theorem dX4_dentedBy_26 : decode cX4_dentedBy 26 = .ok (.ishl, 1) := by decide +kernel
theorem dX4_dentedBy_27 : decode cX4_dentedBy 27 = .ok (.ior, 1) := by decide +kernel
theorem dX4_dentedBy_28 : decode cX4_dentedBy 28 = .ok (.istore_n 2, 1) := by decide +kernel
theorem dX4_dentedBy_29 : decode cX4_dentedBy 29 = .ok (.iinc 3 1, 3) := by decide +kernel
theorem dX4_dentedBy_32 : decode cX4_dentedBy 32 = .ok (.goto (-28), 3) := by decide +kernel
theorem dX4_dentedBy_35 : decode cX4_dentedBy 35 = .ok (.iload_n 2, 1) := by decide +kernel
theorem dX4_dentedBy_36 : decode cX4_dentedBy 36 = .ok (.ireturn, 1) := by decide +kernel
theorem dX4_dentedAtLeast_0 : decode cX4_dentedAtLeast 0 = .ok (.iconst 0, 1) := by decide +kernel
theorem dX4_dentedAtLeast_1 : decode cX4_dentedAtLeast 1 = .ok (.istore_n 3, 1) := by decide +kernel
theorem dX4_dentedAtLeast_2 : decode cX4_dentedAtLeast 2 = .ok (.iconst 0, 1) := by decide +kernel
theorem dX4_dentedAtLeast_3 : decode cX4_dentedAtLeast 3 = .ok (.istore 4, 2) := by decide +kernel
theorem dX4_dentedAtLeast_5 : decode cX4_dentedAtLeast 5 = .ok (.iload 4, 2) := by decide +kernel
theorem dX4_dentedAtLeast_7 : decode cX4_dentedAtLeast 7 = .ok (.bipush 12, 2) := by decide +kernel
theorem dX4_dentedAtLeast_9 : decode cX4_dentedAtLeast 9 = .ok (.if_icmp .ge 27, 3) := by decide +kernel
theorem dX4_dentedAtLeast_12 : decode cX4_dentedAtLeast 12 = .ok (.aload_n 0, 1) := by decide +kernel
theorem dX4_dentedAtLeast_13 : decode cX4_dentedAtLeast 13 = .ok (.iload_n 1, 1) := by decide +kernel
theorem dX4_dentedAtLeast_14 : decode cX4_dentedAtLeast 14 = .ok (.iload 4, 2) := by decide +kernel
theorem dX4_dentedAtLeast_16 : decode cX4_dentedAtLeast 16 = .ok (.invokevirtual 86, 3) := by decide +kernel
theorem dX4_dentedAtLeast_19 : decode cX4_dentedAtLeast 19 = .ok (.iload_n 2, 1) := by decide +kernel
theorem dX4_dentedAtLeast_20 : decode cX4_dentedAtLeast 20 = .ok (.if_icmp .lt 10, 3) := by decide +kernel
theorem dX4_dentedAtLeast_23 : decode cX4_dentedAtLeast 23 = .ok (.iload_n 3, 1) := by decide +kernel
theorem dX4_dentedAtLeast_24 : decode cX4_dentedAtLeast 24 = .ok (.iconst 1, 1) := by decide +kernel
theorem dX4_dentedAtLeast_25 : decode cX4_dentedAtLeast 25 = .ok (.iload 4, 2) := by decide +kernel
theorem dX4_dentedAtLeast_27 : decode cX4_dentedAtLeast 27 = .ok (.ishl, 1) := by decide +kernel
theorem dX4_dentedAtLeast_28 : decode cX4_dentedAtLeast 28 = .ok (.ior, 1) := by decide +kernel
theorem dX4_dentedAtLeast_29 : decode cX4_dentedAtLeast 29 = .ok (.istore_n 3, 1) := by decide +kernel
theorem dX4_dentedAtLeast_30 : decode cX4_dentedAtLeast 30 = .ok (.iinc 4 1, 3) := by decide +kernel
theorem dX4_dentedAtLeast_33 : decode cX4_dentedAtLeast 33 = .ok (.goto (-28), 3) := by decide +kernel
theorem dX4_dentedAtLeast_36 : decode cX4_dentedAtLeast 36 = .ok (.iload_n 3, 1) := by decide +kernel
theorem dX4_dentedAtLeast_37 : decode cX4_dentedAtLeast 37 = .ok (.ireturn, 1) := by decide +kernel
theorem dX4_digestFrom_0 : decode cX4_digestFrom 0 = .ok (.lload_n 1, 1) := by decide +kernel
theorem dX4_digestFrom_1 : decode cX4_digestFrom 1 = .ok (.lstore_n 3, 1) := by decide +kernel
theorem dX4_digestFrom_2 : decode cX4_digestFrom 2 = .ok (.aload_n 0, 1) := by decide +kernel
theorem dX4_digestFrom_3 : decode cX4_digestFrom 3 = .ok (.getfield 22, 3) := by decide +kernel
theorem dX4_digestFrom_6 : decode cX4_digestFrom 6 = .ok (.iconst 0, 1) := by decide +kernel
theorem dX4_digestFrom_7 : decode cX4_digestFrom 7 = .ok (.invokestatic 55, 3) := by decide +kernel
theorem dX4_digestFrom_10 : decode cX4_digestFrom 10 = .ok (.istore 5, 2) := by decide +kernel
theorem dX4_digestFrom_12 : decode cX4_digestFrom 12 = .ok (.iconst 2, 1) := by decide +kernel
theorem dX4_digestFrom_13 : decode cX4_digestFrom 13 = .ok (.istore 6, 2) := by decide +kernel
theorem dX4_digestFrom_15 : decode cX4_digestFrom 15 = .ok (.iload 6, 2) := by decide +kernel
theorem dX4_digestFrom_17 : decode cX4_digestFrom 17 = .ok (.iload 5, 2) := by decide +kernel
theorem dX4_digestFrom_19 : decode cX4_digestFrom 19 = .ok (.if_icmp .ge 31, 3) := by decide +kernel
theorem dX4_digestFrom_22 : decode cX4_digestFrom 22 = .ok (.iload 6, 2) := by decide +kernel
theorem dX4_digestFrom_24 : decode cX4_digestFrom 24 = .ok (.bipush 86, 2) := by decide +kernel
theorem dX4_digestFrom_26 : decode cX4_digestFrom 26 = .ok (.if_icmp .ge 24, 3) := by decide +kernel
theorem dX4_digestFrom_29 : decode cX4_digestFrom 29 = .ok (.ldc2_w 89, 3) := by decide +kernel
theorem dX4_digestFrom_32 : decode cX4_digestFrom 32 = .ok (.lload_n 3, 1) := by decide +kernel
theorem dX4_digestFrom_33 : decode cX4_digestFrom 33 = .ok (.lmul, 1) := by decide +kernel
theorem dX4_digestFrom_34 : decode cX4_digestFrom 34 = .ok (.aload_n 0, 1) := by decide +kernel
theorem dX4_digestFrom_35 : decode cX4_digestFrom 35 = .ok (.getfield 11, 3) := by decide +kernel
theorem dX4_digestFrom_38 : decode cX4_digestFrom 38 = .ok (.iload 6, 2) := by decide +kernel
theorem dX4_digestFrom_40 : decode cX4_digestFrom 40 = .ok (.iaload, 1) := by decide +kernel
theorem dX4_digestFrom_41 : decode cX4_digestFrom 41 = .ok (.i2l, 1) := by decide +kernel
theorem dX4_digestFrom_42 : decode cX4_digestFrom 42 = .ok (.ladd, 1) := by decide +kernel
theorem dX4_digestFrom_43 : decode cX4_digestFrom 43 = .ok (.lstore_n 3, 1) := by decide +kernel
theorem dX4_digestFrom_44 : decode cX4_digestFrom 44 = .ok (.iinc 6 1, 3) := by decide +kernel
theorem dX4_digestFrom_47 : decode cX4_digestFrom 47 = .ok (.goto (-32), 3) := by decide +kernel
theorem dX4_digestFrom_50 : decode cX4_digestFrom 50 = .ok (.iconst 0, 1) := by decide +kernel
theorem dX4_digestFrom_51 : decode cX4_digestFrom 51 = .ok (.istore 6, 2) := by decide +kernel
theorem dX4_digestFrom_53 : decode cX4_digestFrom 53 = .ok (.iload 6, 2) := by decide +kernel
theorem dX4_digestFrom_55 : decode cX4_digestFrom 55 = .ok (.aload_n 0, 1) := by decide +kernel
theorem dX4_digestFrom_56 : decode cX4_digestFrom 56 = .ok (.getfield 11, 3) := by decide +kernel
theorem dX4_digestFrom_59 : decode cX4_digestFrom 59 = .ok (.iconst 1, 1) := by decide +kernel
theorem dX4_digestFrom_60 : decode cX4_digestFrom 60 = .ok (.iaload, 1) := by decide +kernel
theorem dX4_digestFrom_61 : decode cX4_digestFrom 61 = .ok (.if_icmp .ge 69, 3) := by decide +kernel
theorem dX4_digestFrom_64 : decode cX4_digestFrom 64 = .ok (.ldc2_w 89, 3) := by decide +kernel
theorem dX4_digestFrom_67 : decode cX4_digestFrom 67 = .ok (.lload_n 3, 1) := by decide +kernel
theorem dX4_digestFrom_68 : decode cX4_digestFrom 68 = .ok (.lmul, 1) := by decide +kernel
theorem dX4_digestFrom_69 : decode cX4_digestFrom 69 = .ok (.aload_n 0, 1) := by decide +kernel
theorem dX4_digestFrom_70 : decode cX4_digestFrom 70 = .ok (.getfield 28, 3) := by decide +kernel
theorem dX4_digestFrom_73 : decode cX4_digestFrom 73 = .ok (.iload 6, 2) := by decide +kernel
theorem dX4_digestFrom_75 : decode cX4_digestFrom 75 = .ok (.iaload, 1) := by decide +kernel
theorem dX4_digestFrom_76 : decode cX4_digestFrom 76 = .ok (.i2l, 1) := by decide +kernel
theorem dX4_digestFrom_77 : decode cX4_digestFrom 77 = .ok (.ladd, 1) := by decide +kernel
theorem dX4_digestFrom_78 : decode cX4_digestFrom 78 = .ok (.lstore_n 3, 1) := by decide +kernel
theorem dX4_digestFrom_79 : decode cX4_digestFrom 79 = .ok (.ldc2_w 89, 3) := by decide +kernel
theorem dX4_digestFrom_82 : decode cX4_digestFrom 82 = .ok (.lload_n 3, 1) := by decide +kernel
theorem dX4_digestFrom_83 : decode cX4_digestFrom 83 = .ok (.lmul, 1) := by decide +kernel
theorem dX4_digestFrom_84 : decode cX4_digestFrom 84 = .ok (.aload_n 0, 1) := by decide +kernel
theorem dX4_digestFrom_85 : decode cX4_digestFrom 85 = .ok (.getfield 31, 3) := by decide +kernel
theorem dX4_digestFrom_88 : decode cX4_digestFrom 88 = .ok (.iload 6, 2) := by decide +kernel
theorem dX4_digestFrom_90 : decode cX4_digestFrom 90 = .ok (.iaload, 1) := by decide +kernel
theorem dX4_digestFrom_91 : decode cX4_digestFrom 91 = .ok (.i2l, 1) := by decide +kernel
theorem dX4_digestFrom_92 : decode cX4_digestFrom 92 = .ok (.ladd, 1) := by decide +kernel
theorem dX4_digestFrom_93 : decode cX4_digestFrom 93 = .ok (.lstore_n 3, 1) := by decide +kernel
theorem dX4_digestFrom_94 : decode cX4_digestFrom 94 = .ok (.ldc2_w 89, 3) := by decide +kernel
theorem dX4_digestFrom_97 : decode cX4_digestFrom 97 = .ok (.lload_n 3, 1) := by decide +kernel
theorem dX4_digestFrom_98 : decode cX4_digestFrom 98 = .ok (.lmul, 1) := by decide +kernel
theorem dX4_digestFrom_99 : decode cX4_digestFrom 99 = .ok (.aload_n 0, 1) := by decide +kernel
theorem dX4_digestFrom_100 : decode cX4_digestFrom 100 = .ok (.getfield 34, 3) := by decide +kernel
theorem dX4_digestFrom_103 : decode cX4_digestFrom 103 = .ok (.iload 6, 2) := by decide +kernel
theorem dX4_digestFrom_105 : decode cX4_digestFrom 105 = .ok (.iaload, 1) := by decide +kernel
theorem dX4_digestFrom_106 : decode cX4_digestFrom 106 = .ok (.i2l, 1) := by decide +kernel
theorem dX4_digestFrom_107 : decode cX4_digestFrom 107 = .ok (.ladd, 1) := by decide +kernel
theorem dX4_digestFrom_108 : decode cX4_digestFrom 108 = .ok (.lstore_n 3, 1) := by decide +kernel
theorem dX4_digestFrom_109 : decode cX4_digestFrom 109 = .ok (.ldc2_w 89, 3) := by decide +kernel
theorem dX4_digestFrom_112 : decode cX4_digestFrom 112 = .ok (.lload_n 3, 1) := by decide +kernel
theorem dX4_digestFrom_113 : decode cX4_digestFrom 113 = .ok (.lmul, 1) := by decide +kernel
theorem dX4_digestFrom_114 : decode cX4_digestFrom 114 = .ok (.aload_n 0, 1) := by decide +kernel
theorem dX4_digestFrom_115 : decode cX4_digestFrom 115 = .ok (.getfield 37, 3) := by decide +kernel
theorem dX4_digestFrom_118 : decode cX4_digestFrom 118 = .ok (.iload 6, 2) := by decide +kernel
theorem dX4_digestFrom_120 : decode cX4_digestFrom 120 = .ok (.iaload, 1) := by decide +kernel
theorem dX4_digestFrom_121 : decode cX4_digestFrom 121 = .ok (.i2l, 1) := by decide +kernel
theorem dX4_digestFrom_122 : decode cX4_digestFrom 122 = .ok (.ladd, 1) := by decide +kernel
theorem dX4_digestFrom_123 : decode cX4_digestFrom 123 = .ok (.lstore_n 3, 1) := by decide +kernel
theorem dX4_digestFrom_124 : decode cX4_digestFrom 124 = .ok (.iinc 6 1, 3) := by decide +kernel
theorem dX4_digestFrom_127 : decode cX4_digestFrom 127 = .ok (.goto (-74), 3) := by decide +kernel
theorem dX4_digestFrom_130 : decode cX4_digestFrom 130 = .ok (.iconst 0, 1) := by decide +kernel
theorem dX4_digestFrom_131 : decode cX4_digestFrom 131 = .ok (.istore 6, 2) := by decide +kernel
theorem dX4_digestFrom_133 : decode cX4_digestFrom 133 = .ok (.iload 6, 2) := by decide +kernel
theorem dX4_digestFrom_135 : decode cX4_digestFrom 135 = .ok (.aload_n 0, 1) := by decide +kernel
theorem dX4_digestFrom_136 : decode cX4_digestFrom 136 = .ok (.getfield 46, 3) := by decide +kernel
theorem dX4_digestFrom_139 : decode cX4_digestFrom 139 = .ok (.if_icmp .ge 24, 3) := by decide +kernel
theorem dX4_digestFrom_142 : decode cX4_digestFrom 142 = .ok (.ldc2_w 89, 3) := by decide +kernel
theorem dX4_digestFrom_145 : decode cX4_digestFrom 145 = .ok (.lload_n 3, 1) := by decide +kernel
theorem dX4_digestFrom_146 : decode cX4_digestFrom 146 = .ok (.lmul, 1) := by decide +kernel
theorem dX4_digestFrom_147 : decode cX4_digestFrom 147 = .ok (.aload_n 0, 1) := by decide +kernel
theorem dX4_digestFrom_148 : decode cX4_digestFrom 148 = .ok (.getfield 43, 3) := by decide +kernel
theorem dX4_digestFrom_151 : decode cX4_digestFrom 151 = .ok (.iload 6, 2) := by decide +kernel
theorem dX4_digestFrom_153 : decode cX4_digestFrom 153 = .ok (.iaload, 1) := by decide +kernel
theorem dX4_digestFrom_154 : decode cX4_digestFrom 154 = .ok (.i2l, 1) := by decide +kernel
theorem dX4_digestFrom_155 : decode cX4_digestFrom 155 = .ok (.ladd, 1) := by decide +kernel
theorem dX4_digestFrom_156 : decode cX4_digestFrom 156 = .ok (.lstore_n 3, 1) := by decide +kernel
theorem dX4_digestFrom_157 : decode cX4_digestFrom 157 = .ok (.iinc 6 1, 3) := by decide +kernel
theorem dX4_digestFrom_160 : decode cX4_digestFrom 160 = .ok (.goto (-27), 3) := by decide +kernel
theorem dX4_digestFrom_163 : decode cX4_digestFrom 163 = .ok (.lload_n 3, 1) := by decide +kernel
theorem dX4_digestFrom_164 : decode cX4_digestFrom 164 = .ok (.lreturn, 1) := by decide +kernel
theorem dX7_fault_0 : decode cX7_fault 0 = .ok (.aload_n 0, 1) := by decide +kernel
theorem dX7_fault_1 : decode cX7_fault 1 = .ok (.getfield 25, 3) := by decide +kernel
theorem dX7_fault_4 : decode cX7_fault 4 = .ok (.ireturn, 1) := by decide +kernel
theorem dX7_isWithin_0 : decode cX7_isWithin 0 = .ok (.iload_n 1, 1) := by decide +kernel
theorem dX7_isWithin_1 : decode cX7_isWithin 1 = .ok (.ifCond .lt 35, 3) := by decide +kernel
theorem dX7_isWithin_4 : decode cX7_isWithin 4 = .ok (.iload_n 1, 1) := by decide +kernel
theorem dX7_isWithin_5 : decode cX7_isWithin 5 = .ok (.aload_n 0, 1) := by decide +kernel
theorem dX7_isWithin_6 : decode cX7_isWithin 6 = .ok (.getfield 15, 3) := by decide +kernel
theorem dX7_isWithin_9 : decode cX7_isWithin 9 = .ok (.if_icmp .ge 27, 3) := by decide +kernel
theorem dX7_isWithin_12 : decode cX7_isWithin 12 = .ok (.aload_n 0, 1) := by decide +kernel
theorem dX7_isWithin_13 : decode cX7_isWithin 13 = .ok (.getfield 9, 3) := by decide +kernel
theorem dX7_isWithin_16 : decode cX7_isWithin 16 = .ok (.iload_n 1, 1) := by decide +kernel
theorem dX7_isWithin_17 : decode cX7_isWithin 17 = .ok (.iaload, 1) := by decide +kernel
theorem dX7_isWithin_18 : decode cX7_isWithin 18 = .ok (.iload_n 2, 1) := by decide +kernel
theorem dX7_isWithin_19 : decode cX7_isWithin 19 = .ok (.if_icmp .lt 17, 3) := by decide +kernel
theorem dX7_isWithin_22 : decode cX7_isWithin 22 = .ok (.aload_n 0, 1) := by decide +kernel
theorem dX7_isWithin_23 : decode cX7_isWithin 23 = .ok (.getfield 9, 3) := by decide +kernel
theorem dX7_isWithin_26 : decode cX7_isWithin 26 = .ok (.iload_n 1, 1) := by decide +kernel
theorem dX7_isWithin_27 : decode cX7_isWithin 27 = .ok (.iaload, 1) := by decide +kernel
theorem dX7_isWithin_28 : decode cX7_isWithin 28 = .ok (.iload_n 3, 1) := by decide +kernel
theorem dX7_isWithin_29 : decode cX7_isWithin 29 = .ok (.if_icmp .gt 7, 3) := by decide +kernel
theorem dX7_isWithin_32 : decode cX7_isWithin 32 = .ok (.iconst 1, 1) := by decide +kernel
theorem dX7_isWithin_33 : decode cX7_isWithin 33 = .ok (.goto 4, 3) := by decide +kernel
theorem dX7_isWithin_36 : decode cX7_isWithin 36 = .ok (.iconst 0, 1) := by decide +kernel
theorem dX7_isWithin_37 : decode cX7_isWithin 37 = .ok (.ireturn, 1) := by decide +kernel
theorem dX7_passWord_0 : decode cX7_passWord 0 = .ok (.aload_n 0, 1) := by decide +kernel
theorem dX7_passWord_1 : decode cX7_passWord 1 = .ok (.iconst 1, 1) := by decide +kernel
theorem dX7_passWord_2 : decode cX7_passWord 2 = .ok (.putfield 22, 3) := by decide +kernel
theorem dX7_passWord_5 : decode cX7_passWord 5 = .ok (.aload_n 0, 1) := by decide +kernel
theorem dX7_passWord_6 : decode cX7_passWord 6 = .ok (.getfield 19, 3) := by decide +kernel
theorem dX7_passWord_9 : decode cX7_passWord 9 = .ok (.aload_n 0, 1) := by decide +kernel
theorem dX7_passWord_10 : decode cX7_passWord 10 = .ok (.getfield 15, 3) := by decide +kernel
theorem dX7_passWord_13 : decode cX7_passWord 13 = .ok (.if_icmp .ge 31, 3) := by decide +kernel
theorem dX7_passWord_16 : decode cX7_passWord 16 = .ok (.aload_n 0, 1) := by decide +kernel
theorem dX7_passWord_17 : decode cX7_passWord 17 = .ok (.aload_n 0, 1) := by decide +kernel
theorem dX7_passWord_18 : decode cX7_passWord 18 = .ok (.getfield 19, 3) := by decide +kernel
theorem dX7_passWord_21 : decode cX7_passWord 21 = .ok (.bipush 97, 2) := by decide +kernel
theorem dX7_passWord_23 : decode cX7_passWord 23 = .ok (.bipush 122, 2) := by decide +kernel
theorem dX7_passWord_25 : decode cX7_passWord 25 = .ok (.invokevirtual 111, 3) := by decide +kernel
theorem dX7_passWord_28 : decode cX7_passWord 28 = .ok (.ifCond .eq 16, 3) := by decide +kernel
theorem dX7_passWord_31 : decode cX7_passWord 31 = .ok (.aload_n 0, 1) := by decide +kernel
theorem dX7_passWord_32 : decode cX7_passWord 32 = .ok (.dup, 1) := by decide +kernel
theorem dX7_passWord_33 : decode cX7_passWord 33 = .ok (.getfield 19, 3) := by decide +kernel
theorem dX7_passWord_36 : decode cX7_passWord 36 = .ok (.iconst 1, 1) := by decide +kernel
theorem dX7_passWord_37 : decode cX7_passWord 37 = .ok (.iadd, 1) := by decide +kernel
theorem dX7_passWord_38 : decode cX7_passWord 38 = .ok (.putfield 19, 3) := by decide +kernel
theorem dX7_passWord_41 : decode cX7_passWord 41 = .ok (.goto (-36), 3) := by decide +kernel
theorem dX7_passWord_44 : decode cX7_passWord 44 = .ok (.return_, 1) := by decide +kernel
theorem dX7_passFigures_0 : decode cX7_passFigures 0 = .ok (.aload_n 0, 1) := by decide +kernel
theorem dX7_passFigures_1 : decode cX7_passFigures 1 = .ok (.iconst 0, 1) := by decide +kernel
theorem dX7_passFigures_2 : decode cX7_passFigures 2 = .ok (.putfield 28, 3) := by decide +kernel
theorem dX7_passFigures_5 : decode cX7_passFigures 5 = .ok (.aload_n 0, 1) := by decide +kernel
theorem dX7_passFigures_6 : decode cX7_passFigures 6 = .ok (.getfield 19, 3) := by decide +kernel
theorem dX7_passFigures_9 : decode cX7_passFigures 9 = .ok (.aload_n 0, 1) := by decide +kernel
theorem dX7_passFigures_10 : decode cX7_passFigures 10 = .ok (.getfield 15, 3) := by decide +kernel
theorem dX7_passFigures_13 : decode cX7_passFigures 13 = .ok (.if_icmp .ge 75, 3) := by decide +kernel
theorem dX7_passFigures_16 : decode cX7_passFigures 16 = .ok (.aload_n 0, 1) := by decide +kernel
theorem dX7_passFigures_17 : decode cX7_passFigures 17 = .ok (.aload_n 0, 1) := by decide +kernel
theorem dX7_passFigures_18 : decode cX7_passFigures 18 = .ok (.getfield 19, 3) := by decide +kernel
theorem dX7_passFigures_21 : decode cX7_passFigures 21 = .ok (.bipush 48, 2) := by decide +kernel
theorem dX7_passFigures_23 : decode cX7_passFigures 23 = .ok (.bipush 57, 2) := by decide +kernel
theorem dX7_passFigures_25 : decode cX7_passFigures 25 = .ok (.invokevirtual 111, 3) := by decide +kernel
theorem dX7_passFigures_28 : decode cX7_passFigures 28 = .ok (.ifCond .eq 60, 3) := by decide +kernel
theorem dX7_passFigures_31 : decode cX7_passFigures 31 = .ok (.aload_n 0, 1) := by decide +kernel
theorem dX7_passFigures_32 : decode cX7_passFigures 32 = .ok (.aload_n 0, 1) := by decide +kernel
theorem dX7_passFigures_33 : decode cX7_passFigures 33 = .ok (.getfield 19, 3) := by decide +kernel
theorem dX7_passFigures_36 : decode cX7_passFigures 36 = .ok (.aload_n 0, 1) := by decide +kernel
theorem dX7_passFigures_37 : decode cX7_passFigures 37 = .ok (.getfield 25, 3) := by decide +kernel
theorem dX7_passFigures_40 : decode cX7_passFigures 40 = .ok (.isub, 1) := by decide +kernel
theorem dX7_passFigures_41 : decode cX7_passFigures 41 = .ok (.iconst 2, 1) := by decide +kernel
theorem dX7_passFigures_42 : decode cX7_passFigures 42 = .ok (.if_icmp .ge 26, 3) := by decide +kernel
theorem dX7_passFigures_45 : decode cX7_passFigures 45 = .ok (.bipush 10, 2) := by decide +kernel
theorem dX7_passFigures_47 : decode cX7_passFigures 47 = .ok (.aload_n 0, 1) := by decide +kernel
theorem dX7_passFigures_48 : decode cX7_passFigures 48 = .ok (.getfield 28, 3) := by decide +kernel
theorem dX7_passFigures_51 : decode cX7_passFigures 51 = .ok (.imul, 1) := by decide +kernel
theorem dX7_passFigures_52 : decode cX7_passFigures 52 = .ok (.aload_n 0, 1) := by decide +kernel
theorem dX7_passFigures_53 : decode cX7_passFigures 53 = .ok (.getfield 9, 3) := by decide +kernel
theorem dX7_passFigures_56 : decode cX7_passFigures 56 = .ok (.aload_n 0, 1) := by decide +kernel
theorem dX7_passFigures_57 : decode cX7_passFigures 57 = .ok (.getfield 19, 3) := by decide +kernel
theorem dX7_passFigures_60 : decode cX7_passFigures 60 = .ok (.iaload, 1) := by decide +kernel
theorem dX7_passFigures_61 : decode cX7_passFigures 61 = .ok (.iadd, 1) := by decide +kernel
theorem dX7_passFigures_62 : decode cX7_passFigures 62 = .ok (.bipush 48, 2) := by decide +kernel
theorem dX7_passFigures_64 : decode cX7_passFigures 64 = .ok (.isub, 1) := by decide +kernel
theorem dX7_passFigures_65 : decode cX7_passFigures 65 = .ok (.goto 7, 3) := by decide +kernel
theorem dX7_passFigures_68 : decode cX7_passFigures 68 = .ok (.aload_n 0, 1) := by decide +kernel
theorem dX7_passFigures_69 : decode cX7_passFigures 69 = .ok (.getfield 28, 3) := by decide +kernel
theorem dX7_passFigures_72 : decode cX7_passFigures 72 = .ok (.putfield 28, 3) := by decide +kernel
theorem dX7_passFigures_75 : decode cX7_passFigures 75 = .ok (.aload_n 0, 1) := by decide +kernel
theorem dX7_passFigures_76 : decode cX7_passFigures 76 = .ok (.dup, 1) := by decide +kernel
theorem dX7_passFigures_77 : decode cX7_passFigures 77 = .ok (.getfield 19, 3) := by decide +kernel
theorem dX7_passFigures_80 : decode cX7_passFigures 80 = .ok (.iconst 1, 1) := by decide +kernel
theorem dX7_passFigures_81 : decode cX7_passFigures 81 = .ok (.iadd, 1) := by decide +kernel
theorem dX7_passFigures_82 : decode cX7_passFigures 82 = .ok (.putfield 19, 3) := by decide +kernel
theorem dX7_passFigures_85 : decode cX7_passFigures 85 = .ok (.goto (-80), 3) := by decide +kernel
theorem dX7_passFigures_88 : decode cX7_passFigures 88 = .ok (.aload_n 0, 1) := by decide +kernel
theorem dX7_passFigures_89 : decode cX7_passFigures 89 = .ok (.aload_n 0, 1) := by decide +kernel
theorem dX7_passFigures_90 : decode cX7_passFigures 90 = .ok (.getfield 19, 3) := by decide +kernel
theorem dX7_passFigures_93 : decode cX7_passFigures 93 = .ok (.aload_n 0, 1) := by decide +kernel
theorem dX7_passFigures_94 : decode cX7_passFigures 94 = .ok (.getfield 25, 3) := by decide +kernel
theorem dX7_passFigures_97 : decode cX7_passFigures 97 = .ok (.isub, 1) := by decide +kernel
theorem dX7_passFigures_98 : decode cX7_passFigures 98 = .ok (.iconst 2, 1) := by decide +kernel
theorem dX7_passFigures_99 : decode cX7_passFigures 99 = .ok (.if_icmp .le 7, 3) := by decide +kernel
theorem dX7_passFigures_102 : decode cX7_passFigures 102 = .ok (.iconst 4, 1) := by decide +kernel
theorem dX7_passFigures_103 : decode cX7_passFigures 103 = .ok (.goto 4, 3) := by decide +kernel
theorem dX7_passFigures_106 : decode cX7_passFigures 106 = .ok (.iconst 2, 1) := by decide +kernel
theorem dX7_passFigures_107 : decode cX7_passFigures 107 = .ok (.putfield 22, 3) := by decide +kernel
theorem dX7_passFigures_110 : decode cX7_passFigures 110 = .ok (.return_, 1) := by decide +kernel
theorem dX7_step_0 : decode cX7_step 0 = .ok (.aload_n 0, 1) := by decide +kernel
theorem dX7_step_1 : decode cX7_step 1 = .ok (.getfield 19, 3) := by decide +kernel
theorem dX7_step_4 : decode cX7_step 4 = .ok (.aload_n 0, 1) := by decide +kernel
theorem dX7_step_5 : decode cX7_step 5 = .ok (.getfield 15, 3) := by decide +kernel
theorem dX7_step_8 : decode cX7_step 8 = .ok (.if_icmp .ge 30, 3) := by decide +kernel
theorem dX7_step_11 : decode cX7_step 11 = .ok (.aload_n 0, 1) := by decide +kernel
theorem dX7_step_12 : decode cX7_step 12 = .ok (.getfield 9, 3) := by decide +kernel
theorem dX7_step_15 : decode cX7_step 15 = .ok (.aload_n 0, 1) := by decide +kernel
theorem dX7_step_16 : decode cX7_step 16 = .ok (.getfield 19, 3) := by decide +kernel
theorem dX7_step_19 : decode cX7_step 19 = .ok (.iaload, 1) := by decide +kernel
theorem dX7_step_20 : decode cX7_step 20 = .ok (.bipush 32, 2) := by decide +kernel
theorem dX7_step_22 : decode cX7_step 22 = .ok (.if_icmp .ne 16, 3) := by decide +kernel
theorem dX7_step_25 : decode cX7_step 25 = .ok (.aload_n 0, 1) := by decide +kernel
theorem dX7_step_26 : decode cX7_step 26 = .ok (.dup, 1) := by decide +kernel
theorem dX7_step_27 : decode cX7_step 27 = .ok (.getfield 19, 3) := by decide +kernel
theorem dX7_step_30 : decode cX7_step 30 = .ok (.iconst 1, 1) := by decide +kernel
theorem dX7_step_31 : decode cX7_step 31 = .ok (.iadd, 1) := by decide +kernel
theorem dX7_step_32 : decode cX7_step 32 = .ok (.putfield 19, 3) := by decide +kernel
theorem dX7_step_35 : decode cX7_step 35 = .ok (.goto (-35), 3) := by decide +kernel
theorem dX7_step_38 : decode cX7_step 38 = .ok (.aload_n 0, 1) := by decide +kernel
theorem dX7_step_39 : decode cX7_step 39 = .ok (.aload_n 0, 1) := by decide +kernel
theorem dX7_step_40 : decode cX7_step 40 = .ok (.getfield 19, 3) := by decide +kernel
theorem dX7_step_43 : decode cX7_step 43 = .ok (.putfield 25, 3) := by decide +kernel
theorem dX7_step_46 : decode cX7_step 46 = .ok (.aload_n 0, 1) := by decide +kernel
theorem dX7_step_47 : decode cX7_step 47 = .ok (.getfield 19, 3) := by decide +kernel
theorem dX7_step_50 : decode cX7_step 50 = .ok (.aload_n 0, 1) := by decide +kernel
theorem dX7_step_51 : decode cX7_step 51 = .ok (.getfield 15, 3) := by decide +kernel
theorem dX7_step_54 : decode cX7_step 54 = .ok (.if_icmp .lt 11, 3) := by decide +kernel
theorem dX7_step_57 : decode cX7_step 57 = .ok (.aload_n 0, 1) := by decide +kernel
theorem dX7_step_58 : decode cX7_step 58 = .ok (.iconst 0, 1) := by decide +kernel
theorem dX7_step_59 : decode cX7_step 59 = .ok (.putfield 22, 3) := by decide +kernel
theorem dX7_step_62 : decode cX7_step 62 = .ok (.goto 80, 3) := by decide +kernel
theorem dX7_step_65 : decode cX7_step 65 = .ok (.aload_n 0, 1) := by decide +kernel
theorem dX7_step_66 : decode cX7_step 66 = .ok (.aload_n 0, 1) := by decide +kernel
theorem dX7_step_67 : decode cX7_step 67 = .ok (.getfield 19, 3) := by decide +kernel
theorem dX7_step_70 : decode cX7_step 70 = .ok (.bipush 97, 2) := by decide +kernel
theorem dX7_step_72 : decode cX7_step 72 = .ok (.bipush 122, 2) := by decide +kernel
theorem dX7_step_74 : decode cX7_step 74 = .ok (.invokevirtual 111, 3) := by decide +kernel
theorem dX7_step_77 : decode cX7_step 77 = .ok (.ifCond .eq 10, 3) := by decide +kernel
theorem dX7_step_80 : decode cX7_step 80 = .ok (.aload_n 0, 1) := by decide +kernel
theorem dX7_step_81 : decode cX7_step 81 = .ok (.invokevirtual 115, 3) := by decide +kernel
theorem dX7_step_84 : decode cX7_step 84 = .ok (.goto 58, 3) := by decide +kernel
theorem dX7_step_87 : decode cX7_step 87 = .ok (.aload_n 0, 1) := by decide +kernel
theorem dX7_step_88 : decode cX7_step 88 = .ok (.aload_n 0, 1) := by decide +kernel
theorem dX7_step_89 : decode cX7_step 89 = .ok (.getfield 19, 3) := by decide +kernel
theorem dX7_step_92 : decode cX7_step 92 = .ok (.bipush 48, 2) := by decide +kernel
theorem dX7_step_94 : decode cX7_step 94 = .ok (.bipush 57, 2) := by decide +kernel
theorem dX7_step_96 : decode cX7_step 96 = .ok (.invokevirtual 111, 3) := by decide +kernel
theorem dX7_step_99 : decode cX7_step 99 = .ok (.ifCond .eq 10, 3) := by decide +kernel
theorem dX7_step_102 : decode cX7_step 102 = .ok (.aload_n 0, 1) := by decide +kernel
theorem dX7_step_103 : decode cX7_step 103 = .ok (.invokevirtual 118, 3) := by decide +kernel
theorem dX7_step_106 : decode cX7_step 106 = .ok (.goto 36, 3) := by decide +kernel
theorem dX7_step_109 : decode cX7_step 109 = .ok (.aload_n 0, 1) := by decide +kernel
theorem dX7_step_110 : decode cX7_step 110 = .ok (.aload_n 0, 1) := by decide +kernel
theorem dX7_step_111 : decode cX7_step 111 = .ok (.getfield 9, 3) := by decide +kernel
theorem dX7_step_114 : decode cX7_step 114 = .ok (.aload_n 0, 1) := by decide +kernel
theorem dX7_step_115 : decode cX7_step 115 = .ok (.getfield 19, 3) := by decide +kernel
theorem dX7_step_118 : decode cX7_step 118 = .ok (.iaload, 1) := by decide +kernel
theorem dX7_step_119 : decode cX7_step 119 = .ok (.bipush 59, 2) := by decide +kernel
theorem dX7_step_121 : decode cX7_step 121 = .ok (.if_icmp .ne 7, 3) := by decide +kernel
theorem dX7_step_124 : decode cX7_step 124 = .ok (.iconst 3, 1) := by decide +kernel
theorem dX7_step_125 : decode cX7_step 125 = .ok (.goto 4, 3) := by decide +kernel
theorem dX7_step_128 : decode cX7_step 128 = .ok (.iconst 4, 1) := by decide +kernel
theorem dX7_step_129 : decode cX7_step 129 = .ok (.putfield 22, 3) := by decide +kernel
theorem dX7_step_132 : decode cX7_step 132 = .ok (.aload_n 0, 1) := by decide +kernel
theorem dX7_step_133 : decode cX7_step 133 = .ok (.dup, 1) := by decide +kernel
theorem dX7_step_134 : decode cX7_step 134 = .ok (.getfield 19, 3) := by decide +kernel
theorem dX7_step_137 : decode cX7_step 137 = .ok (.iconst 1, 1) := by decide +kernel
theorem dX7_step_138 : decode cX7_step 138 = .ok (.iadd, 1) := by decide +kernel
theorem dX7_step_139 : decode cX7_step 139 = .ok (.putfield 19, 3) := by decide +kernel
theorem dX7_step_142 : decode cX7_step 142 = .ok (.return_, 1) := by decide +kernel
set_option maxHeartbeats 4000000 in
set_option maxRecDepth 100000 in
theorem ctX4_tearTop (l : Launch) (E : VE) (a : Nat → Nat)  (p : St)  {Post : Int32 → St → Prop} (hw : wpX4_tearTop p Post) (sz : Nat) : Met l yX4_tearTop (mW yX4_tearTop cX4_tearTop 1 (some .int)) rmX4_tearTop (CPre E [.ref (a 0)] sz (fl [bPad E a p])) (CQi E Post (fun u => (fl [bPad E a u])) (fl [bPad E a p]) sz) 0 0 (va_A (fl [bPad E a p]) sz) := by
  refine v_met (by decide) (Nat.le_of_ble_eq_true rfl) ?_
  intro pr e s m below meth c A hsz hA C
  subst hsz
  refine v_aload_n (pc := 0) C 0 rfl rfl dX4_tearTop_0 ?_
  refine v_get (pc := 1) C cfX4 rfl 0 0 rfl (by decide) wfX4_11 rfl dX4_tearTop_1 ?_
  refine v_iconst (pc := 4) C 0 ki_0 dX4_tearTop_4 ?_
  refine v_dup2 (pc := 5) C rfl rfl dX4_tearTop_5 ?_
  refine v_iald (pc := 6) C 1 rfl vi_0_86 tn_0 dX4_tearTop_6 ?_
  refine v_iconst (pc := 7) C 1 ki_1 dX4_tearTop_7 ?_
  refine v_iadd (pc := 8) C dX4_tearTop_8 ?_
  obtain ⟨p1, es⟩ : ∃ y : St, y = p.sA 0 (upd (p.A 0) 0 (((p.A 0) 0) + 1)) := ⟨_, rfl⟩
  have hw := hw p1 es
  refine v_iast (pc := 9) C 1 (w' := (fl [bPad E a p1])) rfl tn_0 (by subst es; rfl) vi_0_86 dX4_tearTop_9 ?_
  refine v_aload_n (pc := 10) C 0 rfl rfl dX4_tearTop_10 ?_
  refine v_get (pc := 11) C cfX4 rfl 0 0 rfl (by decide) wfX4_11 rfl dX4_tearTop_11 ?_
  refine v_iconst (pc := 14) C 0 ki_0 dX4_tearTop_14 ?_
  refine v_iald (pc := 15) C 1 rfl vi_0_86 tn_0 dX4_tearTop_15 ?_
  refine v_iconst (pc := 16) C 1 ki_1 dX4_tearTop_16 ?_
  refine v_isub (pc := 17) C dX4_tearTop_17 ?_
  exact v_ireti (pc := 18) C p1 hA rfl hw dX4_tearTop_18
set_option maxHeartbeats 4000000 in
set_option maxRecDepth 100000 in
theorem vjX4_pressInto_42 (C : VC pr s m args meth c E A cX4_pressInto 5 none RX4) (hA : va_A w0 s.heap.size = A) (a : Nat → Nat)  {Post : St → Prop} (x1 : Int32) (x2 : Int32) (x3 : Int32) (z0 : Int32) (p : St) (hw : wjX4_pressInto_42  Post x1 x2 x3 z0 p) : V pr l e rmX4_pressInto s m args below meth c E A 5 0 0 (MQ below (CQv E Post (fun u => (fl [bPad E a u])) w0 s.heap.size) args s 0 0 A) (fl [bPad E a p]) 42 [(0, .ref (a 0)), (1, .int x1), (2, .int x2), (3, .int x3)] [.int z0] := by
  refine v_istore (pc := 42) C [(4, .int z0), (0, .ref (a 0)), (1, .int x1), (2, .int x2), (3, .int x3)] rfl (by decide) dX4_pressInto_42 ?_
  refine v_iload (pc := 44) C 0 rfl dX4_pressInto_44 ?_
  refine v_if_eq (pc := 46) C 68 (by decide) dX4_pressInto_46 (fun hc => ?_) (fun hc => ?_)
  · have hw := hw.1 hc
    exact v_vret (pc := 68) C p hA rfl hw dX4_pressInto_68
  · have hw := hw.2 hc
    refine v_iload_n (pc := 49) C 4 rfl rfl dX4_pressInto_49 ?_
    refine v_iconst (pc := 50) C 2 ki_2 dX4_pressInto_50 ?_
    refine v_icmp_lt (pc := 51) C 68 (by decide) dX4_pressInto_51 (fun hc => ?_) (fun hc => ?_)
    · have hw := hw.1 hc
      exact v_vret (pc := 68) C p hA rfl hw dX4_pressInto_68
    · have hw := hw.2 hc
      refine v_aload_n (pc := 54) C 1 rfl rfl dX4_pressInto_54 ?_
      refine v_get (pc := 55) C cfX4 rfl 0 0 rfl (by decide) wfX4_11 rfl dX4_pressInto_55 ?_
      refine v_iload_n (pc := 58) C 2 rfl rfl dX4_pressInto_58 ?_
      refine v_iconst (pc := 59) C 1 ki_1 dX4_pressInto_59 ?_
      refine v_goBi (pc := 60) C (bs := [bPad E a p]) (cs := []) (cs' := (fun (_ : Unit) => [])) (bs' := (fun (_ : Unit) => [bPad E a p])) (w' := (fun (_ : Unit) => (fl [bPad E a p]))) [] rfl rfl (fun _ => rfl) (fun _ => rfl) (fun _ => rfl) (v_runSB (pc := 60) C [.int x1, .int 1] [.ref (a 1)] (fun sz => ctX4_placeOf l E x1 1 hw sz) [] rfl rfl rfl mfX4_placeOf msX4_placeOf wmX4_55 rfl ⟨Nat.le_of_ble_eq_true rfl, Nat.le_of_ble_eq_true rfl⟩ ⟨rfl, rfl⟩ rfl (Nat.le_of_ble_eq_true rfl) ⟨Nat.zero_le _, Nat.zero_le _⟩ dX4_pressInto_60) (fun r3 _ hw => ?_)
      refine v_dup2 (pc := 63) C rfl rfl dX4_pressInto_63 ?_
      obtain ⟨hg, hw⟩ := hw
      refine v_iald (pc := 64) C 1 rfl hg rfl dX4_pressInto_64 ?_
      refine v_iload_n (pc := 65) C 3 rfl rfl dX4_pressInto_65 ?_
      refine v_ior (pc := 66) C dX4_pressInto_66 ?_
      obtain ⟨hg, hw⟩ := hw
      obtain ⟨p4, es⟩ : ∃ y : St, y = p.sA 0 (upd (p.A 0) r3.toNatClampNeg (((p.A 0) r3.toNatClampNeg) ||| x2)) := ⟨_, rfl⟩
      have hw := hw p4 es
      refine v_iast (pc := 67) C 1 (w' := (fl [bPad E a p4])) rfl rfl (by subst es; rfl) hg dX4_pressInto_67 ?_
      exact v_vret (pc := 68) C p4 hA rfl hw dX4_pressInto_68
set_option maxHeartbeats 4000000 in
set_option maxRecDepth 100000 in
theorem ctX4_pressInto (l : Launch) (E : VE) (a : Nat → Nat) (x1 : Int32) (x2 : Int32) (x3 : Int32) (p : St)  {Post : St → Prop} (hw : wpX4_pressInto x1 x2 x3 p Post) (sz : Nat) : Met l yX4_pressInto (mW yX4_pressInto cX4_pressInto 5 none) rmX4_pressInto (CPre E [.ref (a 0), .int x1, .int x2, .int x3] sz (fl [bPad E a p])) (CQv E Post (fun u => (fl [bPad E a u])) (fl [bPad E a p]) sz) 0 0 (va_A (fl [bPad E a p]) sz) := by
  refine v_met (by decide) (Nat.le_of_ble_eq_true rfl) ?_
  intro pr e s m below meth c A hsz hA C
  subst hsz
  refine v_aload_n (pc := 0) C 0 rfl rfl dX4_pressInto_0 ?_
  refine v_get (pc := 1) C cfX4 rfl 0 0 rfl (by decide) wfX4_11 rfl dX4_pressInto_1 ?_
  refine v_iload_n (pc := 4) C 1 rfl rfl dX4_pressInto_4 ?_
  refine v_iconst (pc := 5) C 2 ki_2 dX4_pressInto_5 ?_
  refine v_goBi (pc := 6) C (bs := [bPad E a p]) (cs := []) (cs' := (fun (_ : Unit) => [])) (bs' := (fun (_ : Unit) => [bPad E a p])) (w' := (fun (_ : Unit) => (fl [bPad E a p]))) [] rfl rfl (fun _ => rfl) (fun _ => rfl) (fun _ => rfl) (v_runSB (pc := 6) C [.int x1, .int 2] [.ref (a 1)] (fun sz => ctX4_placeOf l E x1 2 hw sz) [] rfl rfl rfl mfX4_placeOf msX4_placeOf wmX4_55 rfl ⟨Nat.le_of_ble_eq_true rfl, Nat.le_of_ble_eq_true rfl⟩ ⟨rfl, rfl⟩ rfl (Nat.le_of_ble_eq_true rfl) ⟨Nat.zero_le _, Nat.zero_le _⟩ dX4_pressInto_6) (fun r1 _ hw => ?_)
  refine v_iload_n (pc := 9) C 2 rfl rfl dX4_pressInto_9 ?_
  refine v_iload_n (pc := 10) C 3 rfl rfl dX4_pressInto_10 ?_
  refine v_gov (pc := 11) C (wc := (fl [bArr E (fun _ => (a 1)) 86 (p.A 0)])) (wc' := (fun (u : (Nat → Int32)) => (fl [bArr E (fun _ => (a 1)) 86 u]))) (w' := (fun (u : (Nat → Int32)) => (fl [bPad E a (p.sA 0 u)]))) [1] rfl (fun _ => rfl) (fun _ => rfl) (v_runSN (pc := 11) C [.ref (a 1), .int r1, .int x2, .int x3] [] (fun sz => ctX11_dentInto l E (fun _ => (a 1)) r1 x2 x3 (p.A 0) 86 hw sz) [1] rfl rfl mfX11_dentInto msX11_dentInto wmX4_76 rfl ⟨Nat.le_of_ble_eq_true rfl, Nat.le_of_ble_eq_true rfl⟩ ⟨rfl, rfl⟩ rfl (Nat.le_of_ble_eq_true rfl) ⟨Nat.zero_le _, Nat.zero_le _⟩ dX4_pressInto_11) (fun p2 hw => ?_)
  refine v_iload_n (pc := 14) C 1 rfl rfl dX4_pressInto_14 ?_
  refine v_aload_n (pc := 15) C 0 rfl rfl dX4_pressInto_15 ?_
  refine v_get (pc := 16) C cfX4 rfl 0 0 rfl (by decide) wfX4_11 rfl dX4_pressInto_16 ?_
  refine v_iconst (pc := 19) C 0 ki_0 dX4_pressInto_19 ?_
  refine v_iald (pc := 20) C 1 rfl vi_0_86 tn_0 dX4_pressInto_20 ?_
  refine v_icmp_le (pc := 21) C 41 (by decide) dX4_pressInto_21 (fun hc => ?_) (fun hc => ?_)
  · have hw := hw.1 hc
    refine v_iconst (pc := 41) C 0 ki_0 dX4_pressInto_41 ?_
    refine v_sub (lv' := [(0, .ref (a 0)), (1, .int x1), (2, .int x2), (3, .int x3)]) [0, 1, 2, 3] rfl ?_
    exact vjX4_pressInto_42 C hA a  x1 x2 x3 0 (p.sA 0 p2) hw
  · have hw := hw.2 hc
    refine v_aload_n (pc := 24) C 0 rfl rfl dX4_pressInto_24 ?_
    refine v_get (pc := 25) C cfX4 rfl 0 4 rfl (by decide) wfX4_25 rfl dX4_pressInto_25 ?_
    refine v_iload_n (pc := 28) C 1 rfl rfl dX4_pressInto_28 ?_
    refine v_iconst (pc := 29) C 1 ki_1 dX4_pressInto_29 ?_
    refine v_isub (pc := 30) C dX4_pressInto_30 ?_
    refine v_ishr (pc := 31) C dX4_pressInto_31 ?_
    refine v_iconst (pc := 32) C 1 ki_1 dX4_pressInto_32 ?_
    refine v_iand (pc := 33) C dX4_pressInto_33 ?_
    refine v_if_eq (pc := 34) C 41 (by decide) dX4_pressInto_34 (fun hc => ?_) (fun hc => ?_)
    · have hw := hw.1 hc
      refine v_iconst (pc := 41) C 0 ki_0 dX4_pressInto_41 ?_
      refine v_sub (lv' := [(0, .ref (a 0)), (1, .int x1), (2, .int x2), (3, .int x3)]) [0, 1, 2, 3] rfl ?_
      exact vjX4_pressInto_42 C hA a  x1 x2 x3 0 (p.sA 0 p2) hw
    · have hw := hw.2 hc
      refine v_iconst (pc := 37) C 1 ki_1 dX4_pressInto_37 ?_
      refine v_goto (pc := 38) C 42 (by decide) dX4_pressInto_38 ?_
      refine v_sub (lv' := [(0, .ref (a 0)), (1, .int x1), (2, .int x2), (3, .int x3)]) [0, 1, 2, 3] rfl ?_
      exact vjX4_pressInto_42 C hA a  x1 x2 x3 1 (p.sA 0 p2) hw
set_option maxHeartbeats 4000000 in
set_option maxRecDepth 100000 in
theorem vlX4_putNote_71 (C : VC pr s m args meth c E A cX4_putNote 8 (some .int) RX4) (hA : va_A w0 s.heap.size = A) (a : Nat → Nat) (b : Nat → Nat)  {Post : Int32 → St → Prop} {KX : Int32 → Int32 → Int32 → Int32 → St → Prop} (hX : ∀ (x2 : Int32) (x4 : Int32) (x5 : Int32) (x6 : Int32) (p : St), KX x2 x4 x5 x6 p → V pr l e rmX4_putNote s m args below meth c E A 8 0 0 (MQ below (CQi E Post (fun u => (fl [bPad E a u, bBox E b])) w0 s.heap.size) args s 0 0 A) (fl [bPad E a p, bBox E b]) 105 [(0, .ref (a 0)), (1, .ref (b 0)), (2, .int x2), (4, .int x4), (5, .int x5), (6, .int x6)] []) : ∀ (n : Nat) (x2 : Int32) (x3 : Int32) (x4 : Int32) (x5 : Int32) (x6 : Int32) (x7 : Int32) (p : St), wLX4_putNote_71  Post KX n (x2, x3, x4, x5, x6, x7, p) → V pr l e rmX4_putNote s m args below meth c E A 8 0 0 (MQ below (CQi E Post (fun u => (fl [bPad E a u, bBox E b])) w0 s.heap.size) args s 0 0 A) (fl [bPad E a p, bBox E b]) 71 [(0, .ref (a 0)), (1, .ref (b 0)), (2, .int x2), (3, .int x3), (4, .int x4), (5, .int x5), (6, .int x6), (7, .int x7)] [] := by
  intro n
  induction n with
  | zero => intro x2 x3 x4 x5 x6 x7 p hw; exact absurd hw id
  | succ n hself =>
    intro x2 x3 x4 x5 x6 x7 p hw
    have hw : wlX4_putNote_71  Post KX (wLX4_putNote_71  Post KX n) x2 x3 x4 x5 x6 x7 p := hw
    refine v_iload (pc := 71) C 7 rfl dX4_putNote_71 ?_
    refine v_bipush (pc := 73) C 6 kb_6 dX4_putNote_73 ?_
    refine v_icmp_ge (pc := 75) C 105 (by decide) dX4_putNote_75 (fun hc => ?_) (fun hc => ?_)
    · have hw := hw.1 hc
      refine v_sub (lv' := [(0, .ref (a 0)), (1, .ref (b 0)), (2, .int x2), (4, .int x4), (5, .int x5), (6, .int x6)]) [0, 1, 2, 4, 5, 6] rfl ?_
      exact hX x2 x4 x5 x6 p hw
    · have hw := hw.2 hc
      refine v_aload_n (pc := 78) C 0 rfl rfl dX4_putNote_78 ?_
      refine v_get (pc := 79) C cfX4 rfl 0 9 rfl (by decide) wfX4_40 rfl dX4_putNote_79 ?_
      refine v_iload (pc := 82) C 5 rfl dX4_putNote_82 ?_
      refine v_bipush (pc := 84) C 6 kb_6 dX4_putNote_84 ?_
      refine v_imul (pc := 86) C dX4_putNote_86 ?_
      refine v_iload (pc := 87) C 7 rfl dX4_putNote_87 ?_
      refine v_iadd (pc := 89) C dX4_putNote_89 ?_
      refine v_aload_n (pc := 90) C 1 rfl rfl dX4_putNote_90 ?_
      refine v_iload_n (pc := 91) C 2 rfl rfl dX4_putNote_91 ?_
      refine v_iload_n (pc := 92) C 3 rfl rfl dX4_putNote_92 ?_
      refine v_iload (pc := 93) C 7 rfl dX4_putNote_93 ?_
      refine v_goBi (pc := 95) C (bs := [bPad E a p, bBox E b]) (cs := [bBox E b]) (cs' := (fun (_ : Unit) => [bBox E b])) (bs' := (fun (_ : Unit) => [bPad E a p, bBox E b])) (w' := (fun (_ : Unit) => (fl [bPad E a p, bBox E b]))) [1] rfl rfl (fun _ => rfl) (fun _ => rfl) (fun _ => rfl) (v_runVB (pc := 95) C [.int x2, .int x3, .int x7] [.int ((x5 * 6) + x7), .ref (a 7)] (fun sz => ctX5_forceOf l E b x2 x3 x7 hw sz) [1] rfl rfl rfl mfX5_forceOf mvX5_forceOf wmX4_59 rfl ⟨Nat.le_of_ble_eq_true rfl, Nat.le_of_ble_eq_true rfl⟩ ⟨rfl, rfl⟩ 9 (ci := 5) (qc := (RX5, TX5, 1)) rfl rfl rfl rfl (Nat.le_of_ble_eq_true rfl) ⟨Nat.zero_le _, Nat.zero_le _⟩ dX4_putNote_95) (fun r7 _ hw => ?_)
      obtain ⟨hg, hw⟩ := hw
      obtain ⟨p8, es⟩ : ∃ y : St, y = p.sA 9 (upd (p.A 9) ((x5 * 6) + x7).toNatClampNeg r7) := ⟨_, rfl⟩
      have hw := hw p8 es
      refine v_iast (pc := 98) C 7 (w' := (fl [bPad E a p8, bBox E b])) rfl rfl (by subst es; rfl) hg dX4_putNote_98 ?_
      obtain ⟨x7_9, ex⟩ : ∃ y : Int32, y = x7 + 1 := ⟨_, rfl⟩
      have hw := hw x7_9 ex
      refine v_iinc (pc := 99) C 7 rfl (by rw [ex, ki_1]) [(7, .int x7_9), (0, .ref (a 0)), (1, .ref (b 0)), (2, .int x2), (3, .int x3), (4, .int x4), (5, .int x5), (6, .int x6)] rfl (by decide) dX4_putNote_99 ?_
      refine v_goto (pc := 102) C 71 (by decide) dX4_putNote_102 ?_
      refine v_sub (lv' := [(0, .ref (a 0)), (1, .ref (b 0)), (2, .int x2), (3, .int x3), (4, .int x4), (5, .int x5), (6, .int x6), (7, .int x7_9)]) [1, 2, 3, 4, 5, 6, 7, 0] rfl ?_
      exact hself x2 x3 x4 x5 x6 x7_9 p8 hw
set_option maxHeartbeats 4000000 in
set_option maxRecDepth 100000 in
theorem vlX4_putNote_143 (C : VC pr s m args meth c E A cX4_putNote 8 (some .int) RX4) (hA : va_A w0 s.heap.size = A) (a : Nat → Nat) (b : Nat → Nat)  {Post : Int32 → St → Prop} {KX : Int32 → St → Prop} (hX : ∀ (x5 : Int32) (p : St), KX x5 p → V pr l e rmX4_putNote s m args below meth c E A 8 0 0 (MQ below (CQi E Post (fun u => (fl [bPad E a u, bBox E b])) w0 s.heap.size) args s 0 0 A) (fl [bPad E a p, bBox E b]) 174 [(5, .int x5)] []) : ∀ (n : Nat) (x4 : Int32) (x5 : Int32) (x7 : Int32) (p : St), wLX4_putNote_143  Post KX n (x4, x5, x7, p) → V pr l e rmX4_putNote s m args below meth c E A 8 0 0 (MQ below (CQi E Post (fun u => (fl [bPad E a u, bBox E b])) w0 s.heap.size) args s 0 0 A) (fl [bPad E a p, bBox E b]) 143 [(0, .ref (a 0)), (4, .int x4), (5, .int x5), (7, .int x7)] [] := by
  intro n
  induction n with
  | zero => intro x4 x5 x7 p hw; exact absurd hw id
  | succ n hself =>
    intro x4 x5 x7 p hw
    have hw : wlX4_putNote_143  Post KX (wLX4_putNote_143  Post KX n) x4 x5 x7 p := hw
    refine v_iload (pc := 143) C 3 rfl dX4_putNote_143 ?_
    refine v_aload_n (pc := 145) C 0 rfl rfl dX4_putNote_145 ?_
    refine v_get (pc := 146) C cfX4 rfl 0 3 rfl (by decide) wfX4_22 rfl dX4_putNote_146 ?_
    refine v_icmp_ge (pc := 149) C 174 (by decide) dX4_putNote_149 (fun hc => ?_) (fun hc => ?_)
    · have hw := hw.1 hc
      refine v_sub (lv' := [(5, .int x5)]) [2] rfl ?_
      exact hX x5 p hw
    · have hw := hw.2 hc
      refine v_aload_n (pc := 152) C 0 rfl rfl dX4_putNote_152 ?_
      refine v_iload (pc := 153) C 3 rfl dX4_putNote_153 ?_
      refine v_iload (pc := 155) C 1 rfl dX4_putNote_155 ?_
      refine v_aload_n (pc := 157) C 0 rfl rfl dX4_putNote_157 ?_
      refine v_iload (pc := 158) C 2 rfl dX4_putNote_158 ?_
      refine v_iload (pc := 160) C 3 rfl dX4_putNote_160 ?_
      refine v_goBi (pc := 162) C (bs := [bPad E a p, bBox E b]) (cs := [bPad E a p]) (cs' := (fun (_ : Unit) => [bPad E a p])) (bs' := (fun (_ : Unit) => [bPad E a p, bBox E b])) (w' := (fun (_ : Unit) => (fl [bPad E a p, bBox E b]))) [0] rfl rfl (fun _ => rfl) (fun _ => rfl) (fun _ => rfl) (v_runVB (pc := 162) C [.int x5, .int x7] [.int x4, .int x7, .ref (a 0)] (fun sz => ctX4_forceOn l E a x5 x7 p hw sz) [0] rfl rfl rfl mfX4_forceOn mvX4_forceOn wmX4_69 rfl ⟨Nat.le_of_ble_eq_true rfl, Nat.le_of_ble_eq_true rfl⟩ ⟨rfl, rfl⟩ 0 (ci := 4) (qc := (RX4, TX4, 12)) rfl rfl rfl rfl (Nat.le_of_ble_eq_true rfl) ⟨Nat.zero_le _, Nat.zero_le _⟩ dX4_putNote_162) (fun r17 _ hw => ?_)
      refine v_goBv (pc := 165) C (bs := [bPad E a p, bBox E b]) (cs := [bPad E a p]) (cs' := (fun (u : St) => [bPad E a u])) (bs' := (fun (u : St) => [bPad E a u, bBox E b])) (w' := (fun (u : St) => (fl [bPad E a u, bBox E b]))) [0] rfl rfl (fun _ => rfl) (fun _ => rfl) (fun _ => rfl) (v_runVB (pc := 165) C [.int x7, .int x4, .int r17] [] (fun sz => ctX4_pressInto l E a x7 x4 r17 p hw sz) [0] rfl rfl rfl mfX4_pressInto mvX4_pressInto wmX4_72 rfl ⟨Nat.le_of_ble_eq_true rfl, Nat.le_of_ble_eq_true rfl⟩ ⟨rfl, rfl⟩ 0 (ci := 4) (qc := (RX4, TX4, 12)) rfl rfl rfl rfl (Nat.le_of_ble_eq_true rfl) ⟨Nat.zero_le _, Nat.zero_le _⟩ dX4_putNote_165) (fun p18 hw => ?_)
      obtain ⟨x7_19, ex⟩ : ∃ y : Int32, y = x7 + 1 := ⟨_, rfl⟩
      have hw := hw x7_19 ex
      refine v_iinc (pc := 168) C 3 rfl (by rw [ex, ki_1]) [(7, .int x7_19), (0, .ref (a 0)), (4, .int x4), (5, .int x5)] rfl (by decide) dX4_putNote_168 ?_
      refine v_goto (pc := 171) C 143 (by decide) dX4_putNote_171 ?_
      refine v_sub (lv' := [(0, .ref (a 0)), (4, .int x4), (5, .int x5), (7, .int x7_19)]) [1, 2, 3, 0] rfl ?_
      exact hself x4 x5 x7_19 p18 hw
set_option maxHeartbeats 4000000 in
set_option maxRecDepth 100000 in
theorem ctX4_putNote (l : Launch) (E : VE) (a : Nat → Nat) (b : Nat → Nat) (x2 : Int32) (x3 : Int32) (x4 : Int32) (p : St)  {Post : Int32 → St → Prop} (hw : wpX4_putNote x2 x3 x4 p Post) (sz : Nat) : Met l yX4_putNote (mW yX4_putNote cX4_putNote 8 (some .int)) rmX4_putNote (CPre E [.ref (a 0), .ref (b 0), .int x2, .int x3, .int x4] sz (fl [bPad E a p, bBox E b])) (CQi E Post (fun u => (fl [bPad E a u, bBox E b])) (fl [bPad E a p, bBox E b]) sz) 0 0 (va_A (fl [bPad E a p, bBox E b]) sz) := by
  refine v_met (by decide) (Nat.le_of_ble_eq_true rfl) ?_
  intro pr e s m below meth c A hsz hA C
  subst hsz
  refine v_aload_n (pc := 0) C 0 rfl rfl dX4_putNote_0 ?_
  refine v_get (pc := 1) C cfX4 rfl 0 0 rfl (by decide) wfX4_11 rfl dX4_putNote_1 ?_
  refine v_iconst (pc := 4) C 1 ki_1 dX4_putNote_4 ?_
  refine v_iald (pc := 5) C 1 rfl vi_1_86 tn_1 dX4_putNote_5 ?_
  refine v_topi (fun x5_1 ex => ?_)
  have hw := hw x5_1 ex
  refine v_istore (pc := 6) C [(5, .int x5_1), (0, .ref (a 0)), (1, .ref (b 0)), (2, .int x2), (3, .int x3), (4, .int x4)] rfl (by decide) dX4_putNote_6 ?_
  refine v_aload_n (pc := 8) C 1 rfl rfl dX4_putNote_8 ?_
  refine v_get (pc := 9) C cfX4 rfl 0 0 rfl (by decide) wfX4_11 rfl dX4_putNote_9 ?_
  refine v_iconst (pc := 12) C 0 ki_0 dX4_putNote_12 ?_
  refine v_iald (pc := 13) C 1 rfl vi_0_86 tn_0 dX4_putNote_13 ?_
  refine v_topi (fun x6_2 ex => ?_)
  have hw := hw x6_2 ex
  refine v_istore (pc := 14) C [(6, .int x6_2), (5, .int x5_1), (0, .ref (a 0)), (1, .ref (b 0)), (2, .int x2), (3, .int x3), (4, .int x4)] rfl (by decide) dX4_putNote_14 ?_
  refine v_iload (pc := 16) C 1 rfl dX4_putNote_16 ?_
  refine v_bipush (pc := 18) C 10 kb_10 dX4_putNote_18 ?_
  refine v_icmp_ge (pc := 20) C 32 (by decide) dX4_putNote_20 (fun hc => ?_) (fun hc => ?_)
  · have hw := hw.1 hc
    refine v_iconst (pc := 32) C (-1) ki_m1 dX4_putNote_32 ?_
    exact v_ireti (pc := 33) C p hA rfl hw dX4_putNote_33
  · have hw := hw.2 hc
    refine v_iload (pc := 23) C 0 rfl dX4_putNote_23 ?_
    refine v_aload_n (pc := 25) C 2 rfl rfl dX4_putNote_25 ?_
    refine v_get (pc := 26) C cfX4 rfl 0 3 rfl (by decide) wfX4_22 rfl dX4_putNote_26 ?_
    refine v_icmp_lt (pc := 29) C 34 (by decide) dX4_putNote_29 (fun hc => ?_) (fun hc => ?_)
    · have hw := hw.1 hc
      refine v_aload_n (pc := 34) C 2 rfl rfl dX4_putNote_34 ?_
      refine v_get (pc := 35) C cfX4 rfl 0 5 rfl (by decide) wfX4_28 rfl dX4_putNote_35 ?_
      refine v_iload (pc := 38) C 1 rfl dX4_putNote_38 ?_
      refine v_iload_n (pc := 40) C 4 rfl rfl dX4_putNote_40 ?_
      obtain ⟨hg, hw⟩ := hw
      obtain ⟨p3, es⟩ : ∃ y : St, y = p.sA 5 (upd (p.A 5) x5_1.toNatClampNeg x2) := ⟨_, rfl⟩
      have hw := hw p3 es
      refine v_iast (pc := 41) C 3 (w' := (fl [bPad E a p3, bBox E b])) rfl rfl (by subst es; rfl) hg dX4_putNote_41 ?_
      refine v_aload_n (pc := 42) C 2 rfl rfl dX4_putNote_42 ?_
      refine v_get (pc := 43) C cfX4 rfl 0 6 rfl (by decide) wfX4_31 rfl dX4_putNote_43 ?_
      refine v_iload (pc := 46) C 1 rfl dX4_putNote_46 ?_
      refine v_iload_n (pc := 48) C 5 rfl rfl dX4_putNote_48 ?_
      obtain ⟨hg, hw⟩ := hw
      obtain ⟨p4, es⟩ : ∃ y : St, y = p3.sA 6 (upd (p3.A 6) x5_1.toNatClampNeg x3) := ⟨_, rfl⟩
      have hw := hw p4 es
      refine v_iast (pc := 49) C 4 (w' := (fl [bPad E a p4, bBox E b])) rfl rfl (by subst es; rfl) hg dX4_putNote_49 ?_
      refine v_aload_n (pc := 50) C 2 rfl rfl dX4_putNote_50 ?_
      refine v_get (pc := 51) C cfX4 rfl 0 7 rfl (by decide) wfX4_34 rfl dX4_putNote_51 ?_
      refine v_iload (pc := 54) C 1 rfl dX4_putNote_54 ?_
      refine v_iload (pc := 56) C 6 rfl dX4_putNote_56 ?_
      obtain ⟨hg, hw⟩ := hw
      obtain ⟨p5, es⟩ : ∃ y : St, y = p4.sA 7 (upd (p4.A 7) x5_1.toNatClampNeg x4) := ⟨_, rfl⟩
      have hw := hw p5 es
      refine v_iast (pc := 58) C 5 (w' := (fl [bPad E a p5, bBox E b])) rfl rfl (by subst es; rfl) hg dX4_putNote_58 ?_
      refine v_aload_n (pc := 59) C 2 rfl rfl dX4_putNote_59 ?_
      refine v_get (pc := 60) C cfX4 rfl 0 8 rfl (by decide) wfX4_37 rfl dX4_putNote_60 ?_
      refine v_iload (pc := 63) C 1 rfl dX4_putNote_63 ?_
      refine v_iload (pc := 65) C 0 rfl dX4_putNote_65 ?_
      obtain ⟨hg, hw⟩ := hw
      obtain ⟨p6, es⟩ : ∃ y : St, y = p5.sA 8 (upd (p5.A 8) x5_1.toNatClampNeg x6_2) := ⟨_, rfl⟩
      have hw := hw p6 es
      refine v_iast (pc := 67) C 6 (w' := (fl [bPad E a p6, bBox E b])) rfl rfl (by subst es; rfl) hg dX4_putNote_67 ?_
      refine v_iconst (pc := 68) C 0 ki_0 dX4_putNote_68 ?_
      refine v_istore (pc := 69) C [(7, .int 0), (6, .int x6_2), (5, .int x5_1), (0, .ref (a 0)), (1, .ref (b 0)), (2, .int x2), (3, .int x3), (4, .int x4)] rfl (by decide) dX4_putNote_69 ?_
      obtain ⟨n, hw⟩ := hw
      refine v_sub (lv' := [(0, .ref (a 0)), (1, .ref (b 0)), (2, .int x2), (3, .int x3), (4, .int x4), (5, .int x5_1), (6, .int x6_2), (7, .int 0)]) [3, 4, 5, 6, 7, 2, 1, 0] rfl ?_
      refine vlX4_putNote_71 C hA a b  (fun y10 y11 y12 y13 p14 hw => ?_) n x2 x3 x4 x5_1 x6_2 0 p6 hw
      refine v_aload_n (pc := 105) C 0 rfl rfl dX4_putNote_105 ?_
      refine v_get (pc := 106) C cfX4 rfl 0 0 rfl (by decide) wfX4_11 rfl dX4_putNote_106 ?_
      refine v_iconst (pc := 109) C 1 ki_1 dX4_putNote_109 ?_
      refine v_iload (pc := 110) C 4 rfl dX4_putNote_110 ?_
      refine v_iconst (pc := 112) C 1 ki_1 dX4_putNote_112 ?_
      refine v_iadd (pc := 113) C dX4_putNote_113 ?_
      obtain ⟨p15, es⟩ : ∃ y : St, y = p14.sA 0 (upd (p14.A 0) 1 (y12 + 1)) := ⟨_, rfl⟩
      have hw := hw p15 es
      refine v_iast (pc := 114) C 1 (w' := (fl [bPad E a p15, bBox E b])) rfl tn_1 (by subst es; rfl) vi_1_86 dX4_putNote_114 ?_
      refine v_aload_n (pc := 115) C 1 rfl rfl dX4_putNote_115 ?_
      refine v_iload_n (pc := 116) C 2 rfl rfl dX4_putNote_116 ?_
      refine v_goBi (pc := 117) C (bs := [bPad E a p15, bBox E b]) (cs := [bBox E b]) (cs' := (fun (_ : Unit) => [bBox E b])) (bs' := (fun (_ : Unit) => [bPad E a p15, bBox E b])) (w' := (fun (_ : Unit) => (fl [bPad E a p15, bBox E b]))) [1] rfl rfl (fun _ => rfl) (fun _ => rfl) (fun _ => rfl) (v_runVB (pc := 117) C [.int y10] [] (fun sz => ctX5_hasInk l E b y10 hw sz) [1] rfl rfl rfl mfX5_hasInk mvX5_hasInk wmX4_65 rfl ⟨Nat.le_of_ble_eq_true rfl, Nat.le_of_ble_eq_true rfl⟩ ⟨rfl, rfl⟩ 9 (ci := 5) (qc := (RX5, TX5, 1)) rfl rfl rfl rfl (Nat.le_of_ble_eq_true rfl) ⟨Nat.zero_le _, Nat.zero_le _⟩ dX4_putNote_117) (fun r16 _ hw => ?_)
      refine v_if_eq (pc := 120) C 139 (by decide) dX4_putNote_120 (fun hc => ?_) (fun hc => ?_)
      · have hw := hw.1 hc
        refine v_iload (pc := 139) C 5 rfl dX4_putNote_139 ?_
        refine v_istore (pc := 141) C [(7, .int y13), (0, .ref (a 0)), (1, .ref (b 0)), (2, .int y10), (4, .int y11), (5, .int y12), (6, .int y13)] rfl (by decide) dX4_putNote_141 ?_
        obtain ⟨n, hw⟩ := hw
        refine v_sub (lv' := [(0, .ref (a 0)), (4, .int y11), (5, .int y12), (7, .int y13)]) [1, 4, 5, 0] rfl ?_
        refine vlX4_putNote_143 C hA a b  (fun y20 p21 hw => ?_) n y11 y12 y13 p15 hw
        refine v_iload (pc := 174) C 0 rfl dX4_putNote_174 ?_
        exact v_ireti (pc := 176) C p21 hA rfl hw dX4_putNote_176
      · have hw := hw.2 hc
        refine v_aload_n (pc := 123) C 0 rfl rfl dX4_putNote_123 ?_
        refine v_get (pc := 124) C cfX4 rfl 0 0 rfl (by decide) wfX4_11 rfl dX4_putNote_124 ?_
        refine v_iload (pc := 127) C 5 rfl dX4_putNote_127 ?_
        refine v_iconst (pc := 129) C 0 ki_0 dX4_putNote_129 ?_
        refine v_goBi (pc := 130) C (bs := [bPad E a p15, bBox E b]) (cs := []) (cs' := (fun (_ : Unit) => [])) (bs' := (fun (_ : Unit) => [bPad E a p15, bBox E b])) (w' := (fun (_ : Unit) => (fl [bPad E a p15, bBox E b]))) [] rfl rfl (fun _ => rfl) (fun _ => rfl) (fun _ => rfl) (v_runSB (pc := 130) C [.int y13, .int 0] [.ref (a 1)] (fun sz => ctX4_placeOf l E y13 0 hw sz) [] rfl rfl rfl mfX4_placeOf msX4_placeOf wmX4_55 rfl ⟨Nat.le_of_ble_eq_true rfl, Nat.le_of_ble_eq_true rfl⟩ ⟨rfl, rfl⟩ rfl (Nat.le_of_ble_eq_true rfl) ⟨Nat.zero_le _, Nat.zero_le _⟩ dX4_putNote_130) (fun r22 _ hw => ?_)
        refine v_dup2 (pc := 133) C rfl rfl dX4_putNote_133 ?_
        obtain ⟨hg, hw⟩ := hw
        refine v_iald (pc := 134) C 1 rfl hg rfl dX4_putNote_134 ?_
        refine v_iload (pc := 135) C 3 rfl dX4_putNote_135 ?_
        refine v_ior (pc := 137) C dX4_putNote_137 ?_
        obtain ⟨hg, hw⟩ := hw
        obtain ⟨p23, es⟩ : ∃ y : St, y = p15.sA 0 (upd (p15.A 0) r22.toNatClampNeg (((p15.A 0) r22.toNatClampNeg) ||| y11)) := ⟨_, rfl⟩
        have hw := hw p23 es
        refine v_iast (pc := 138) C 1 (w' := (fl [bPad E a p23, bBox E b])) rfl rfl (by subst es; rfl) hg dX4_putNote_138 ?_
        refine v_iload (pc := 139) C 5 rfl dX4_putNote_139 ?_
        refine v_istore (pc := 141) C [(7, .int y13), (0, .ref (a 0)), (1, .ref (b 0)), (2, .int y10), (4, .int y11), (5, .int y12), (6, .int y13)] rfl (by decide) dX4_putNote_141 ?_
        obtain ⟨n, hw⟩ := hw
        refine v_sub (lv' := [(0, .ref (a 0)), (4, .int y11), (5, .int y12), (7, .int y13)]) [1, 4, 5, 0] rfl ?_
        refine vlX4_putNote_143 C hA a b  (fun y24 p25 hw => ?_) n y11 y12 y13 p23 hw
        refine v_iload (pc := 174) C 0 rfl dX4_putNote_174 ?_
        exact v_ireti (pc := 176) C p25 hA rfl hw dX4_putNote_176
    · have hw := hw.2 hc
      refine v_iconst (pc := 32) C (-1) ki_m1 dX4_putNote_32 ?_
      exact v_ireti (pc := 33) C p hA rfl hw dX4_putNote_33
set_option maxHeartbeats 4000000 in
set_option maxRecDepth 100000 in
theorem vlX4_writtenOn_4 (C : VC pr s m args meth c E A cX4_writtenOn 4 (some .int) RX4) (hA : va_A w0 s.heap.size = A) (a : Nat → Nat) (p : St) {Post : Int32 → Prop} {KX : Int32 → Prop} (hX : ∀ (x2 : Int32), KX x2 → V pr l e rmX4_writtenOn s m args below meth c E A 4 0 0 (MQ below (CQi E (fun (z : Int32) (_ : Unit) => Post z) (fun _ => (fl [bPad E a p])) w0 s.heap.size) args s 0 0 A) (fl [bPad E a p]) 36 [(2, .int x2)] []) : ∀ (n : Nat) (x1 : Int32) (x2 : Int32) (x3 : Int32), wLX4_writtenOn_4 p Post KX n (x1, x2, x3) → V pr l e rmX4_writtenOn s m args below meth c E A 4 0 0 (MQ below (CQi E (fun (z : Int32) (_ : Unit) => Post z) (fun _ => (fl [bPad E a p])) w0 s.heap.size) args s 0 0 A) (fl [bPad E a p]) 4 [(0, .ref (a 0)), (1, .int x1), (2, .int x2), (3, .int x3)] [] := by
  intro n
  induction n with
  | zero => intro x1 x2 x3 hw; exact absurd hw id
  | succ n hself =>
    intro x1 x2 x3 hw
    have hw : wlX4_writtenOn_4 p Post KX (wLX4_writtenOn_4 p Post KX n) x1 x2 x3 := hw
    refine v_iload_n (pc := 4) C 3 rfl rfl dX4_writtenOn_4 ?_
    refine v_aload_n (pc := 5) C 0 rfl rfl dX4_writtenOn_5 ?_
    refine v_get (pc := 6) C cfX4 rfl 0 0 rfl (by decide) wfX4_11 rfl dX4_writtenOn_6 ?_
    refine v_iconst (pc := 9) C 1 ki_1 dX4_writtenOn_9 ?_
    refine v_iald (pc := 10) C 1 rfl vi_1_86 tn_1 dX4_writtenOn_10 ?_
    refine v_icmp_ge (pc := 11) C 36 (by decide) dX4_writtenOn_11 (fun hc => ?_) (fun hc => ?_)
    · have hw := hw.1 hc
      refine v_sub (lv' := [(2, .int x2)]) [2] rfl ?_
      exact hX x2 hw
    · have hw := hw.2 hc
      refine v_aload_n (pc := 14) C 0 rfl rfl dX4_writtenOn_14 ?_
      refine v_get (pc := 15) C cfX4 rfl 0 8 rfl (by decide) wfX4_37 rfl dX4_writtenOn_15 ?_
      refine v_iload_n (pc := 18) C 3 rfl rfl dX4_writtenOn_18 ?_
      obtain ⟨hg, hw⟩ := hw
      refine v_iald (pc := 19) C 6 rfl hg rfl dX4_writtenOn_19 ?_
      refine v_iload_n (pc := 20) C 1 rfl rfl dX4_writtenOn_20 ?_
      refine v_icmp_ne (pc := 21) C 30 (by decide) dX4_writtenOn_21 (fun hc => ?_) (fun hc => ?_)
      · have hw := hw.1 hc
        obtain ⟨x3_1, ex⟩ : ∃ y : Int32, y = x3 + 1 := ⟨_, rfl⟩
        have hw := hw x3_1 ex
        refine v_iinc (pc := 30) C 3 rfl (by rw [ex, ki_1]) [(3, .int x3_1), (0, .ref (a 0)), (1, .int x1), (2, .int x2)] rfl (by decide) dX4_writtenOn_30 ?_
        refine v_goto (pc := 33) C 4 (by decide) dX4_writtenOn_33 ?_
        refine v_sub (lv' := [(0, .ref (a 0)), (1, .int x1), (2, .int x2), (3, .int x3_1)]) [1, 2, 3, 0] rfl ?_
        exact hself x1 x2 x3_1 hw
      · have hw := hw.2 hc
        refine v_iload_n (pc := 24) C 2 rfl rfl dX4_writtenOn_24 ?_
        refine v_iconst (pc := 25) C 1 ki_1 dX4_writtenOn_25 ?_
        refine v_iload_n (pc := 26) C 3 rfl rfl dX4_writtenOn_26 ?_
        refine v_ishl (pc := 27) C dX4_writtenOn_27 ?_
        refine v_ior (pc := 28) C dX4_writtenOn_28 ?_
        refine v_topi (fun x2_2 ex => ?_)
        have hw := hw x2_2 ex
        refine v_istore_n (pc := 29) C [(2, .int x2_2), (0, .ref (a 0)), (1, .int x1), (3, .int x3)] rfl rfl (by decide) dX4_writtenOn_29 ?_
        obtain ⟨x3_3, ex⟩ : ∃ y : Int32, y = x3 + 1 := ⟨_, rfl⟩
        have hw := hw x3_3 ex
        refine v_iinc (pc := 30) C 3 rfl (by rw [ex, ki_1]) [(3, .int x3_3), (2, .int x2_2), (0, .ref (a 0)), (1, .int x1)] rfl (by decide) dX4_writtenOn_30 ?_
        refine v_goto (pc := 33) C 4 (by decide) dX4_writtenOn_33 ?_
        refine v_sub (lv' := [(0, .ref (a 0)), (1, .int x1), (2, .int x2_2), (3, .int x3_3)]) [2, 3, 1, 0] rfl ?_
        exact hself x1 x2_2 x3_3 hw
set_option maxHeartbeats 4000000 in
set_option maxRecDepth 100000 in
theorem ctX4_writtenOn (l : Launch) (E : VE) (a : Nat → Nat) (x1 : Int32) (p : St)  {Post : Int32 → Prop} (hw : wpX4_writtenOn x1 p Post) (sz : Nat) : Met l yX4_writtenOn (mW yX4_writtenOn cX4_writtenOn 4 (some .int)) rmX4_writtenOn (CPre E [.ref (a 0), .int x1] sz (fl [bPad E a p])) (CQi E (fun (z : Int32) (_ : Unit) => Post z) (fun _ => (fl [bPad E a p])) (fl [bPad E a p]) sz) 0 0 (va_A (fl [bPad E a p]) sz) := by
  refine v_met (by decide) (Nat.le_of_ble_eq_true rfl) ?_
  intro pr e s m below meth c A hsz hA C
  subst hsz
  refine v_iconst (pc := 0) C 0 ki_0 dX4_writtenOn_0 ?_
  refine v_istore_n (pc := 1) C [(2, .int 0), (0, .ref (a 0)), (1, .int x1)] rfl rfl (by decide) dX4_writtenOn_1 ?_
  refine v_iconst (pc := 2) C 0 ki_0 dX4_writtenOn_2 ?_
  refine v_istore_n (pc := 3) C [(3, .int 0), (2, .int 0), (0, .ref (a 0)), (1, .int x1)] rfl rfl (by decide) dX4_writtenOn_3 ?_
  obtain ⟨n, hw⟩ := hw
  refine v_sub (lv' := [(0, .ref (a 0)), (1, .int x1), (2, .int 0), (3, .int 0)]) [2, 3, 1, 0] rfl ?_
  refine vlX4_writtenOn_4 C hA a p (fun y4 hw => ?_) n x1 0 0 hw
  refine v_iload_n (pc := 36) C 0 rfl rfl dX4_writtenOn_36 ?_
  exact v_ireti (pc := 37) C () hA rfl hw dX4_writtenOn_37
set_option maxHeartbeats 4000000 in
set_option maxRecDepth 100000 in
theorem ctX4_cellsDented (l : Launch) (E : VE) (a : Nat → Nat) (x1 : Int32) (x2 : Int32) (p : St)  {Post : Int32 → Prop} (hw : wpX4_cellsDented x1 x2 p Post) (sz : Nat) : Met l yX4_cellsDented (mW yX4_cellsDented cX4_cellsDented 3 (some .int)) rmX4_cellsDented (CPre E [.ref (a 0), .int x1, .int x2] sz (fl [bPad E a p])) (CQi E (fun (z : Int32) (_ : Unit) => Post z) (fun _ => (fl [bPad E a p])) (fl [bPad E a p]) sz) 0 0 (va_A (fl [bPad E a p]) sz) := by
  refine v_met (by decide) (Nat.le_of_ble_eq_true rfl) ?_
  intro pr e s m below meth c A hsz hA C
  subst hsz
  refine v_aload_n (pc := 0) C 0 rfl rfl dX4_cellsDented_0 ?_
  refine v_iload_n (pc := 1) C 1 rfl rfl dX4_cellsDented_1 ?_
  refine v_iload_n (pc := 2) C 2 rfl rfl dX4_cellsDented_2 ?_
  refine v_goAi (pc := 3) C (wc' := (fun (_ : Unit) => (fl [bPad E a p]))) (fun _ => rfl) (v_runVA (pc := 3) C [.int x1, .int x2] [] (fun sz => ctX4_forceOn l E a x1 x2 p hw sz) mfX4_forceOn mvX4_forceOn wmX4_69 rfl ⟨Nat.le_of_ble_eq_true rfl, Nat.le_of_ble_eq_true rfl⟩ ⟨rfl, rfl⟩ 0 (ci := 4) (qc := (RX4, TX4, 12)) rfl rfl rfl rfl (Nat.le_of_ble_eq_true rfl) ⟨Nat.zero_le _, Nat.zero_le _⟩ dX4_cellsDented_3) (fun r1 _ hw => ?_)
  refine v_if_le (pc := 6) C 18 (by decide) dX4_cellsDented_6 (fun hc => ?_) (fun hc => ?_)
  · have hw := hw.1 hc
    refine v_iconst (pc := 18) C 0 ki_0 dX4_cellsDented_18 ?_
    exact v_ireti (pc := 19) C () hA rfl hw dX4_cellsDented_19
  · have hw := hw.2 hc
    refine v_aload_n (pc := 9) C 0 rfl rfl dX4_cellsDented_9 ?_
    refine v_get (pc := 10) C cfX4 rfl 0 7 rfl (by decide) wfX4_34 rfl dX4_cellsDented_10 ?_
    refine v_iload_n (pc := 13) C 1 rfl rfl dX4_cellsDented_13 ?_
    obtain ⟨hg, hw⟩ := hw
    refine v_iald (pc := 14) C 5 rfl hg rfl dX4_cellsDented_14 ?_
    refine v_goto (pc := 15) C 19 (by decide) dX4_cellsDented_15 ?_
    exact v_ireti (pc := 19) C () hA rfl hw dX4_cellsDented_19
set_option maxHeartbeats 4000000 in
set_option maxRecDepth 100000 in
theorem vlX4_dentedBy_4 (C : VC pr s m args meth c E A cX4_dentedBy 4 (some .int) RX4) (hA : va_A w0 s.heap.size = A) (a : Nat → Nat) (p : St) {Post : Int32 → Prop} {KX : Int32 → Prop} (hX : ∀ (x2 : Int32), KX x2 → V pr l e rmX4_dentedBy s m args below meth c E A 4 0 0 (MQ below (CQi E (fun (z : Int32) (_ : Unit) => Post z) (fun _ => (fl [bPad E a p])) w0 s.heap.size) args s 0 0 A) (fl [bPad E a p]) 35 [(2, .int x2)] []) : ∀ (n : Nat) (x1 : Int32) (x2 : Int32) (x3 : Int32), wLX4_dentedBy_4 p Post KX n (x1, x2, x3) → V pr l e rmX4_dentedBy s m args below meth c E A 4 0 0 (MQ below (CQi E (fun (z : Int32) (_ : Unit) => Post z) (fun _ => (fl [bPad E a p])) w0 s.heap.size) args s 0 0 A) (fl [bPad E a p]) 4 [(0, .ref (a 0)), (1, .int x1), (2, .int x2), (3, .int x3)] [] := by
  intro n
  induction n with
  | zero => intro x1 x2 x3 hw; exact absurd hw id
  | succ n hself =>
    intro x1 x2 x3 hw
    have hw : wlX4_dentedBy_4 p Post KX (wLX4_dentedBy_4 p Post KX n) x1 x2 x3 := hw
    refine v_iload_n (pc := 4) C 3 rfl rfl dX4_dentedBy_4 ?_
    refine v_aload_n (pc := 5) C 0 rfl rfl dX4_dentedBy_5 ?_
    refine v_get (pc := 6) C cfX4 rfl 0 0 rfl (by decide) wfX4_11 rfl dX4_dentedBy_6 ?_
    refine v_iconst (pc := 9) C 1 ki_1 dX4_dentedBy_9 ?_
    refine v_iald (pc := 10) C 1 rfl vi_1_86 tn_1 dX4_dentedBy_10 ?_
    refine v_icmp_ge (pc := 11) C 35 (by decide) dX4_dentedBy_11 (fun hc => ?_) (fun hc => ?_)
    · have hw := hw.1 hc
      refine v_sub (lv' := [(2, .int x2)]) [2] rfl ?_
      exact hX x2 hw
    · have hw := hw.2 hc
      refine v_aload_n (pc := 14) C 0 rfl rfl dX4_dentedBy_14 ?_
      refine v_iload_n (pc := 15) C 3 rfl rfl dX4_dentedBy_15 ?_
      refine v_iload_n (pc := 16) C 1 rfl rfl dX4_dentedBy_16 ?_
      refine v_goAi (pc := 17) C (wc' := (fun (_ : Unit) => (fl [bPad E a p]))) (fun _ => rfl) (v_runVA (pc := 17) C [.int x3, .int x1] [] (fun sz => ctX4_cellsDented l E a x3 x1 p hw sz) mfX4_cellsDented mvX4_cellsDented wmX4_83 rfl ⟨Nat.le_of_ble_eq_true rfl, Nat.le_of_ble_eq_true rfl⟩ ⟨rfl, rfl⟩ 0 (ci := 4) (qc := (RX4, TX4, 12)) rfl rfl rfl rfl (Nat.le_of_ble_eq_true rfl) ⟨Nat.zero_le _, Nat.zero_le _⟩ dX4_dentedBy_17) (fun r1 _ hw => ?_)
      refine v_if_eq (pc := 20) C 29 (by decide) dX4_dentedBy_20 (fun hc => ?_) (fun hc => ?_)
      · have hw := hw.1 hc
        obtain ⟨x3_2, ex⟩ : ∃ y : Int32, y = x3 + 1 := ⟨_, rfl⟩
        have hw := hw x3_2 ex
        refine v_iinc (pc := 29) C 3 rfl (by rw [ex, ki_1]) [(3, .int x3_2), (0, .ref (a 0)), (1, .int x1), (2, .int x2)] rfl (by decide) dX4_dentedBy_29 ?_
        refine v_goto (pc := 32) C 4 (by decide) dX4_dentedBy_32 ?_
        refine v_sub (lv' := [(0, .ref (a 0)), (1, .int x1), (2, .int x2), (3, .int x3_2)]) [1, 2, 3, 0] rfl ?_
        exact hself x1 x2 x3_2 hw
      · have hw := hw.2 hc
        refine v_iload_n (pc := 23) C 2 rfl rfl dX4_dentedBy_23 ?_
        refine v_iconst (pc := 24) C 1 ki_1 dX4_dentedBy_24 ?_
        refine v_iload_n (pc := 25) C 3 rfl rfl dX4_dentedBy_25 ?_
        refine v_ishl (pc := 26) C dX4_dentedBy_26 ?_
        refine v_ior (pc := 27) C dX4_dentedBy_27 ?_
        refine v_topi (fun x2_3 ex => ?_)
        have hw := hw x2_3 ex
        refine v_istore_n (pc := 28) C [(2, .int x2_3), (0, .ref (a 0)), (1, .int x1), (3, .int x3)] rfl rfl (by decide) dX4_dentedBy_28 ?_
        obtain ⟨x3_4, ex⟩ : ∃ y : Int32, y = x3 + 1 := ⟨_, rfl⟩
        have hw := hw x3_4 ex
        refine v_iinc (pc := 29) C 3 rfl (by rw [ex, ki_1]) [(3, .int x3_4), (2, .int x2_3), (0, .ref (a 0)), (1, .int x1)] rfl (by decide) dX4_dentedBy_29 ?_
        refine v_goto (pc := 32) C 4 (by decide) dX4_dentedBy_32 ?_
        refine v_sub (lv' := [(0, .ref (a 0)), (1, .int x1), (2, .int x2_3), (3, .int x3_4)]) [2, 3, 1, 0] rfl ?_
        exact hself x1 x2_3 x3_4 hw
set_option maxHeartbeats 4000000 in
set_option maxRecDepth 100000 in
theorem ctX4_dentedBy (l : Launch) (E : VE) (a : Nat → Nat) (x1 : Int32) (p : St)  {Post : Int32 → Prop} (hw : wpX4_dentedBy x1 p Post) (sz : Nat) : Met l yX4_dentedBy (mW yX4_dentedBy cX4_dentedBy 4 (some .int)) rmX4_dentedBy (CPre E [.ref (a 0), .int x1] sz (fl [bPad E a p])) (CQi E (fun (z : Int32) (_ : Unit) => Post z) (fun _ => (fl [bPad E a p])) (fl [bPad E a p]) sz) 0 0 (va_A (fl [bPad E a p]) sz) := by
  refine v_met (by decide) (Nat.le_of_ble_eq_true rfl) ?_
  intro pr e s m below meth c A hsz hA C
  subst hsz
  refine v_iconst (pc := 0) C 0 ki_0 dX4_dentedBy_0 ?_
  refine v_istore_n (pc := 1) C [(2, .int 0), (0, .ref (a 0)), (1, .int x1)] rfl rfl (by decide) dX4_dentedBy_1 ?_
  refine v_iconst (pc := 2) C 0 ki_0 dX4_dentedBy_2 ?_
  refine v_istore_n (pc := 3) C [(3, .int 0), (2, .int 0), (0, .ref (a 0)), (1, .int x1)] rfl rfl (by decide) dX4_dentedBy_3 ?_
  obtain ⟨n, hw⟩ := hw
  refine v_sub (lv' := [(0, .ref (a 0)), (1, .int x1), (2, .int 0), (3, .int 0)]) [2, 3, 1, 0] rfl ?_
  refine vlX4_dentedBy_4 C hA a p (fun y5 hw => ?_) n x1 0 0 hw
  refine v_iload_n (pc := 35) C 0 rfl rfl dX4_dentedBy_35 ?_
  exact v_ireti (pc := 36) C () hA rfl hw dX4_dentedBy_36
set_option maxHeartbeats 4000000 in
set_option maxRecDepth 100000 in
theorem vlX4_dentedAtLeast_5 (C : VC pr s m args meth c E A cX4_dentedAtLeast 5 (some .int) RX4) (hA : va_A w0 s.heap.size = A) (a : Nat → Nat) (p : St) {Post : Int32 → Prop} {KX : Int32 → Prop} (hX : ∀ (x3 : Int32), KX x3 → V pr l e rmX4_dentedAtLeast s m args below meth c E A 5 0 0 (MQ below (CQi E (fun (z : Int32) (_ : Unit) => Post z) (fun _ => (fl [bPad E a p])) w0 s.heap.size) args s 0 0 A) (fl [bPad E a p]) 36 [(3, .int x3)] []) : ∀ (n : Nat) (x1 : Int32) (x2 : Int32) (x3 : Int32) (x4 : Int32), wLX4_dentedAtLeast_5 p Post KX n (x1, x2, x3, x4) → V pr l e rmX4_dentedAtLeast s m args below meth c E A 5 0 0 (MQ below (CQi E (fun (z : Int32) (_ : Unit) => Post z) (fun _ => (fl [bPad E a p])) w0 s.heap.size) args s 0 0 A) (fl [bPad E a p]) 5 [(0, .ref (a 0)), (1, .int x1), (2, .int x2), (3, .int x3), (4, .int x4)] [] := by
  intro n
  induction n with
  | zero => intro x1 x2 x3 x4 hw; exact absurd hw id
  | succ n hself =>
    intro x1 x2 x3 x4 hw
    have hw : wlX4_dentedAtLeast_5 p Post KX (wLX4_dentedAtLeast_5 p Post KX n) x1 x2 x3 x4 := hw
    refine v_iload (pc := 5) C 4 rfl dX4_dentedAtLeast_5 ?_
    refine v_bipush (pc := 7) C 12 kb_12 dX4_dentedAtLeast_7 ?_
    refine v_icmp_ge (pc := 9) C 36 (by decide) dX4_dentedAtLeast_9 (fun hc => ?_) (fun hc => ?_)
    · have hw := hw.1 hc
      refine v_sub (lv' := [(3, .int x3)]) [3] rfl ?_
      exact hX x3 hw
    · have hw := hw.2 hc
      refine v_aload_n (pc := 12) C 0 rfl rfl dX4_dentedAtLeast_12 ?_
      refine v_iload_n (pc := 13) C 1 rfl rfl dX4_dentedAtLeast_13 ?_
      refine v_iload (pc := 14) C 4 rfl dX4_dentedAtLeast_14 ?_
      refine v_goAi (pc := 16) C (wc' := (fun (_ : Unit) => (fl [bPad E a p]))) (fun _ => rfl) (v_runVA (pc := 16) C [.int x1, .int x4] [] (fun sz => ctX4_dentOf l E a x1 x4 p hw sz) mfX4_dentOf mvX4_dentOf wmX4_86 rfl ⟨Nat.le_of_ble_eq_true rfl, Nat.le_of_ble_eq_true rfl⟩ ⟨rfl, rfl⟩ 0 (ci := 4) (qc := (RX4, TX4, 12)) rfl rfl rfl rfl (Nat.le_of_ble_eq_true rfl) ⟨Nat.zero_le _, Nat.zero_le _⟩ dX4_dentedAtLeast_16) (fun r1 _ hw => ?_)
      refine v_iload_n (pc := 19) C 2 rfl rfl dX4_dentedAtLeast_19 ?_
      refine v_icmp_lt (pc := 20) C 30 (by decide) dX4_dentedAtLeast_20 (fun hc => ?_) (fun hc => ?_)
      · have hw := hw.1 hc
        obtain ⟨x4_2, ex⟩ : ∃ y : Int32, y = x4 + 1 := ⟨_, rfl⟩
        have hw := hw x4_2 ex
        refine v_iinc (pc := 30) C 4 rfl (by rw [ex, ki_1]) [(4, .int x4_2), (0, .ref (a 0)), (1, .int x1), (2, .int x2), (3, .int x3)] rfl (by decide) dX4_dentedAtLeast_30 ?_
        refine v_goto (pc := 33) C 5 (by decide) dX4_dentedAtLeast_33 ?_
        refine v_sub (lv' := [(0, .ref (a 0)), (1, .int x1), (2, .int x2), (3, .int x3), (4, .int x4_2)]) [1, 2, 3, 4, 0] rfl ?_
        exact hself x1 x2 x3 x4_2 hw
      · have hw := hw.2 hc
        refine v_iload_n (pc := 23) C 3 rfl rfl dX4_dentedAtLeast_23 ?_
        refine v_iconst (pc := 24) C 1 ki_1 dX4_dentedAtLeast_24 ?_
        refine v_iload (pc := 25) C 4 rfl dX4_dentedAtLeast_25 ?_
        refine v_ishl (pc := 27) C dX4_dentedAtLeast_27 ?_
        refine v_ior (pc := 28) C dX4_dentedAtLeast_28 ?_
        refine v_topi (fun x3_3 ex => ?_)
        have hw := hw x3_3 ex
        refine v_istore_n (pc := 29) C [(3, .int x3_3), (0, .ref (a 0)), (1, .int x1), (2, .int x2), (4, .int x4)] rfl rfl (by decide) dX4_dentedAtLeast_29 ?_
        obtain ⟨x4_4, ex⟩ : ∃ y : Int32, y = x4 + 1 := ⟨_, rfl⟩
        have hw := hw x4_4 ex
        refine v_iinc (pc := 30) C 4 rfl (by rw [ex, ki_1]) [(4, .int x4_4), (3, .int x3_3), (0, .ref (a 0)), (1, .int x1), (2, .int x2)] rfl (by decide) dX4_dentedAtLeast_30 ?_
        refine v_goto (pc := 33) C 5 (by decide) dX4_dentedAtLeast_33 ?_
        refine v_sub (lv' := [(0, .ref (a 0)), (1, .int x1), (2, .int x2), (3, .int x3_3), (4, .int x4_4)]) [2, 3, 4, 1, 0] rfl ?_
        exact hself x1 x2 x3_3 x4_4 hw
set_option maxHeartbeats 4000000 in
set_option maxRecDepth 100000 in
theorem ctX4_dentedAtLeast (l : Launch) (E : VE) (a : Nat → Nat) (x1 : Int32) (x2 : Int32) (p : St)  {Post : Int32 → Prop} (hw : wpX4_dentedAtLeast x1 x2 p Post) (sz : Nat) : Met l yX4_dentedAtLeast (mW yX4_dentedAtLeast cX4_dentedAtLeast 5 (some .int)) rmX4_dentedAtLeast (CPre E [.ref (a 0), .int x1, .int x2] sz (fl [bPad E a p])) (CQi E (fun (z : Int32) (_ : Unit) => Post z) (fun _ => (fl [bPad E a p])) (fl [bPad E a p]) sz) 0 0 (va_A (fl [bPad E a p]) sz) := by
  refine v_met (by decide) (Nat.le_of_ble_eq_true rfl) ?_
  intro pr e s m below meth c A hsz hA C
  subst hsz
  refine v_iconst (pc := 0) C 0 ki_0 dX4_dentedAtLeast_0 ?_
  refine v_istore_n (pc := 1) C [(3, .int 0), (0, .ref (a 0)), (1, .int x1), (2, .int x2)] rfl rfl (by decide) dX4_dentedAtLeast_1 ?_
  refine v_iconst (pc := 2) C 0 ki_0 dX4_dentedAtLeast_2 ?_
  refine v_istore (pc := 3) C [(4, .int 0), (3, .int 0), (0, .ref (a 0)), (1, .int x1), (2, .int x2)] rfl (by decide) dX4_dentedAtLeast_3 ?_
  obtain ⟨n, hw⟩ := hw
  refine v_sub (lv' := [(0, .ref (a 0)), (1, .int x1), (2, .int x2), (3, .int 0), (4, .int 0)]) [2, 3, 4, 1, 0] rfl ?_
  refine vlX4_dentedAtLeast_5 C hA a p (fun y5 hw => ?_) n x1 x2 0 0 hw
  refine v_iload_n (pc := 36) C 0 rfl rfl dX4_dentedAtLeast_36 ?_
  exact v_ireti (pc := 37) C () hA rfl hw dX4_dentedAtLeast_37
set_option maxHeartbeats 4000000 in
set_option maxRecDepth 100000 in
theorem vlX4_digestFrom_15 (C : VC pr s m args meth c E A cX4_digestFrom 7 (some .long) RX4) (hA : va_A w0 s.heap.size = A) (a : Nat → Nat) (p : St) {Post : Int64 → Prop} {KX : Int64 → Prop} (hX : ∀ (x3 : Int64), KX x3 → V pr l e rmX4_digestFrom s m args below meth c E A 7 0 0 (MQ below (CQl E (fun (z : Int64) (_ : Unit) => Post z) (fun _ => (fl [bPad E a p])) w0 s.heap.size) args s 0 0 A) (fl [bPad E a p]) 50 [(0, .ref (a 0)), (3, .long x3)] []) : ∀ (n : Nat) (x3 : Int64) (x5 : Int32) (x6 : Int32), wLX4_digestFrom_15 p Post KX n (x3, x5, x6) → V pr l e rmX4_digestFrom s m args below meth c E A 7 0 0 (MQ below (CQl E (fun (z : Int64) (_ : Unit) => Post z) (fun _ => (fl [bPad E a p])) w0 s.heap.size) args s 0 0 A) (fl [bPad E a p]) 15 [(0, .ref (a 0)), (3, .long x3), (5, .int x5), (6, .int x6)] [] := by
  intro n
  induction n with
  | zero => intro x3 x5 x6 hw; exact absurd hw id
  | succ n hself =>
    intro x3 x5 x6 hw
    have hw : wlX4_digestFrom_15 p Post KX (wLX4_digestFrom_15 p Post KX n) x3 x5 x6 := hw
    refine v_iload (pc := 15) C 3 rfl dX4_digestFrom_15 ?_
    refine v_iload (pc := 17) C 2 rfl dX4_digestFrom_17 ?_
    refine v_icmp_ge (pc := 19) C 50 (by decide) dX4_digestFrom_19 (fun hc => ?_) (fun hc => ?_)
    · have hw := hw.1 hc
      refine v_sub (lv' := [(0, .ref (a 0)), (3, .long x3)]) [0, 1] rfl ?_
      exact hX x3 hw
    · have hw := hw.2 hc
      refine v_iload (pc := 22) C 3 rfl dX4_digestFrom_22 ?_
      refine v_bipush (pc := 24) C 86 kb_86 dX4_digestFrom_24 ?_
      refine v_icmp_ge (pc := 26) C 50 (by decide) dX4_digestFrom_26 (fun hc => ?_) (fun hc => ?_)
      · have hw := hw.1 hc
        refine v_sub (lv' := [(0, .ref (a 0)), (3, .long x3)]) [0, 1] rfl ?_
        exact hX x3 hw
      · have hw := hw.2 hc
        refine v_ldc2 (pc := 29) C 31 wlX4_89 dX4_digestFrom_29 ?_
        refine v_lload_n (pc := 32) C 1 rfl rfl dX4_digestFrom_32 ?_
        refine v_lmul (pc := 33) C dX4_digestFrom_33 ?_
        refine v_aload_n (pc := 34) C 0 rfl rfl dX4_digestFrom_34 ?_
        refine v_get (pc := 35) C cfX4 rfl 0 0 rfl (by decide) wfX4_11 rfl dX4_digestFrom_35 ?_
        refine v_iload (pc := 38) C 3 rfl dX4_digestFrom_38 ?_
        obtain ⟨hg, hw⟩ := hw
        refine v_iald (pc := 40) C 1 rfl hg rfl dX4_digestFrom_40 ?_
        refine v_i2l (pc := 41) C dX4_digestFrom_41 ?_
        refine v_ladd (pc := 42) C dX4_digestFrom_42 ?_
        refine v_topl (fun x3_2 ex => ?_)
        have hw := hw x3_2 ex
        refine v_lstore_n (pc := 43) C [(3, .long x3_2), (0, .ref (a 0)), (5, .int x5), (6, .int x6)] rfl rfl (by decide) dX4_digestFrom_43 ?_
        obtain ⟨x6_3, ex⟩ : ∃ y : Int32, y = x6 + 1 := ⟨_, rfl⟩
        have hw := hw x6_3 ex
        refine v_iinc (pc := 44) C 3 rfl (by rw [ex, ki_1]) [(6, .int x6_3), (3, .long x3_2), (0, .ref (a 0)), (5, .int x5)] rfl (by decide) dX4_digestFrom_44 ?_
        refine v_goto (pc := 47) C 15 (by decide) dX4_digestFrom_47 ?_
        refine v_sub (lv' := [(0, .ref (a 0)), (3, .long x3_2), (5, .int x5), (6, .int x6_3)]) [2, 1, 3, 0] rfl ?_
        exact hself x3_2 x5 x6_3 hw
set_option maxHeartbeats 4000000 in
set_option maxRecDepth 100000 in
theorem vlX4_digestFrom_53 (C : VC pr s m args meth c E A cX4_digestFrom 7 (some .long) RX4) (hA : va_A w0 s.heap.size = A) (a : Nat → Nat) (p : St) {Post : Int64 → Prop} {KX : Int64 → Prop} (hX : ∀ (x3 : Int64), KX x3 → V pr l e rmX4_digestFrom s m args below meth c E A 7 0 0 (MQ below (CQl E (fun (z : Int64) (_ : Unit) => Post z) (fun _ => (fl [bPad E a p])) w0 s.heap.size) args s 0 0 A) (fl [bPad E a p]) 130 [(0, .ref (a 0)), (3, .long x3)] []) : ∀ (n : Nat) (x3 : Int64) (x6 : Int32), wLX4_digestFrom_53 p Post KX n (x3, x6) → V pr l e rmX4_digestFrom s m args below meth c E A 7 0 0 (MQ below (CQl E (fun (z : Int64) (_ : Unit) => Post z) (fun _ => (fl [bPad E a p])) w0 s.heap.size) args s 0 0 A) (fl [bPad E a p]) 53 [(0, .ref (a 0)), (3, .long x3), (6, .int x6)] [] := by
  intro n
  induction n with
  | zero => intro x3 x6 hw; exact absurd hw id
  | succ n hself =>
    intro x3 x6 hw
    have hw : wlX4_digestFrom_53 p Post KX (wLX4_digestFrom_53 p Post KX n) x3 x6 := hw
    refine v_iload (pc := 53) C 2 rfl dX4_digestFrom_53 ?_
    refine v_aload_n (pc := 55) C 0 rfl rfl dX4_digestFrom_55 ?_
    refine v_get (pc := 56) C cfX4 rfl 0 0 rfl (by decide) wfX4_11 rfl dX4_digestFrom_56 ?_
    refine v_iconst (pc := 59) C 1 ki_1 dX4_digestFrom_59 ?_
    refine v_iald (pc := 60) C 1 rfl vi_1_86 tn_1 dX4_digestFrom_60 ?_
    refine v_icmp_ge (pc := 61) C 130 (by decide) dX4_digestFrom_61 (fun hc => ?_) (fun hc => ?_)
    · have hw := hw.1 hc
      refine v_sub (lv' := [(0, .ref (a 0)), (3, .long x3)]) [0, 1] rfl ?_
      exact hX x3 hw
    · have hw := hw.2 hc
      refine v_ldc2 (pc := 64) C 31 wlX4_89 dX4_digestFrom_64 ?_
      refine v_lload_n (pc := 67) C 1 rfl rfl dX4_digestFrom_67 ?_
      refine v_lmul (pc := 68) C dX4_digestFrom_68 ?_
      refine v_aload_n (pc := 69) C 0 rfl rfl dX4_digestFrom_69 ?_
      refine v_get (pc := 70) C cfX4 rfl 0 5 rfl (by decide) wfX4_28 rfl dX4_digestFrom_70 ?_
      refine v_iload (pc := 73) C 2 rfl dX4_digestFrom_73 ?_
      obtain ⟨hg, hw⟩ := hw
      refine v_iald (pc := 75) C 3 rfl hg rfl dX4_digestFrom_75 ?_
      refine v_i2l (pc := 76) C dX4_digestFrom_76 ?_
      refine v_ladd (pc := 77) C dX4_digestFrom_77 ?_
      refine v_topl (fun x3_5 ex => ?_)
      have hw := hw x3_5 ex
      refine v_lstore_n (pc := 78) C [(3, .long x3_5), (0, .ref (a 0)), (6, .int x6)] rfl rfl (by decide) dX4_digestFrom_78 ?_
      refine v_ldc2 (pc := 79) C 31 wlX4_89 dX4_digestFrom_79 ?_
      refine v_lload_n (pc := 82) C 0 rfl rfl dX4_digestFrom_82 ?_
      refine v_lmul (pc := 83) C dX4_digestFrom_83 ?_
      refine v_aload_n (pc := 84) C 1 rfl rfl dX4_digestFrom_84 ?_
      refine v_get (pc := 85) C cfX4 rfl 0 6 rfl (by decide) wfX4_31 rfl dX4_digestFrom_85 ?_
      refine v_iload (pc := 88) C 2 rfl dX4_digestFrom_88 ?_
      obtain ⟨hg, hw⟩ := hw
      refine v_iald (pc := 90) C 4 rfl hg rfl dX4_digestFrom_90 ?_
      refine v_i2l (pc := 91) C dX4_digestFrom_91 ?_
      refine v_ladd (pc := 92) C dX4_digestFrom_92 ?_
      refine v_topl (fun x3_6 ex => ?_)
      have hw := hw x3_6 ex
      refine v_lstore_n (pc := 93) C [(3, .long x3_6), (0, .ref (a 0)), (6, .int x6)] rfl rfl (by decide) dX4_digestFrom_93 ?_
      refine v_ldc2 (pc := 94) C 31 wlX4_89 dX4_digestFrom_94 ?_
      refine v_lload_n (pc := 97) C 0 rfl rfl dX4_digestFrom_97 ?_
      refine v_lmul (pc := 98) C dX4_digestFrom_98 ?_
      refine v_aload_n (pc := 99) C 1 rfl rfl dX4_digestFrom_99 ?_
      refine v_get (pc := 100) C cfX4 rfl 0 7 rfl (by decide) wfX4_34 rfl dX4_digestFrom_100 ?_
      refine v_iload (pc := 103) C 2 rfl dX4_digestFrom_103 ?_
      obtain ⟨hg, hw⟩ := hw
      refine v_iald (pc := 105) C 5 rfl hg rfl dX4_digestFrom_105 ?_
      refine v_i2l (pc := 106) C dX4_digestFrom_106 ?_
      refine v_ladd (pc := 107) C dX4_digestFrom_107 ?_
      refine v_topl (fun x3_7 ex => ?_)
      have hw := hw x3_7 ex
      refine v_lstore_n (pc := 108) C [(3, .long x3_7), (0, .ref (a 0)), (6, .int x6)] rfl rfl (by decide) dX4_digestFrom_108 ?_
      refine v_ldc2 (pc := 109) C 31 wlX4_89 dX4_digestFrom_109 ?_
      refine v_lload_n (pc := 112) C 0 rfl rfl dX4_digestFrom_112 ?_
      refine v_lmul (pc := 113) C dX4_digestFrom_113 ?_
      refine v_aload_n (pc := 114) C 1 rfl rfl dX4_digestFrom_114 ?_
      refine v_get (pc := 115) C cfX4 rfl 0 8 rfl (by decide) wfX4_37 rfl dX4_digestFrom_115 ?_
      refine v_iload (pc := 118) C 2 rfl dX4_digestFrom_118 ?_
      obtain ⟨hg, hw⟩ := hw
      refine v_iald (pc := 120) C 6 rfl hg rfl dX4_digestFrom_120 ?_
      refine v_i2l (pc := 121) C dX4_digestFrom_121 ?_
      refine v_ladd (pc := 122) C dX4_digestFrom_122 ?_
      refine v_topl (fun x3_8 ex => ?_)
      have hw := hw x3_8 ex
      refine v_lstore_n (pc := 123) C [(3, .long x3_8), (0, .ref (a 0)), (6, .int x6)] rfl rfl (by decide) dX4_digestFrom_123 ?_
      obtain ⟨x6_9, ex⟩ : ∃ y : Int32, y = x6 + 1 := ⟨_, rfl⟩
      have hw := hw x6_9 ex
      refine v_iinc (pc := 124) C 2 rfl (by rw [ex, ki_1]) [(6, .int x6_9), (3, .long x3_8), (0, .ref (a 0))] rfl (by decide) dX4_digestFrom_124 ?_
      refine v_goto (pc := 127) C 53 (by decide) dX4_digestFrom_127 ?_
      refine v_sub (lv' := [(0, .ref (a 0)), (3, .long x3_8), (6, .int x6_9)]) [2, 1, 0] rfl ?_
      exact hself x3_8 x6_9 hw
set_option maxHeartbeats 4000000 in
set_option maxRecDepth 100000 in
theorem vlX4_digestFrom_133 (C : VC pr s m args meth c E A cX4_digestFrom 7 (some .long) RX4) (hA : va_A w0 s.heap.size = A) (a : Nat → Nat) (p : St) {Post : Int64 → Prop} {KX : Int64 → Prop} (hX : ∀ (x3 : Int64), KX x3 → V pr l e rmX4_digestFrom s m args below meth c E A 7 0 0 (MQ below (CQl E (fun (z : Int64) (_ : Unit) => Post z) (fun _ => (fl [bPad E a p])) w0 s.heap.size) args s 0 0 A) (fl [bPad E a p]) 163 [(3, .long x3)] []) : ∀ (n : Nat) (x3 : Int64) (x6 : Int32), wLX4_digestFrom_133 p Post KX n (x3, x6) → V pr l e rmX4_digestFrom s m args below meth c E A 7 0 0 (MQ below (CQl E (fun (z : Int64) (_ : Unit) => Post z) (fun _ => (fl [bPad E a p])) w0 s.heap.size) args s 0 0 A) (fl [bPad E a p]) 133 [(0, .ref (a 0)), (3, .long x3), (6, .int x6)] [] := by
  intro n
  induction n with
  | zero => intro x3 x6 hw; exact absurd hw id
  | succ n hself =>
    intro x3 x6 hw
    have hw : wlX4_digestFrom_133 p Post KX (wLX4_digestFrom_133 p Post KX n) x3 x6 := hw
    refine v_iload (pc := 133) C 2 rfl dX4_digestFrom_133 ?_
    refine v_aload_n (pc := 135) C 0 rfl rfl dX4_digestFrom_135 ?_
    refine v_get (pc := 136) C cfX4 rfl 0 11 rfl (by decide) wfX4_46 rfl dX4_digestFrom_136 ?_
    refine v_icmp_ge (pc := 139) C 163 (by decide) dX4_digestFrom_139 (fun hc => ?_) (fun hc => ?_)
    · have hw := hw.1 hc
      refine v_sub (lv' := [(3, .long x3)]) [1] rfl ?_
      exact hX x3 hw
    · have hw := hw.2 hc
      refine v_ldc2 (pc := 142) C 31 wlX4_89 dX4_digestFrom_142 ?_
      refine v_lload_n (pc := 145) C 1 rfl rfl dX4_digestFrom_145 ?_
      refine v_lmul (pc := 146) C dX4_digestFrom_146 ?_
      refine v_aload_n (pc := 147) C 0 rfl rfl dX4_digestFrom_147 ?_
      refine v_get (pc := 148) C cfX4 rfl 0 10 rfl (by decide) wfX4_43 rfl dX4_digestFrom_148 ?_
      refine v_iload (pc := 151) C 2 rfl dX4_digestFrom_151 ?_
      obtain ⟨hg, hw⟩ := hw
      refine v_iald (pc := 153) C 8 rfl hg rfl dX4_digestFrom_153 ?_
      refine v_i2l (pc := 154) C dX4_digestFrom_154 ?_
      refine v_ladd (pc := 155) C dX4_digestFrom_155 ?_
      refine v_topl (fun x3_11 ex => ?_)
      have hw := hw x3_11 ex
      refine v_lstore_n (pc := 156) C [(3, .long x3_11), (0, .ref (a 0)), (6, .int x6)] rfl rfl (by decide) dX4_digestFrom_156 ?_
      obtain ⟨x6_12, ex⟩ : ∃ y : Int32, y = x6 + 1 := ⟨_, rfl⟩
      have hw := hw x6_12 ex
      refine v_iinc (pc := 157) C 2 rfl (by rw [ex, ki_1]) [(6, .int x6_12), (3, .long x3_11), (0, .ref (a 0))] rfl (by decide) dX4_digestFrom_157 ?_
      refine v_goto (pc := 160) C 133 (by decide) dX4_digestFrom_160 ?_
      refine v_sub (lv' := [(0, .ref (a 0)), (3, .long x3_11), (6, .int x6_12)]) [2, 1, 0] rfl ?_
      exact hself x3_11 x6_12 hw
set_option maxHeartbeats 4000000 in
set_option maxRecDepth 100000 in
theorem ctX4_digestFrom (l : Launch) (E : VE) (a : Nat → Nat) (x1 : Int64) (p : St)  {Post : Int64 → Prop} (hw : wpX4_digestFrom x1 p Post) (sz : Nat) : Met l yX4_digestFrom (mW yX4_digestFrom cX4_digestFrom 7 (some .long)) rmX4_digestFrom (CPre E [.ref (a 0), .long x1] sz (fl [bPad E a p])) (CQl E (fun (z : Int64) (_ : Unit) => Post z) (fun _ => (fl [bPad E a p])) (fl [bPad E a p]) sz) 0 0 (va_A (fl [bPad E a p]) sz) := by
  refine v_met (by decide) (Nat.le_of_ble_eq_true rfl) ?_
  intro pr e s m below meth c A hsz hA C
  subst hsz
  refine v_lload_n (pc := 0) C 1 rfl rfl dX4_digestFrom_0 ?_
  refine v_lstore_n (pc := 1) C [(3, .long x1), (0, .ref (a 0)), (1, .long x1)] rfl rfl (by decide) dX4_digestFrom_1 ?_
  refine v_aload_n (pc := 2) C 1 rfl rfl dX4_digestFrom_2 ?_
  refine v_get (pc := 3) C cfX4 rfl 0 3 rfl (by decide) wfX4_22 rfl dX4_digestFrom_3 ?_
  refine v_iconst (pc := 6) C 0 ki_0 dX4_digestFrom_6 ?_
  refine v_goBi (pc := 7) C (bs := [bPad E a p]) (cs := []) (cs' := (fun (_ : Unit) => [])) (bs' := (fun (_ : Unit) => [bPad E a p])) (w' := (fun (_ : Unit) => (fl [bPad E a p]))) [] rfl rfl (fun _ => rfl) (fun _ => rfl) (fun _ => rfl) (v_runSB (pc := 7) C [.int (p.I 3), .int 0] [] (fun sz => ctX4_placeOf l E (p.I 3) 0 hw sz) [] rfl rfl rfl mfX4_placeOf msX4_placeOf wmX4_55 rfl ⟨Nat.le_of_ble_eq_true rfl, Nat.le_of_ble_eq_true rfl⟩ ⟨rfl, rfl⟩ rfl (Nat.le_of_ble_eq_true rfl) ⟨Nat.zero_le _, Nat.zero_le _⟩ dX4_digestFrom_7) (fun r1 _ hw => ?_)
  refine v_istore (pc := 10) C [(5, .int r1), (3, .long x1), (0, .ref (a 0)), (1, .long x1)] rfl (by decide) dX4_digestFrom_10 ?_
  refine v_iconst (pc := 12) C 2 ki_2 dX4_digestFrom_12 ?_
  refine v_istore (pc := 13) C [(6, .int 2), (5, .int r1), (3, .long x1), (0, .ref (a 0)), (1, .long x1)] rfl (by decide) dX4_digestFrom_13 ?_
  obtain ⟨n, hw⟩ := hw
  refine v_sub (lv' := [(0, .ref (a 0)), (3, .long x1), (5, .int r1), (6, .int 2)]) [3, 2, 1, 0] rfl ?_
  refine vlX4_digestFrom_15 C hA a p (fun y4 hw => ?_) n x1 r1 2 hw
  refine v_iconst (pc := 50) C 0 ki_0 dX4_digestFrom_50 ?_
  refine v_istore (pc := 51) C [(6, .int 0), (0, .ref (a 0)), (3, .long y4)] rfl (by decide) dX4_digestFrom_51 ?_
  obtain ⟨n, hw⟩ := hw
  refine v_sub (lv' := [(0, .ref (a 0)), (3, .long y4), (6, .int 0)]) [1, 2, 0] rfl ?_
  refine vlX4_digestFrom_53 C hA a p (fun y10 hw => ?_) n y4 0 hw
  refine v_iconst (pc := 130) C 0 ki_0 dX4_digestFrom_130 ?_
  refine v_istore (pc := 131) C [(6, .int 0), (0, .ref (a 0)), (3, .long y10)] rfl (by decide) dX4_digestFrom_131 ?_
  obtain ⟨n, hw⟩ := hw
  refine v_sub (lv' := [(0, .ref (a 0)), (3, .long y10), (6, .int 0)]) [1, 2, 0] rfl ?_
  refine vlX4_digestFrom_133 C hA a p (fun y13 hw => ?_) n y10 0 hw
  refine v_lload_n (pc := 163) C 0 rfl rfl dX4_digestFrom_163 ?_
  exact v_lret (pc := 164) C () hA rfl hw dX4_digestFrom_164
set_option maxHeartbeats 4000000 in
set_option maxRecDepth 100000 in
theorem ctX7_fault (l : Launch) (E : VE) (a : Nat → Nat)  (p : St)  {Post : Int32 → Prop} (hw : wpX7_fault p Post) (sz : Nat) : Met l yX7_fault (mW yX7_fault cX7_fault 1 (some .int)) rmX7_fault (CPre E [.ref (a 0)] sz (fl [bReader E a p])) (CQi E (fun (z : Int32) (_ : Unit) => Post z) (fun _ => (fl [bReader E a p])) (fl [bReader E a p]) sz) 0 0 (va_A (fl [bReader E a p]) sz) := by
  refine v_met (by decide) (Nat.le_of_ble_eq_true rfl) ?_
  intro pr e s m below meth c A hsz hA C
  subst hsz
  refine v_aload_n (pc := 0) C 0 rfl rfl dX7_fault_0 ?_
  refine v_get (pc := 1) C cfX7 rfl 0 4 rfl (by decide) wfX7_25 rfl dX7_fault_1 ?_
  exact v_ireti (pc := 4) C () hA rfl hw dX7_fault_4
set_option maxHeartbeats 4000000 in
set_option maxRecDepth 100000 in
theorem ctX7_isWithin (l : Launch) (E : VE) (a : Nat → Nat) (x1 : Int32) (x2 : Int32) (x3 : Int32) (p : St)  {Post : Int32 → Prop} (hw : wpX7_isWithin x1 x2 x3 p Post) (sz : Nat) : Met l yX7_isWithin (mW yX7_isWithin cX7_isWithin 4 (some .boolean)) rmX7_isWithin (CPre E [.ref (a 0), .int x1, .int x2, .int x3] sz (fl [bReader E a p])) (CQi E (fun (z : Int32) (_ : Unit) => Post z) (fun _ => (fl [bReader E a p])) (fl [bReader E a p]) sz) 0 0 (va_A (fl [bReader E a p]) sz) := by
  refine v_met (by decide) (Nat.le_of_ble_eq_true rfl) ?_
  intro pr e s m below meth c A hsz hA C
  subst hsz
  refine v_iload_n (pc := 0) C 1 rfl rfl dX7_isWithin_0 ?_
  refine v_if_lt (pc := 1) C 36 (by decide) dX7_isWithin_1 (fun hc => ?_) (fun hc => ?_)
  · have hw := hw.1 hc
    refine v_iconst (pc := 36) C 0 ki_0 dX7_isWithin_36 ?_
    exact v_iretz (pc := 37) C rfl () hA rfl hw dX7_isWithin_37
  · have hw := hw.2 hc
    refine v_iload_n (pc := 4) C 1 rfl rfl dX7_isWithin_4 ?_
    refine v_aload_n (pc := 5) C 0 rfl rfl dX7_isWithin_5 ?_
    refine v_get (pc := 6) C cfX7 rfl 0 1 rfl (by decide) wfX7_15 rfl dX7_isWithin_6 ?_
    refine v_icmp_ge (pc := 9) C 36 (by decide) dX7_isWithin_9 (fun hc => ?_) (fun hc => ?_)
    · have hw := hw.1 hc
      refine v_iconst (pc := 36) C 0 ki_0 dX7_isWithin_36 ?_
      exact v_iretz (pc := 37) C rfl () hA rfl hw dX7_isWithin_37
    · have hw := hw.2 hc
      refine v_aload_n (pc := 12) C 0 rfl rfl dX7_isWithin_12 ?_
      refine v_get (pc := 13) C cfX7 rfl 0 0 rfl (by decide) wfX7_9 rfl dX7_isWithin_13 ?_
      refine v_iload_n (pc := 16) C 1 rfl rfl dX7_isWithin_16 ?_
      obtain ⟨hg, hw⟩ := hw
      refine v_iald (pc := 17) C 1 rfl hg rfl dX7_isWithin_17 ?_
      refine v_iload_n (pc := 18) C 2 rfl rfl dX7_isWithin_18 ?_
      refine v_icmp_lt (pc := 19) C 36 (by decide) dX7_isWithin_19 (fun hc => ?_) (fun hc => ?_)
      · have hw := hw.1 hc
        refine v_iconst (pc := 36) C 0 ki_0 dX7_isWithin_36 ?_
        exact v_iretz (pc := 37) C rfl () hA rfl hw dX7_isWithin_37
      · have hw := hw.2 hc
        refine v_aload_n (pc := 22) C 0 rfl rfl dX7_isWithin_22 ?_
        refine v_get (pc := 23) C cfX7 rfl 0 0 rfl (by decide) wfX7_9 rfl dX7_isWithin_23 ?_
        refine v_iload_n (pc := 26) C 1 rfl rfl dX7_isWithin_26 ?_
        obtain ⟨hg, hw⟩ := hw
        refine v_iald (pc := 27) C 1 rfl hg rfl dX7_isWithin_27 ?_
        refine v_iload_n (pc := 28) C 3 rfl rfl dX7_isWithin_28 ?_
        refine v_icmp_gt (pc := 29) C 36 (by decide) dX7_isWithin_29 (fun hc => ?_) (fun hc => ?_)
        · have hw := hw.1 hc
          refine v_iconst (pc := 36) C 0 ki_0 dX7_isWithin_36 ?_
          exact v_iretz (pc := 37) C rfl () hA rfl hw dX7_isWithin_37
        · have hw := hw.2 hc
          refine v_iconst (pc := 32) C 1 ki_1 dX7_isWithin_32 ?_
          refine v_goto (pc := 33) C 37 (by decide) dX7_isWithin_33 ?_
          exact v_iretz (pc := 37) C rfl () hA rfl hw dX7_isWithin_37
set_option maxHeartbeats 4000000 in
set_option maxRecDepth 100000 in
theorem vlX7_passWord_5 (C : VC pr s m args meth c E A cX7_passWord 1 none RX7) (hA : va_A w0 s.heap.size = A) (a : Nat → Nat)  {Post : St → Prop} {KX : St → Prop} (hX : ∀ (p : St), KX p → V pr l e rmX7_passWord s m args below meth c E A 1 0 0 (MQ below (CQv E Post (fun u => (fl [bReader E a u])) w0 s.heap.size) args s 0 0 A) (fl [bReader E a p]) 44 [] []) : ∀ (n : Nat) (p : St), wLX7_passWord_5  Post KX n p → V pr l e rmX7_passWord s m args below meth c E A 1 0 0 (MQ below (CQv E Post (fun u => (fl [bReader E a u])) w0 s.heap.size) args s 0 0 A) (fl [bReader E a p]) 5 [(0, .ref (a 0))] [] := by
  intro n
  induction n with
  | zero => intro p hw; exact absurd hw id
  | succ n hself =>
    intro p hw
    have hw : wlX7_passWord_5  Post KX (wLX7_passWord_5  Post KX n) p := hw
    refine v_aload_n (pc := 5) C 0 rfl rfl dX7_passWord_5 ?_
    refine v_get (pc := 6) C cfX7 rfl 0 2 rfl (by decide) wfX7_19 rfl dX7_passWord_6 ?_
    refine v_aload_n (pc := 9) C 0 rfl rfl dX7_passWord_9 ?_
    refine v_get (pc := 10) C cfX7 rfl 0 1 rfl (by decide) wfX7_15 rfl dX7_passWord_10 ?_
    refine v_icmp_ge (pc := 13) C 44 (by decide) dX7_passWord_13 (fun hc => ?_) (fun hc => ?_)
    · have hw := hw.1 hc
      refine v_sub (lv' := []) [] rfl ?_
      exact hX p hw
    · have hw := hw.2 hc
      refine v_aload_n (pc := 16) C 0 rfl rfl dX7_passWord_16 ?_
      refine v_aload_n (pc := 17) C 0 rfl rfl dX7_passWord_17 ?_
      refine v_get (pc := 18) C cfX7 rfl 0 2 rfl (by decide) wfX7_19 rfl dX7_passWord_18 ?_
      refine v_bipush (pc := 21) C 97 kb_97 dX7_passWord_21 ?_
      refine v_bipush (pc := 23) C 122 kb_122 dX7_passWord_23 ?_
      refine v_goAi (pc := 25) C (wc' := (fun (_ : Unit) => (fl [bReader E a p]))) (fun _ => rfl) (v_runVA (pc := 25) C [.int (p.I 2), .int 97, .int 122] [] (fun sz => ctX7_isWithin l E a (p.I 2) 97 122 p hw sz) mfX7_isWithin mvX7_isWithin wmX7_111 rfl ⟨Nat.le_of_ble_eq_true rfl, Nat.le_of_ble_eq_true rfl⟩ ⟨rfl, rfl⟩ 0 (ci := 7) (qc := (RX7, TX7, 8)) rfl rfl rfl rfl (Nat.le_of_ble_eq_true rfl) ⟨Nat.zero_le _, Nat.zero_le _⟩ dX7_passWord_25) (fun r2 _ hw => ?_)
      refine v_if_eq (pc := 28) C 44 (by decide) dX7_passWord_28 (fun hc => ?_) (fun hc => ?_)
      · have hw := hw.1 hc
        refine v_sub (lv' := []) [] rfl ?_
        exact hX p hw
      · have hw := hw.2 hc
        refine v_aload_n (pc := 31) C 0 rfl rfl dX7_passWord_31 ?_
        refine v_dup (pc := 32) C rfl dX7_passWord_32 ?_
        refine v_get (pc := 33) C cfX7 rfl 0 2 rfl (by decide) wfX7_19 rfl dX7_passWord_33 ?_
        refine v_iconst (pc := 36) C 1 ki_1 dX7_passWord_36 ?_
        refine v_iadd (pc := 37) C dX7_passWord_37 ?_
        obtain ⟨p3, es⟩ : ∃ y : St, y = p.sI 2 ((p.I 2) + 1) := ⟨_, rfl⟩
        have hw := hw p3 es
        refine v_put (pc := 38) C cfX7 rfl 0 2 (ty := .int) (w' := (fl [bReader E a p3])) rfl (by subst es; rfl) (by decide) wfX7_19 rfl rfl rfl rfl (Nat.le_of_ble_eq_true rfl) dX7_passWord_38 ?_
        refine v_goto (pc := 41) C 5 (by decide) dX7_passWord_41 ?_
        refine v_sub (lv' := [(0, .ref (a 0))]) [0] rfl ?_
        exact hself p3 hw
set_option maxHeartbeats 4000000 in
set_option maxRecDepth 100000 in
theorem ctX7_passWord (l : Launch) (E : VE) (a : Nat → Nat)  (p : St)  {Post : St → Prop} (hw : wpX7_passWord p Post) (sz : Nat) : Met l yX7_passWord (mW yX7_passWord cX7_passWord 1 none) rmX7_passWord (CPre E [.ref (a 0)] sz (fl [bReader E a p])) (CQv E Post (fun u => (fl [bReader E a u])) (fl [bReader E a p]) sz) 0 0 (va_A (fl [bReader E a p]) sz) := by
  refine v_met (by decide) (Nat.le_of_ble_eq_true rfl) ?_
  intro pr e s m below meth c A hsz hA C
  subst hsz
  refine v_aload_n (pc := 0) C 0 rfl rfl dX7_passWord_0 ?_
  refine v_iconst (pc := 1) C 1 ki_1 dX7_passWord_1 ?_
  obtain ⟨p1, es⟩ : ∃ y : St, y = p.sI 3 1 := ⟨_, rfl⟩
  have hw := hw p1 es
  refine v_put (pc := 2) C cfX7 rfl 0 3 (ty := .int) (w' := (fl [bReader E a p1])) rfl (by subst es; rfl) (by decide) wfX7_22 rfl rfl rfl rfl (Nat.le_of_ble_eq_true rfl) dX7_passWord_2 ?_
  obtain ⟨n, hw⟩ := hw
  refine v_sub (lv' := [(0, .ref (a 0))]) [0] rfl ?_
  refine vlX7_passWord_5 C hA a  (fun p4 hw => ?_) n p1 hw
  exact v_vret (pc := 44) C p4 hA rfl hw dX7_passWord_44
set_option maxHeartbeats 4000000 in
set_option maxRecDepth 100000 in
theorem vjX7_passFigures_72 (C : VC pr s m args meth c E A cX7_passFigures 1 none RX7) (hA : va_A w0 s.heap.size = A) (a : Nat → Nat)  {Post : St → Prop} {self : (St) → Prop} {KX : St → Prop} (z0 : Int32) (p : St) (hw : wjX7_passFigures_72  Post self KX z0 p) (hself : ∀ (p : St), self p → V pr l e rmX7_passFigures s m args below meth c E A 1 0 0 (MQ below (CQv E Post (fun u => (fl [bReader E a u])) w0 s.heap.size) args s 0 0 A) (fl [bReader E a p]) 5 [(0, .ref (a 0))] []) (hX : ∀ (p : St), KX p → V pr l e rmX7_passFigures s m args below meth c E A 1 0 0 (MQ below (CQv E Post (fun u => (fl [bReader E a u])) w0 s.heap.size) args s 0 0 A) (fl [bReader E a p]) 88 [(0, .ref (a 0))] []) : V pr l e rmX7_passFigures s m args below meth c E A 1 0 0 (MQ below (CQv E Post (fun u => (fl [bReader E a u])) w0 s.heap.size) args s 0 0 A) (fl [bReader E a p]) 72 [(0, .ref (a 0))] [.int z0, .ref (a 0)] := by
  obtain ⟨p3, es⟩ : ∃ y : St, y = p.sI 5 z0 := ⟨_, rfl⟩
  have hw := hw p3 es
  refine v_put (pc := 72) C cfX7 rfl 0 5 (ty := .int) (w' := (fl [bReader E a p3])) rfl (by subst es; rfl) (by decide) wfX7_28 rfl rfl rfl rfl (Nat.le_of_ble_eq_true rfl) dX7_passFigures_72 ?_
  refine v_aload_n (pc := 75) C 0 rfl rfl dX7_passFigures_75 ?_
  refine v_dup (pc := 76) C rfl dX7_passFigures_76 ?_
  refine v_get (pc := 77) C cfX7 rfl 0 2 rfl (by decide) wfX7_19 rfl dX7_passFigures_77 ?_
  refine v_iconst (pc := 80) C 1 ki_1 dX7_passFigures_80 ?_
  refine v_iadd (pc := 81) C dX7_passFigures_81 ?_
  obtain ⟨p4, es⟩ : ∃ y : St, y = p3.sI 2 ((p3.I 2) + 1) := ⟨_, rfl⟩
  have hw := hw p4 es
  refine v_put (pc := 82) C cfX7 rfl 0 2 (ty := .int) (w' := (fl [bReader E a p4])) rfl (by subst es; rfl) (by decide) wfX7_19 rfl rfl rfl rfl (Nat.le_of_ble_eq_true rfl) dX7_passFigures_82 ?_
  refine v_goto (pc := 85) C 5 (by decide) dX7_passFigures_85 ?_
  refine v_sub (lv' := [(0, .ref (a 0))]) [0] rfl ?_
  exact hself p4 hw
set_option maxHeartbeats 4000000 in
set_option maxRecDepth 100000 in
theorem vlX7_passFigures_5 (C : VC pr s m args meth c E A cX7_passFigures 1 none RX7) (hA : va_A w0 s.heap.size = A) (a : Nat → Nat)  {Post : St → Prop} {KX : St → Prop} (hX : ∀ (p : St), KX p → V pr l e rmX7_passFigures s m args below meth c E A 1 0 0 (MQ below (CQv E Post (fun u => (fl [bReader E a u])) w0 s.heap.size) args s 0 0 A) (fl [bReader E a p]) 88 [(0, .ref (a 0))] []) : ∀ (n : Nat) (p : St), wLX7_passFigures_5  Post KX n p → V pr l e rmX7_passFigures s m args below meth c E A 1 0 0 (MQ below (CQv E Post (fun u => (fl [bReader E a u])) w0 s.heap.size) args s 0 0 A) (fl [bReader E a p]) 5 [(0, .ref (a 0))] [] := by
  intro n
  induction n with
  | zero => intro p hw; exact absurd hw id
  | succ n hself =>
    intro p hw
    have hw : wlX7_passFigures_5  Post KX (wLX7_passFigures_5  Post KX n) p := hw
    refine v_aload_n (pc := 5) C 0 rfl rfl dX7_passFigures_5 ?_
    refine v_get (pc := 6) C cfX7 rfl 0 2 rfl (by decide) wfX7_19 rfl dX7_passFigures_6 ?_
    refine v_aload_n (pc := 9) C 0 rfl rfl dX7_passFigures_9 ?_
    refine v_get (pc := 10) C cfX7 rfl 0 1 rfl (by decide) wfX7_15 rfl dX7_passFigures_10 ?_
    refine v_icmp_ge (pc := 13) C 88 (by decide) dX7_passFigures_13 (fun hc => ?_) (fun hc => ?_)
    · have hw := hw.1 hc
      refine v_sub (lv' := [(0, .ref (a 0))]) [0] rfl ?_
      exact hX p hw
    · have hw := hw.2 hc
      refine v_aload_n (pc := 16) C 0 rfl rfl dX7_passFigures_16 ?_
      refine v_aload_n (pc := 17) C 0 rfl rfl dX7_passFigures_17 ?_
      refine v_get (pc := 18) C cfX7 rfl 0 2 rfl (by decide) wfX7_19 rfl dX7_passFigures_18 ?_
      refine v_bipush (pc := 21) C 48 kb_48 dX7_passFigures_21 ?_
      refine v_bipush (pc := 23) C 57 kb_57 dX7_passFigures_23 ?_
      refine v_goAi (pc := 25) C (wc' := (fun (_ : Unit) => (fl [bReader E a p]))) (fun _ => rfl) (v_runVA (pc := 25) C [.int (p.I 2), .int 48, .int 57] [] (fun sz => ctX7_isWithin l E a (p.I 2) 48 57 p hw sz) mfX7_isWithin mvX7_isWithin wmX7_111 rfl ⟨Nat.le_of_ble_eq_true rfl, Nat.le_of_ble_eq_true rfl⟩ ⟨rfl, rfl⟩ 0 (ci := 7) (qc := (RX7, TX7, 8)) rfl rfl rfl rfl (Nat.le_of_ble_eq_true rfl) ⟨Nat.zero_le _, Nat.zero_le _⟩ dX7_passFigures_25) (fun r2 _ hw => ?_)
      refine v_if_eq (pc := 28) C 88 (by decide) dX7_passFigures_28 (fun hc => ?_) (fun hc => ?_)
      · have hw := hw.1 hc
        refine v_sub (lv' := [(0, .ref (a 0))]) [0] rfl ?_
        exact hX p hw
      · have hw := hw.2 hc
        refine v_aload_n (pc := 31) C 0 rfl rfl dX7_passFigures_31 ?_
        refine v_aload_n (pc := 32) C 0 rfl rfl dX7_passFigures_32 ?_
        refine v_get (pc := 33) C cfX7 rfl 0 2 rfl (by decide) wfX7_19 rfl dX7_passFigures_33 ?_
        refine v_aload_n (pc := 36) C 0 rfl rfl dX7_passFigures_36 ?_
        refine v_get (pc := 37) C cfX7 rfl 0 4 rfl (by decide) wfX7_25 rfl dX7_passFigures_37 ?_
        refine v_isub (pc := 40) C dX7_passFigures_40 ?_
        refine v_iconst (pc := 41) C 2 ki_2 dX7_passFigures_41 ?_
        refine v_icmp_ge (pc := 42) C 68 (by decide) dX7_passFigures_42 (fun hc => ?_) (fun hc => ?_)
        · have hw := hw.1 hc
          refine v_aload_n (pc := 68) C 0 rfl rfl dX7_passFigures_68 ?_
          refine v_get (pc := 69) C cfX7 rfl 0 5 rfl (by decide) wfX7_28 rfl dX7_passFigures_69 ?_
          refine v_sub (lv' := [(0, .ref (a 0))]) [0] rfl ?_
          exact vjX7_passFigures_72 C hA a  (p.I 5) p hw hself hX
        · have hw := hw.2 hc
          refine v_bipush (pc := 45) C 10 kb_10 dX7_passFigures_45 ?_
          refine v_aload_n (pc := 47) C 0 rfl rfl dX7_passFigures_47 ?_
          refine v_get (pc := 48) C cfX7 rfl 0 5 rfl (by decide) wfX7_28 rfl dX7_passFigures_48 ?_
          refine v_imul (pc := 51) C dX7_passFigures_51 ?_
          refine v_aload_n (pc := 52) C 0 rfl rfl dX7_passFigures_52 ?_
          refine v_get (pc := 53) C cfX7 rfl 0 0 rfl (by decide) wfX7_9 rfl dX7_passFigures_53 ?_
          refine v_aload_n (pc := 56) C 0 rfl rfl dX7_passFigures_56 ?_
          refine v_get (pc := 57) C cfX7 rfl 0 2 rfl (by decide) wfX7_19 rfl dX7_passFigures_57 ?_
          obtain ⟨hg, hw⟩ := hw
          refine v_iald (pc := 60) C 1 rfl hg rfl dX7_passFigures_60 ?_
          refine v_iadd (pc := 61) C dX7_passFigures_61 ?_
          refine v_bipush (pc := 62) C 48 kb_48 dX7_passFigures_62 ?_
          refine v_isub (pc := 64) C dX7_passFigures_64 ?_
          refine v_goto (pc := 65) C 72 (by decide) dX7_passFigures_65 ?_
          refine v_sub (lv' := [(0, .ref (a 0))]) [0] rfl ?_
          exact vjX7_passFigures_72 C hA a  ((((10 : Int32) * (p.I 5)) + ((p.A 0) (p.I 2).toNatClampNeg)) - 48) p hw hself hX
set_option maxHeartbeats 4000000 in
set_option maxRecDepth 100000 in
theorem vjX7_passFigures_107 (C : VC pr s m args meth c E A cX7_passFigures 1 none RX7) (hA : va_A w0 s.heap.size = A) (a : Nat → Nat)  {Post : St → Prop} (z0 : Int32) (p : St) (hw : wjX7_passFigures_107  Post z0 p) : V pr l e rmX7_passFigures s m args below meth c E A 1 0 0 (MQ below (CQv E Post (fun u => (fl [bReader E a u])) w0 s.heap.size) args s 0 0 A) (fl [bReader E a p]) 107 [] [.int z0, .ref (a 0)] := by
  obtain ⟨p6, es⟩ : ∃ y : St, y = p.sI 3 z0 := ⟨_, rfl⟩
  have hw := hw p6 es
  refine v_put (pc := 107) C cfX7 rfl 0 3 (ty := .int) (w' := (fl [bReader E a p6])) rfl (by subst es; rfl) (by decide) wfX7_22 rfl rfl rfl rfl (Nat.le_of_ble_eq_true rfl) dX7_passFigures_107 ?_
  exact v_vret (pc := 110) C p6 hA rfl hw dX7_passFigures_110
set_option maxHeartbeats 4000000 in
set_option maxRecDepth 100000 in
theorem vjX7_passFigures_88 (C : VC pr s m args meth c E A cX7_passFigures 1 none RX7) (hA : va_A w0 s.heap.size = A) (a : Nat → Nat)  {Post : St → Prop} (p : St) (hw : wjX7_passFigures_88  Post p) : V pr l e rmX7_passFigures s m args below meth c E A 1 0 0 (MQ below (CQv E Post (fun u => (fl [bReader E a u])) w0 s.heap.size) args s 0 0 A) (fl [bReader E a p]) 88 [(0, .ref (a 0))] [] := by
  refine v_aload_n (pc := 88) C 0 rfl rfl dX7_passFigures_88 ?_
  refine v_aload_n (pc := 89) C 0 rfl rfl dX7_passFigures_89 ?_
  refine v_get (pc := 90) C cfX7 rfl 0 2 rfl (by decide) wfX7_19 rfl dX7_passFigures_90 ?_
  refine v_aload_n (pc := 93) C 0 rfl rfl dX7_passFigures_93 ?_
  refine v_get (pc := 94) C cfX7 rfl 0 4 rfl (by decide) wfX7_25 rfl dX7_passFigures_94 ?_
  refine v_isub (pc := 97) C dX7_passFigures_97 ?_
  refine v_iconst (pc := 98) C 2 ki_2 dX7_passFigures_98 ?_
  refine v_icmp_le (pc := 99) C 106 (by decide) dX7_passFigures_99 (fun hc => ?_) (fun hc => ?_)
  · have hw := hw.1 hc
    refine v_iconst (pc := 106) C 2 ki_2 dX7_passFigures_106 ?_
    refine v_sub (lv' := []) [] rfl ?_
    exact vjX7_passFigures_107 C hA a  2 p hw
  · have hw := hw.2 hc
    refine v_iconst (pc := 102) C 4 ki_4 dX7_passFigures_102 ?_
    refine v_goto (pc := 103) C 107 (by decide) dX7_passFigures_103 ?_
    refine v_sub (lv' := []) [] rfl ?_
    exact vjX7_passFigures_107 C hA a  4 p hw
set_option maxHeartbeats 4000000 in
set_option maxRecDepth 100000 in
theorem ctX7_passFigures (l : Launch) (E : VE) (a : Nat → Nat)  (p : St)  {Post : St → Prop} (hw : wpX7_passFigures p Post) (sz : Nat) : Met l yX7_passFigures (mW yX7_passFigures cX7_passFigures 1 none) rmX7_passFigures (CPre E [.ref (a 0)] sz (fl [bReader E a p])) (CQv E Post (fun u => (fl [bReader E a u])) (fl [bReader E a p]) sz) 0 0 (va_A (fl [bReader E a p]) sz) := by
  refine v_met (by decide) (Nat.le_of_ble_eq_true rfl) ?_
  intro pr e s m below meth c A hsz hA C
  subst hsz
  refine v_aload_n (pc := 0) C 0 rfl rfl dX7_passFigures_0 ?_
  refine v_iconst (pc := 1) C 0 ki_0 dX7_passFigures_1 ?_
  obtain ⟨p1, es⟩ : ∃ y : St, y = p.sI 5 0 := ⟨_, rfl⟩
  have hw := hw p1 es
  refine v_put (pc := 2) C cfX7 rfl 0 5 (ty := .int) (w' := (fl [bReader E a p1])) rfl (by subst es; rfl) (by decide) wfX7_28 rfl rfl rfl rfl (Nat.le_of_ble_eq_true rfl) dX7_passFigures_2 ?_
  obtain ⟨n, hw⟩ := hw
  refine v_sub (lv' := [(0, .ref (a 0))]) [0] rfl ?_
  refine vlX7_passFigures_5 C hA a  (fun p5 hw => ?_) n p1 hw
  refine v_sub (lv' := [(0, .ref (a 0))]) [0] rfl ?_
  exact vjX7_passFigures_88 C hA a  p5 hw
set_option maxHeartbeats 4000000 in
set_option maxRecDepth 100000 in
theorem vlX7_step_0 (C : VC pr s m args meth c E A cX7_step 1 none RX7) (hA : va_A w0 s.heap.size = A) (a : Nat → Nat)  {Post : St → Prop} {KX : St → Prop} (hX : ∀ (p : St), KX p → V pr l e rmX7_step s m args below meth c E A 1 0 0 (MQ below (CQv E Post (fun u => (fl [bReader E a u])) w0 s.heap.size) args s 0 0 A) (fl [bReader E a p]) 38 [(0, .ref (a 0))] []) : ∀ (n : Nat) (p : St), wLX7_step_0  Post KX n p → V pr l e rmX7_step s m args below meth c E A 1 0 0 (MQ below (CQv E Post (fun u => (fl [bReader E a u])) w0 s.heap.size) args s 0 0 A) (fl [bReader E a p]) 0 [(0, .ref (a 0))] [] := by
  intro n
  induction n with
  | zero => intro p hw; exact absurd hw id
  | succ n hself =>
    intro p hw
    have hw : wlX7_step_0  Post KX (wLX7_step_0  Post KX n) p := hw
    refine v_aload_n (pc := 0) C 0 rfl rfl dX7_step_0 ?_
    refine v_get (pc := 1) C cfX7 rfl 0 2 rfl (by decide) wfX7_19 rfl dX7_step_1 ?_
    refine v_aload_n (pc := 4) C 0 rfl rfl dX7_step_4 ?_
    refine v_get (pc := 5) C cfX7 rfl 0 1 rfl (by decide) wfX7_15 rfl dX7_step_5 ?_
    refine v_icmp_ge (pc := 8) C 38 (by decide) dX7_step_8 (fun hc => ?_) (fun hc => ?_)
    · have hw := hw.1 hc
      refine v_sub (lv' := [(0, .ref (a 0))]) [0] rfl ?_
      exact hX p hw
    · have hw := hw.2 hc
      refine v_aload_n (pc := 11) C 0 rfl rfl dX7_step_11 ?_
      refine v_get (pc := 12) C cfX7 rfl 0 0 rfl (by decide) wfX7_9 rfl dX7_step_12 ?_
      refine v_aload_n (pc := 15) C 0 rfl rfl dX7_step_15 ?_
      refine v_get (pc := 16) C cfX7 rfl 0 2 rfl (by decide) wfX7_19 rfl dX7_step_16 ?_
      obtain ⟨hg, hw⟩ := hw
      refine v_iald (pc := 19) C 1 rfl hg rfl dX7_step_19 ?_
      refine v_bipush (pc := 20) C 32 kb_32 dX7_step_20 ?_
      refine v_icmp_ne (pc := 22) C 38 (by decide) dX7_step_22 (fun hc => ?_) (fun hc => ?_)
      · have hw := hw.1 hc
        refine v_sub (lv' := [(0, .ref (a 0))]) [0] rfl ?_
        exact hX p hw
      · have hw := hw.2 hc
        refine v_aload_n (pc := 25) C 0 rfl rfl dX7_step_25 ?_
        refine v_dup (pc := 26) C rfl dX7_step_26 ?_
        refine v_get (pc := 27) C cfX7 rfl 0 2 rfl (by decide) wfX7_19 rfl dX7_step_27 ?_
        refine v_iconst (pc := 30) C 1 ki_1 dX7_step_30 ?_
        refine v_iadd (pc := 31) C dX7_step_31 ?_
        obtain ⟨p1, es⟩ : ∃ y : St, y = p.sI 2 ((p.I 2) + 1) := ⟨_, rfl⟩
        have hw := hw p1 es
        refine v_put (pc := 32) C cfX7 rfl 0 2 (ty := .int) (w' := (fl [bReader E a p1])) rfl (by subst es; rfl) (by decide) wfX7_19 rfl rfl rfl rfl (Nat.le_of_ble_eq_true rfl) dX7_step_32 ?_
        refine v_goto (pc := 35) C 0 (by decide) dX7_step_35 ?_
        refine v_sub (lv' := [(0, .ref (a 0))]) [0] rfl ?_
        exact hself p1 hw
set_option maxHeartbeats 4000000 in
set_option maxRecDepth 100000 in
theorem vjX7_step_129 (C : VC pr s m args meth c E A cX7_step 1 none RX7) (hA : va_A w0 s.heap.size = A) (a : Nat → Nat)  {Post : St → Prop} (z0 : Int32) (p : St) (hw : wjX7_step_129  Post z0 p) : V pr l e rmX7_step s m args below meth c E A 1 0 0 (MQ below (CQv E Post (fun u => (fl [bReader E a u])) w0 s.heap.size) args s 0 0 A) (fl [bReader E a p]) 129 [(0, .ref (a 0))] [.int z0, .ref (a 0)] := by
  obtain ⟨p6, es⟩ : ∃ y : St, y = p.sI 3 z0 := ⟨_, rfl⟩
  have hw := hw p6 es
  refine v_put (pc := 129) C cfX7 rfl 0 3 (ty := .int) (w' := (fl [bReader E a p6])) rfl (by subst es; rfl) (by decide) wfX7_22 rfl rfl rfl rfl (Nat.le_of_ble_eq_true rfl) dX7_step_129 ?_
  refine v_aload_n (pc := 132) C 0 rfl rfl dX7_step_132 ?_
  refine v_dup (pc := 133) C rfl dX7_step_133 ?_
  refine v_get (pc := 134) C cfX7 rfl 0 2 rfl (by decide) wfX7_19 rfl dX7_step_134 ?_
  refine v_iconst (pc := 137) C 1 ki_1 dX7_step_137 ?_
  refine v_iadd (pc := 138) C dX7_step_138 ?_
  obtain ⟨p7, es⟩ : ∃ y : St, y = p6.sI 2 ((p6.I 2) + 1) := ⟨_, rfl⟩
  have hw := hw p7 es
  refine v_put (pc := 139) C cfX7 rfl 0 2 (ty := .int) (w' := (fl [bReader E a p7])) rfl (by subst es; rfl) (by decide) wfX7_19 rfl rfl rfl rfl (Nat.le_of_ble_eq_true rfl) dX7_step_139 ?_
  exact v_vret (pc := 142) C p7 hA rfl hw dX7_step_142
set_option maxHeartbeats 4000000 in
set_option maxRecDepth 100000 in
theorem vjX7_step_38 (C : VC pr s m args meth c E A cX7_step 1 none RX7) (hA : va_A w0 s.heap.size = A) (a : Nat → Nat)  {Post : St → Prop} (p : St) (hw : wjX7_step_38  Post p) : V pr l e rmX7_step s m args below meth c E A 1 0 0 (MQ below (CQv E Post (fun u => (fl [bReader E a u])) w0 s.heap.size) args s 0 0 A) (fl [bReader E a p]) 38 [(0, .ref (a 0))] [] := by
  refine v_aload_n (pc := 38) C 0 rfl rfl dX7_step_38 ?_
  refine v_aload_n (pc := 39) C 0 rfl rfl dX7_step_39 ?_
  refine v_get (pc := 40) C cfX7 rfl 0 2 rfl (by decide) wfX7_19 rfl dX7_step_40 ?_
  obtain ⟨p3, es⟩ : ∃ y : St, y = p.sI 4 (p.I 2) := ⟨_, rfl⟩
  have hw := hw p3 es
  refine v_put (pc := 43) C cfX7 rfl 0 4 (ty := .int) (w' := (fl [bReader E a p3])) rfl (by subst es; rfl) (by decide) wfX7_25 rfl rfl rfl rfl (Nat.le_of_ble_eq_true rfl) dX7_step_43 ?_
  refine v_aload_n (pc := 46) C 0 rfl rfl dX7_step_46 ?_
  refine v_get (pc := 47) C cfX7 rfl 0 2 rfl (by decide) wfX7_19 rfl dX7_step_47 ?_
  refine v_aload_n (pc := 50) C 0 rfl rfl dX7_step_50 ?_
  refine v_get (pc := 51) C cfX7 rfl 0 1 rfl (by decide) wfX7_15 rfl dX7_step_51 ?_
  refine v_icmp_lt (pc := 54) C 65 (by decide) dX7_step_54 (fun hc => ?_) (fun hc => ?_)
  · have hw := hw.1 hc
    refine v_aload_n (pc := 65) C 0 rfl rfl dX7_step_65 ?_
    refine v_aload_n (pc := 66) C 0 rfl rfl dX7_step_66 ?_
    refine v_get (pc := 67) C cfX7 rfl 0 2 rfl (by decide) wfX7_19 rfl dX7_step_67 ?_
    refine v_bipush (pc := 70) C 97 kb_97 dX7_step_70 ?_
    refine v_bipush (pc := 72) C 122 kb_122 dX7_step_72 ?_
    refine v_goAi (pc := 74) C (wc' := (fun (_ : Unit) => (fl [bReader E a p3]))) (fun _ => rfl) (v_runVA (pc := 74) C [.int (p3.I 2), .int 97, .int 122] [] (fun sz => ctX7_isWithin l E a (p3.I 2) 97 122 p3 hw sz) mfX7_isWithin mvX7_isWithin wmX7_111 rfl ⟨Nat.le_of_ble_eq_true rfl, Nat.le_of_ble_eq_true rfl⟩ ⟨rfl, rfl⟩ 0 (ci := 7) (qc := (RX7, TX7, 8)) rfl rfl rfl rfl (Nat.le_of_ble_eq_true rfl) ⟨Nat.zero_le _, Nat.zero_le _⟩ dX7_step_74) (fun r4 _ hw => ?_)
    refine v_if_eq (pc := 77) C 87 (by decide) dX7_step_77 (fun hc => ?_) (fun hc => ?_)
    · have hw := hw.1 hc
      refine v_aload_n (pc := 87) C 0 rfl rfl dX7_step_87 ?_
      refine v_aload_n (pc := 88) C 0 rfl rfl dX7_step_88 ?_
      refine v_get (pc := 89) C cfX7 rfl 0 2 rfl (by decide) wfX7_19 rfl dX7_step_89 ?_
      refine v_bipush (pc := 92) C 48 kb_48 dX7_step_92 ?_
      refine v_bipush (pc := 94) C 57 kb_57 dX7_step_94 ?_
      refine v_goAi (pc := 96) C (wc' := (fun (_ : Unit) => (fl [bReader E a p3]))) (fun _ => rfl) (v_runVA (pc := 96) C [.int (p3.I 2), .int 48, .int 57] [] (fun sz => ctX7_isWithin l E a (p3.I 2) 48 57 p3 hw sz) mfX7_isWithin mvX7_isWithin wmX7_111 rfl ⟨Nat.le_of_ble_eq_true rfl, Nat.le_of_ble_eq_true rfl⟩ ⟨rfl, rfl⟩ 0 (ci := 7) (qc := (RX7, TX7, 8)) rfl rfl rfl rfl (Nat.le_of_ble_eq_true rfl) ⟨Nat.zero_le _, Nat.zero_le _⟩ dX7_step_96) (fun r5 _ hw => ?_)
      refine v_if_eq (pc := 99) C 109 (by decide) dX7_step_99 (fun hc => ?_) (fun hc => ?_)
      · have hw := hw.1 hc
        refine v_aload_n (pc := 109) C 0 rfl rfl dX7_step_109 ?_
        refine v_aload_n (pc := 110) C 0 rfl rfl dX7_step_110 ?_
        refine v_get (pc := 111) C cfX7 rfl 0 0 rfl (by decide) wfX7_9 rfl dX7_step_111 ?_
        refine v_aload_n (pc := 114) C 0 rfl rfl dX7_step_114 ?_
        refine v_get (pc := 115) C cfX7 rfl 0 2 rfl (by decide) wfX7_19 rfl dX7_step_115 ?_
        obtain ⟨hg, hw⟩ := hw
        refine v_iald (pc := 118) C 1 rfl hg rfl dX7_step_118 ?_
        refine v_bipush (pc := 119) C 59 kb_59 dX7_step_119 ?_
        refine v_icmp_ne (pc := 121) C 128 (by decide) dX7_step_121 (fun hc => ?_) (fun hc => ?_)
        · have hw := hw.1 hc
          refine v_iconst (pc := 128) C 4 ki_4 dX7_step_128 ?_
          refine v_sub (lv' := [(0, .ref (a 0))]) [0] rfl ?_
          exact vjX7_step_129 C hA a  4 p3 hw
        · have hw := hw.2 hc
          refine v_iconst (pc := 124) C 3 ki_3 dX7_step_124 ?_
          refine v_goto (pc := 125) C 129 (by decide) dX7_step_125 ?_
          refine v_sub (lv' := [(0, .ref (a 0))]) [0] rfl ?_
          exact vjX7_step_129 C hA a  3 p3 hw
      · have hw := hw.2 hc
        refine v_aload_n (pc := 102) C 0 rfl rfl dX7_step_102 ?_
        refine v_goAv (pc := 103) C (wc' := (fun (u : St) => (fl [bReader E a u]))) (fun _ => rfl) (v_runVA (pc := 103) C [] [] (fun sz => ctX7_passFigures l E a p3 hw sz) mfX7_passFigures mvX7_passFigures wmX7_118 rfl ⟨Nat.le_of_ble_eq_true rfl, Nat.le_of_ble_eq_true rfl⟩ ⟨rfl, rfl⟩ 0 (ci := 7) (qc := (RX7, TX7, 8)) rfl rfl rfl rfl (Nat.le_of_ble_eq_true rfl) ⟨Nat.zero_le _, Nat.zero_le _⟩ dX7_step_103) (fun p8 hw => ?_)
        refine v_goto (pc := 106) C 142 (by decide) dX7_step_106 ?_
        exact v_vret (pc := 142) C p8 hA rfl hw dX7_step_142
    · have hw := hw.2 hc
      refine v_aload_n (pc := 80) C 0 rfl rfl dX7_step_80 ?_
      refine v_goAv (pc := 81) C (wc' := (fun (u : St) => (fl [bReader E a u]))) (fun _ => rfl) (v_runVA (pc := 81) C [] [] (fun sz => ctX7_passWord l E a p3 hw sz) mfX7_passWord mvX7_passWord wmX7_115 rfl ⟨Nat.le_of_ble_eq_true rfl, Nat.le_of_ble_eq_true rfl⟩ ⟨rfl, rfl⟩ 0 (ci := 7) (qc := (RX7, TX7, 8)) rfl rfl rfl rfl (Nat.le_of_ble_eq_true rfl) ⟨Nat.zero_le _, Nat.zero_le _⟩ dX7_step_81) (fun p9 hw => ?_)
      refine v_goto (pc := 84) C 142 (by decide) dX7_step_84 ?_
      exact v_vret (pc := 142) C p9 hA rfl hw dX7_step_142
  · have hw := hw.2 hc
    refine v_aload_n (pc := 57) C 0 rfl rfl dX7_step_57 ?_
    refine v_iconst (pc := 58) C 0 ki_0 dX7_step_58 ?_
    obtain ⟨p10, es⟩ : ∃ y : St, y = p3.sI 3 0 := ⟨_, rfl⟩
    have hw := hw p10 es
    refine v_put (pc := 59) C cfX7 rfl 0 3 (ty := .int) (w' := (fl [bReader E a p10])) rfl (by subst es; rfl) (by decide) wfX7_22 rfl rfl rfl rfl (Nat.le_of_ble_eq_true rfl) dX7_step_59 ?_
    refine v_goto (pc := 62) C 142 (by decide) dX7_step_62 ?_
    exact v_vret (pc := 142) C p10 hA rfl hw dX7_step_142
set_option maxHeartbeats 4000000 in
set_option maxRecDepth 100000 in
theorem ctX7_step (l : Launch) (E : VE) (a : Nat → Nat)  (p : St)  {Post : St → Prop} (hw : wpX7_step p Post) (sz : Nat) : Met l yX7_step (mW yX7_step cX7_step 1 none) rmX7_step (CPre E [.ref (a 0)] sz (fl [bReader E a p])) (CQv E Post (fun u => (fl [bReader E a u])) (fl [bReader E a p]) sz) 0 0 (va_A (fl [bReader E a p]) sz) := by
  refine v_met (by decide) (Nat.le_of_ble_eq_true rfl) ?_
  intro pr e s m below meth c A hsz hA C
  subst hsz
  obtain ⟨n, hw⟩ := hw
  refine v_sub (lv' := [(0, .ref (a 0))]) [0] rfl ?_
  refine vlX7_step_0 C hA a  (fun p2 hw => ?_) n p hw
  refine v_sub (lv' := [(0, .ref (a 0))]) [0] rfl ?_
  exact vjX7_step_38 C hA a  p2 hw
end

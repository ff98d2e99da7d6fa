section
variable {pr : Program} {l : Launch} {e : Env} {s : State} {m : MethodId} {args : Array Value} {below : List Frame} {meth : Method} {c : Code} {E : VE} {A : Nat → Prop} {w0 : va_W}
theorem dX12_undo_0 : decode cX12_undo 0 = .ok (.aload_n 0, 1) := by decide +kernel
theorem dX12_undo_1 : decode cX12_undo 1 = .ok (.getfield 70, 3) := by decide +kernel
theorem dX12_undo_4 : decode cX12_undo 4 = .ok (.ifCond .ne 11, 3) := by decide +kernel
theorem dX12_undo_7 : decode cX12_undo 7 = .ok (.aload_n 0, 1) := by decide +kernel
theorem dX12_undo_8 : decode cX12_undo 8 = .ok (.iconst 1, 1) := by decide +kernel
theorem dX12_undo_9 : decode cX12_undo 9 = .ok (.bipush (-3), 2) := by decide +kernel
theorem dX12_undo_11 : decode cX12_undo 11 = .ok (.invokevirtual 52, 3) := by decide +kernel
theorem dX12_undo_14 : decode cX12_undo 14 = .ok (.ireturn, 1) := by decide +kernel
theorem dX12_undo_15 : decode cX12_undo 15 = .ok (.aload_n 0, 1) := by decide +kernel
theorem dX12_undo_16 : decode cX12_undo 16 = .ok (.dup, 1) := by decide +kernel
theorem dX12_undo_17 : decode cX12_undo 17 = .ok (.getfield 70, 3) := by decide +kernel
theorem dX12_undo_20 : decode cX12_undo 20 = .ok (.iconst 1, 1) := by decide +kernel
theorem dX12_undo_21 : decode cX12_undo 21 = .ok (.isub, 1) := by decide +kernel
theorem dX12_undo_22 : decode cX12_undo 22 = .ok (.putfield 70, 3) := by decide +kernel
theorem dX12_undo_25 : decode cX12_undo 25 = .ok (.iconst 0, 1) := by decide +kernel
theorem dX12_undo_26 : decode cX12_undo 26 = .ok (.istore_n 1, 1) := by decide +kernel
theorem dX12_undo_27 : decode cX12_undo 27 = .ok (.iload_n 1, 1) := by decide +kernel
theorem dX12_undo_28 : decode cX12_undo 28 = .ok (.bipush 126, 2) := by decide +kernel
theorem dX12_undo_30 : decode cX12_undo 30 = .ok (.if_icmp .ge 29, 3) := by decide +kernel
theorem dX12_undo_33 : decode cX12_undo 33 = .ok (.aload_n 0, 1) := by decide +kernel
theorem dX12_undo_34 : decode cX12_undo 34 = .ok (.getfield 17, 3) := by decide +kernel
theorem dX12_undo_37 : decode cX12_undo 37 = .ok (.iload_n 1, 1) := by decide +kernel
theorem dX12_undo_38 : decode cX12_undo 38 = .ok (.aload_n 0, 1) := by decide +kernel
theorem dX12_undo_39 : decode cX12_undo 39 = .ok (.getfield 20, 3) := by decide +kernel
theorem dX12_undo_42 : decode cX12_undo 42 = .ok (.bipush 126, 2) := by decide +kernel
theorem dX12_undo_44 : decode cX12_undo 44 = .ok (.aload_n 0, 1) := by decide +kernel
theorem dX12_undo_45 : decode cX12_undo 45 = .ok (.getfield 70, 3) := by decide +kernel
theorem dX12_undo_48 : decode cX12_undo 48 = .ok (.imul, 1) := by decide +kernel
theorem dX12_undo_49 : decode cX12_undo 49 = .ok (.iload_n 1, 1) := by decide +kernel
theorem dX12_undo_50 : decode cX12_undo 50 = .ok (.iadd, 1) := by decide +kernel
theorem dX12_undo_51 : decode cX12_undo 51 = .ok (.iaload, 1) := by decide +kernel
theorem dX12_undo_52 : decode cX12_undo 52 = .ok (.iastore, 1) := by decide +kernel
theorem dX12_undo_53 : decode cX12_undo 53 = .ok (.iinc 1 1, 3) := by decide +kernel
theorem dX12_undo_56 : decode cX12_undo 56 = .ok (.goto (-29), 3) := by decide +kernel
theorem dX12_undo_59 : decode cX12_undo 59 = .ok (.aload_n 0, 1) := by decide +kernel
theorem dX12_undo_60 : decode cX12_undo 60 = .ok (.getfield 17, 3) := by decide +kernel
theorem dX12_undo_63 : decode cX12_undo 63 = .ok (.bipush 124, 2) := by decide +kernel
theorem dX12_undo_65 : decode cX12_undo 65 = .ok (.iaload, 1) := by decide +kernel
theorem dX12_undo_66 : decode cX12_undo 66 = .ok (.ireturn, 1) := by decide +kernel
theorem dX12_word_0 : decode cX12_word 0 = .ok (.iload_n 1, 1) := by decide +kernel
theorem dX12_word_1 : decode cX12_word 1 = .ok (.i2l, 1) := by decide +kernel
theorem dX12_word_2 : decode cX12_word 2 = .ok (.lconst 0, 1) := by decide +kernel
theorem dX12_word_3 : decode cX12_word 3 = .ok (.ldc2_w 104, 3) := by decide +kernel
theorem dX12_word_6 : decode cX12_word 6 = .ok (.invokestatic 56, 3) := by decide +kernel
theorem dX12_word_9 : decode cX12_word 9 = .ok (.ifCond .ne 8, 3) := by decide +kernel
theorem dX12_word_12 : decode cX12_word 12 = .ok (.aload_n 0, 1) := by decide +kernel
theorem dX12_word_13 : decode cX12_word 13 = .ok (.invokevirtual 75, 3) := by decide +kernel
theorem dX12_word_16 : decode cX12_word 16 = .ok (.ireturn, 1) := by decide +kernel
theorem dX12_word_17 : decode cX12_word 17 = .ok (.aload_n 0, 1) := by decide +kernel
theorem dX12_word_18 : decode cX12_word 18 = .ok (.getfield 79, 3) := by decide +kernel
theorem dX12_word_21 : decode cX12_word 21 = .ok (.bipush 8, 2) := by decide +kernel
theorem dX12_word_23 : decode cX12_word 23 = .ok (.if_icmp .ne 11, 3) := by decide +kernel
theorem dX12_word_26 : decode cX12_word 26 = .ok (.aload_n 0, 1) := by decide +kernel
theorem dX12_word_27 : decode cX12_word 27 = .ok (.iconst 2, 1) := by decide +kernel
theorem dX12_word_28 : decode cX12_word 28 = .ok (.bipush (-4), 2) := by decide +kernel
theorem dX12_word_30 : decode cX12_word 30 = .ok (.invokevirtual 52, 3) := by decide +kernel
theorem dX12_word_33 : decode cX12_word 33 = .ok (.ireturn, 1) := by decide +kernel
theorem dX12_word_34 : decode cX12_word 34 = .ok (.aload_n 0, 1) := by decide +kernel
theorem dX12_word_35 : decode cX12_word 35 = .ok (.getfield 13, 3) := by decide +kernel
theorem dX12_word_38 : decode cX12_word 38 = .ok (.aload_n 0, 1) := by decide +kernel
theorem dX12_word_39 : decode cX12_word 39 = .ok (.getfield 79, 3) := by decide +kernel
theorem dX12_word_42 : decode cX12_word 42 = .ok (.iload_n 1, 1) := by decide +kernel
theorem dX12_word_43 : decode cX12_word 43 = .ok (.iastore, 1) := by decide +kernel
theorem dX12_word_44 : decode cX12_word 44 = .ok (.aload_n 0, 1) := by decide +kernel
theorem dX12_word_45 : decode cX12_word 45 = .ok (.dup, 1) := by decide +kernel
theorem dX12_word_46 : decode cX12_word 46 = .ok (.getfield 79, 3) := by decide +kernel
theorem dX12_word_49 : decode cX12_word 49 = .ok (.iconst 1, 1) := by decide +kernel
theorem dX12_word_50 : decode cX12_word 50 = .ok (.iadd, 1) := by decide +kernel
theorem dX12_word_51 : decode cX12_word 51 = .ok (.putfield 79, 3) := by decide +kernel
theorem dX12_word_54 : decode cX12_word 54 = .ok (.aload_n 0, 1) := by decide +kernel
theorem dX12_word_55 : decode cX12_word 55 = .ok (.getfield 79, 3) := by decide +kernel
theorem dX12_word_58 : decode cX12_word 58 = .ok (.iconst 1, 1) := by decide +kernel
theorem dX12_word_59 : decode cX12_word 59 = .ok (.isub, 1) := by decide +kernel
theorem dX12_word_60 : decode cX12_word 60 = .ok (.ireturn, 1) := by decide +kernel
theorem dX12_forget_0 : decode cX12_forget 0 = .ok (.aload_n 0, 1) := by decide +kernel
theorem dX12_forget_1 : decode cX12_forget 1 = .ok (.getfield 79, 3) := by decide +kernel
theorem dX12_forget_4 : decode cX12_forget 4 = .ok (.istore_n 1, 1) := by decide +kernel
theorem dX12_forget_5 : decode cX12_forget 5 = .ok (.aload_n 0, 1) := by decide +kernel
theorem dX12_forget_6 : decode cX12_forget 6 = .ok (.iconst 0, 1) := by decide +kernel
theorem dX12_forget_7 : decode cX12_forget 7 = .ok (.putfield 79, 3) := by decide +kernel
theorem dX12_forget_10 : decode cX12_forget 10 = .ok (.iload_n 1, 1) := by decide +kernel
theorem dX12_forget_11 : decode cX12_forget 11 = .ok (.ireturn, 1) := by decide +kernel
theorem dX12_type_0 : decode cX12_type 0 = .ok (.iload_n 1, 1) := by decide +kernel
theorem dX12_type_1 : decode cX12_type 1 = .ok (.i2l, 1) := by decide +kernel
theorem dX12_type_2 : decode cX12_type 2 = .ok (.lconst 0, 1) := by decide +kernel
theorem dX12_type_3 : decode cX12_type 3 = .ok (.ldc2_w 112, 3) := by decide +kernel
theorem dX12_type_6 : decode cX12_type 6 = .ok (.invokestatic 56, 3) := by decide +kernel
theorem dX12_type_9 : decode cX12_type 9 = .ok (.ifCond .ne 8, 3) := by decide +kernel
theorem dX12_type_12 : decode cX12_type 12 = .ok (.aload_n 0, 1) := by decide +kernel
theorem dX12_type_13 : decode cX12_type 13 = .ok (.invokevirtual 75, 3) := by decide +kernel
theorem dX12_type_16 : decode cX12_type 16 = .ok (.ireturn, 1) := by decide +kernel
theorem dX12_type_17 : decode cX12_type 17 = .ok (.aload_n 0, 1) := by decide +kernel
theorem dX12_type_18 : decode cX12_type 18 = .ok (.getfield 114, 3) := by decide +kernel
theorem dX12_type_21 : decode cX12_type 21 = .ok (.sipush 150, 3) := by decide +kernel
theorem dX12_type_24 : decode cX12_type 24 = .ok (.if_icmp .ne 11, 3) := by decide +kernel
theorem dX12_type_27 : decode cX12_type 27 = .ok (.aload_n 0, 1) := by decide +kernel
theorem dX12_type_28 : decode cX12_type 28 = .ok (.iconst 2, 1) := by decide +kernel
theorem dX12_type_29 : decode cX12_type 29 = .ok (.bipush (-4), 2) := by decide +kernel
theorem dX12_type_31 : decode cX12_type 31 = .ok (.invokevirtual 52, 3) := by decide +kernel
theorem dX12_type_34 : decode cX12_type 34 = .ok (.ireturn, 1) := by decide +kernel
theorem dX12_type_35 : decode cX12_type 35 = .ok (.aload_n 0, 1) := by decide +kernel
theorem dX12_type_36 : decode cX12_type 36 = .ok (.getfield 30, 3) := by decide +kernel
theorem dX12_type_39 : decode cX12_type 39 = .ok (.aload_n 0, 1) := by decide +kernel
theorem dX12_type_40 : decode cX12_type 40 = .ok (.getfield 114, 3) := by decide +kernel
theorem dX12_type_43 : decode cX12_type 43 = .ok (.iload_n 1, 1) := by decide +kernel
theorem dX12_type_44 : decode cX12_type 44 = .ok (.iastore, 1) := by decide +kernel
theorem dX12_type_45 : decode cX12_type 45 = .ok (.aload_n 0, 1) := by decide +kernel
theorem dX12_type_46 : decode cX12_type 46 = .ok (.dup, 1) := by decide +kernel
theorem dX12_type_47 : decode cX12_type 47 = .ok (.getfield 114, 3) := by decide +kernel
theorem dX12_type_50 : decode cX12_type 50 = .ok (.iconst 1, 1) := by decide +kernel
theorem dX12_type_51 : decode cX12_type 51 = .ok (.iadd, 1) := by decide +kernel
theorem dX12_type_52 : decode cX12_type 52 = .ok (.putfield 114, 3) := by decide +kernel
theorem dX12_type_55 : decode cX12_type 55 = .ok (.aload_n 0, 1) := by decide +kernel
theorem dX12_type_56 : decode cX12_type 56 = .ok (.getfield 114, 3) := by decide +kernel
theorem dX12_type_59 : decode cX12_type 59 = .ok (.ireturn, 1) := by decide +kernel
theorem dX12_clear_0 : decode cX12_clear 0 = .ok (.aload_n 0, 1) := by decide +kernel
theorem dX12_clear_1 : decode cX12_clear 1 = .ok (.getfield 114, 3) := by decide +kernel
theorem dX12_clear_4 : decode cX12_clear 4 = .ok (.istore_n 1, 1) := by decide +kernel
theorem dX12_clear_5 : decode cX12_clear 5 = .ok (.aload_n 0, 1) := by decide +kernel
theorem dX12_clear_6 : decode cX12_clear 6 = .ok (.iconst 0, 1) := by decide +kernel
theorem dX12_clear_7 : decode cX12_clear 7 = .ok (.putfield 114, 3) := by decide +kernel
theorem dX12_clear_10 : decode cX12_clear 10 = .ok (.iload_n 1, 1) := by decide +kernel
theorem dX12_clear_11 : decode cX12_clear 11 = .ok (.ireturn, 1) := by decide +kernel
theorem dX12_byteAt_0 : decode cX12_byteAt 0 = .ok (.iload_n 1, 1) := by decide +kernel
theorem dX12_byteAt_1 : decode cX12_byteAt 1 = .ok (.aload_n 0, 1) := by decide +kernel
theorem dX12_byteAt_2 : decode cX12_byteAt 2 = .ok (.getfield 114, 3) := by decide +kernel
theorem dX12_byteAt_5 : decode cX12_byteAt 5 = .ok (.if_icmp .ge 12, 3) := by decide +kernel
theorem dX12_byteAt_8 : decode cX12_byteAt 8 = .ok (.aload_n 0, 1) := by decide +kernel
theorem dX12_byteAt_9 : decode cX12_byteAt 9 = .ok (.getfield 30, 3) := by decide +kernel
theorem dX12_byteAt_12 : decode cX12_byteAt 12 = .ok (.iload_n 1, 1) := by decide +kernel
theorem dX12_byteAt_13 : decode cX12_byteAt 13 = .ok (.iaload, 1) := by decide +kernel
theorem dX12_byteAt_14 : decode cX12_byteAt 14 = .ok (.goto 4, 3) := by decide +kernel
theorem dX12_byteAt_17 : decode cX12_byteAt 17 = .ok (.iconst 0, 1) := by decide +kernel
theorem dX12_byteAt_18 : decode cX12_byteAt 18 = .ok (.ireturn, 1) := by decide +kernel
theorem dX12_isWord_0 : decode cX12_isWord 0 = .ok (.iload 4, 2) := by decide +kernel
theorem dX12_isWord_2 : decode cX12_isWord 2 = .ok (.ifCond .ne 7, 3) := by decide +kernel
theorem dX12_isWord_5 : decode cX12_isWord 5 = .ok (.iconst 3, 1) := by decide +kernel
theorem dX12_isWord_6 : decode cX12_isWord 6 = .ok (.goto 14, 3) := by decide +kernel
theorem dX12_isWord_9 : decode cX12_isWord 9 = .ok (.iload 5, 2) := by decide +kernel
theorem dX12_isWord_11 : decode cX12_isWord 11 = .ok (.ifCond .ne 7, 3) := by decide +kernel
theorem dX12_isWord_14 : decode cX12_isWord 14 = .ok (.iconst 4, 1) := by decide +kernel
theorem dX12_isWord_15 : decode cX12_isWord 15 = .ok (.goto 5, 3) := by decide +kernel
theorem dX12_isWord_18 : decode cX12_isWord 18 = .ok (.bipush 6, 2) := by decide +kernel
theorem dX12_isWord_20 : decode cX12_isWord 20 = .ok (.istore 7, 2) := by decide +kernel
theorem dX12_isWord_22 : decode cX12_isWord 22 = .ok (.aload_n 0, 1) := by decide +kernel
theorem dX12_isWord_23 : decode cX12_isWord 23 = .ok (.getfield 117, 3) := by decide +kernel
theorem dX12_isWord_26 : decode cX12_isWord 26 = .ok (.aload_n 0, 1) := by decide +kernel
theorem dX12_isWord_27 : decode cX12_isWord 27 = .ok (.getfield 120, 3) := by decide +kernel
theorem dX12_isWord_30 : decode cX12_isWord 30 = .ok (.isub, 1) := by decide +kernel
theorem dX12_isWord_31 : decode cX12_isWord 31 = .ok (.iload 7, 2) := by decide +kernel
theorem dX12_isWord_33 : decode cX12_isWord 33 = .ok (.if_icmp .ne 50, 3) := by decide +kernel
theorem dX12_isWord_36 : decode cX12_isWord 36 = .ok (.aload_n 0, 1) := by decide +kernel
theorem dX12_isWord_37 : decode cX12_isWord 37 = .ok (.getfield 30, 3) := by decide +kernel
theorem dX12_isWord_40 : decode cX12_isWord 40 = .ok (.aload_n 0, 1) := by decide +kernel
theorem dX12_isWord_41 : decode cX12_isWord 41 = .ok (.getfield 120, 3) := by decide +kernel
theorem dX12_isWord_44 : decode cX12_isWord 44 = .ok (.iaload, 1) := by decide +kernel
theorem dX12_isWord_45 : decode cX12_isWord 45 = .ok (.iload_n 1, 1) := by decide +kernel
theorem dX12_isWord_46 : decode cX12_isWord 46 = .ok (.if_icmp .ne 37, 3) := by decide +kernel
theorem dX12_isWord_49 : decode cX12_isWord 49 = .ok (.aload_n 0, 1) := by decide +kernel
theorem dX12_isWord_50 : decode cX12_isWord 50 = .ok (.getfield 30, 3) := by decide +kernel
theorem dX12_isWord_53 : decode cX12_isWord 53 = .ok (.aload_n 0, 1) := by decide +kernel
theorem dX12_isWord_54 : decode cX12_isWord 54 = .ok (.getfield 120, 3) := by decide +kernel
theorem dX12_isWord_57 : decode cX12_isWord 57 = .ok (.iconst 1, 1) := by decide +kernel
theorem dX12_isWord_58 : decode cX12_isWord 58 = .ok (.iadd, 1) := by decide +kernel
theorem dX12_isWord_59 : decode cX12_isWord 59 = .ok (.iaload, 1) := by decide +kernel
theorem dX12_isWord_60 : decode cX12_isWord 60 = .ok (.iload_n 2, 1) := by decide +kernel
theorem dX12_isWord_61 : decode cX12_isWord 61 = .ok (.if_icmp .ne 22, 3) := by decide +kernel
theorem dX12_isWord_64 : decode cX12_isWord 64 = .ok (.aload_n 0, 1) := by decide +kernel
theorem dX12_isWord_65 : decode cX12_isWord 65 = .ok (.getfield 30, 3) := by decide +kernel
theorem dX12_isWord_68 : decode cX12_isWord 68 = .ok (.aload_n 0, 1) := by decide +kernel
theorem dX12_isWord_69 : decode cX12_isWord 69 = .ok (.getfield 120, 3) := by decide +kernel
theorem dX12_isWord_72 : decode cX12_isWord 72 = .ok (.iconst 2, 1) := by decide +kernel
theorem dX12_isWord_73 : decode cX12_isWord 73 = .ok (.iadd, 1) := by decide +kernel
theorem dX12_isWord_74 : decode cX12_isWord 74 = .ok (.iaload, 1) := by decide +kernel
theorem dX12_isWord_75 : decode cX12_isWord 75 = .ok (.iload_n 3, 1) := by decide +kernel
theorem dX12_isWord_76 : decode cX12_isWord 76 = .ok (.if_icmp .ne 7, 3) := by decide +kernel
theorem dX12_isWord_79 : decode cX12_isWord 79 = .ok (.iconst 1, 1) := by decide +kernel
theorem dX12_isWord_80 : decode cX12_isWord 80 = .ok (.goto 4, 3) := by decide +kernel
theorem dX12_isWord_83 : decode cX12_isWord 83 = .ok (.iconst 0, 1) := by decide +kernel
theorem dX12_isWord_84 : decode cX12_isWord 84 = .ok (.istore 8, 2) := by decide +kernel
theorem dX12_isWord_86 : decode cX12_isWord 86 = .ok (.iload 8, 2) := by decide +kernel
theorem dX12_isWord_88 : decode cX12_isWord 88 = .ok (.ifCond .eq 29, 3) := by decide +kernel
theorem dX12_isWord_91 : decode cX12_isWord 91 = .ok (.iload 7, 2) := by decide +kernel
theorem dX12_isWord_93 : decode cX12_isWord 93 = .ok (.iconst 4, 1) := by decide +kernel
theorem dX12_isWord_94 : decode cX12_isWord 94 = .ok (.if_icmp .lt 19, 3) := by decide +kernel
theorem dX12_isWord_97 : decode cX12_isWord 97 = .ok (.aload_n 0, 1) := by decide +kernel
theorem dX12_isWord_98 : decode cX12_isWord 98 = .ok (.getfield 30, 3) := by decide +kernel
theorem dX12_isWord_101 : decode cX12_isWord 101 = .ok (.aload_n 0, 1) := by decide +kernel
theorem dX12_isWord_102 : decode cX12_isWord 102 = .ok (.getfield 120, 3) := by decide +kernel
theorem dX12_isWord_105 : decode cX12_isWord 105 = .ok (.iconst 3, 1) := by decide +kernel
theorem dX12_isWord_106 : decode cX12_isWord 106 = .ok (.iadd, 1) := by decide +kernel
theorem dX12_isWord_107 : decode cX12_isWord 107 = .ok (.iaload, 1) := by decide +kernel
theorem dX12_isWord_108 : decode cX12_isWord 108 = .ok (.iload 4, 2) := by decide +kernel
theorem dX12_isWord_110 : decode cX12_isWord 110 = .ok (.if_icmp .ne 7, 3) := by decide +kernel
theorem dX12_isWord_113 : decode cX12_isWord 113 = .ok (.iconst 1, 1) := by decide +kernel
theorem dX12_isWord_114 : decode cX12_isWord 114 = .ok (.goto 4, 3) := by decide +kernel
theorem dX12_isWord_117 : decode cX12_isWord 117 = .ok (.iconst 0, 1) := by decide +kernel
theorem dX12_isWord_118 : decode cX12_isWord 118 = .ok (.istore 8, 2) := by decide +kernel
theorem dX12_isWord_120 : decode cX12_isWord 120 = .ok (.iload 8, 2) := by decide +kernel
theorem dX12_isWord_122 : decode cX12_isWord 122 = .ok (.ifCond .eq 46, 3) := by decide +kernel
theorem dX12_isWord_125 : decode cX12_isWord 125 = .ok (.iload 7, 2) := by decide +kernel
theorem dX12_isWord_127 : decode cX12_isWord 127 = .ok (.bipush 6, 2) := by decide +kernel
theorem dX12_isWord_129 : decode cX12_isWord 129 = .ok (.if_icmp .lt 35, 3) := by decide +kernel
theorem dX12_isWord_132 : decode cX12_isWord 132 = .ok (.aload_n 0, 1) := by decide +kernel
theorem dX12_isWord_133 : decode cX12_isWord 133 = .ok (.getfield 30, 3) := by decide +kernel
theorem dX12_isWord_136 : decode cX12_isWord 136 = .ok (.aload_n 0, 1) := by decide +kernel
theorem dX12_isWord_137 : decode cX12_isWord 137 = .ok (.getfield 120, 3) := by decide +kernel
theorem dX12_isWord_140 : decode cX12_isWord 140 = .ok (.iconst 4, 1) := by decide +kernel
theorem dX12_isWord_141 : decode cX12_isWord 141 = .ok (.iadd, 1) := by decide +kernel
theorem dX12_isWord_142 : decode cX12_isWord 142 = .ok (.iaload, 1) := by decide +kernel
theorem dX12_isWord_143 : decode cX12_isWord 143 = .ok (.iload 5, 2) := by decide +kernel
theorem dX12_isWord_145 : decode cX12_isWord 145 = .ok (.if_icmp .ne 23, 3) := by decide +kernel
theorem dX12_isWord_148 : decode cX12_isWord 148 = .ok (.aload_n 0, 1) := by decide +kernel
theorem dX12_isWord_149 : decode cX12_isWord 149 = .ok (.getfield 30, 3) := by decide +kernel
theorem dX12_isWord_152 : decode cX12_isWord 152 = .ok (.aload_n 0, 1) := by decide +kernel
theorem dX12_isWord_153 : decode cX12_isWord 153 = .ok (.getfield 120, 3) := by decide +kernel
theorem dX12_isWord_156 : decode cX12_isWord 156 = .ok (.iconst 5, 1) := by decide +kernel
theorem dX12_isWord_157 : decode cX12_isWord 157 = .ok (.iadd, 1) := by decide +kernel
theorem dX12_isWord_158 : decode cX12_isWord 158 = .ok (.iaload, 1) := by decide +kernel
theorem dX12_isWord_159 : decode cX12_isWord 159 = .ok (.iload 6, 2) := by decide +kernel
theorem dX12_isWord_161 : decode cX12_isWord 161 = .ok (.if_icmp .ne 7, 3) := by decide +kernel
theorem dX12_isWord_164 : decode cX12_isWord 164 = .ok (.iconst 1, 1) := by decide +kernel
theorem dX12_isWord_165 : decode cX12_isWord 165 = .ok (.goto 4, 3) := by decide +kernel
theorem dX12_isWord_168 : decode cX12_isWord 168 = .ok (.iconst 0, 1) := by decide +kernel
theorem dX12_isWord_169 : decode cX12_isWord 169 = .ok (.ireturn, 1) := by decide +kernel
theorem dX12_nextToken_0 : decode cX12_nextToken 0 = .ok (.aload_n 0, 1) := by decide +kernel
theorem dX12_nextToken_1 : decode cX12_nextToken 1 = .ok (.aload_n 0, 1) := by decide +kernel
theorem dX12_nextToken_2 : decode cX12_nextToken 2 = .ok (.getfield 117, 3) := by decide +kernel
theorem dX12_nextToken_5 : decode cX12_nextToken 5 = .ok (.invokevirtual 123, 3) := by decide +kernel
theorem dX12_nextToken_8 : decode cX12_nextToken 8 = .ok (.bipush 32, 2) := by decide +kernel
theorem dX12_nextToken_10 : decode cX12_nextToken 10 = .ok (.if_icmp .ne 16, 3) := by decide +kernel
theorem dX12_nextToken_13 : decode cX12_nextToken 13 = .ok (.aload_n 0, 1) := by decide +kernel
theorem dX12_nextToken_14 : decode cX12_nextToken 14 = .ok (.dup, 1) := by decide +kernel
theorem dX12_nextToken_15 : decode cX12_nextToken 15 = .ok (.getfield 117, 3) := by decide +kernel
theorem dX12_nextToken_18 : decode cX12_nextToken 18 = .ok (.iconst 1, 1) := by decide +kernel
theorem dX12_nextToken_19 : decode cX12_nextToken 19 = .ok (.iadd, 1) := by decide +kernel
theorem dX12_nextToken_20 : decode cX12_nextToken 20 = .ok (.putfield 117, 3) := by decide +kernel
theorem dX12_nextToken_23 : decode cX12_nextToken 23 = .ok (.goto (-23), 3) := by decide +kernel
theorem dX12_nextToken_26 : decode cX12_nextToken 26 = .ok (.aload_n 0, 1) := by decide +kernel
theorem dX12_nextToken_27 : decode cX12_nextToken 27 = .ok (.aload_n 0, 1) := by decide +kernel
theorem dX12_nextToken_28 : decode cX12_nextToken 28 = .ok (.getfield 117, 3) := by decide +kernel
theorem dX12_nextToken_31 : decode cX12_nextToken 31 = .ok (.putfield 120, 3) := by decide +kernel
theorem dX12_nextToken_34 : decode cX12_nextToken 34 = .ok (.aload_n 0, 1) := by decide +kernel
theorem dX12_nextToken_35 : decode cX12_nextToken 35 = .ok (.aload_n 0, 1) := by decide +kernel
theorem dX12_nextToken_36 : decode cX12_nextToken 36 = .ok (.getfield 117, 3) := by decide +kernel
theorem dX12_nextToken_39 : decode cX12_nextToken 39 = .ok (.aload_n 0, 1) := by decide +kernel
theorem dX12_nextToken_40 : decode cX12_nextToken 40 = .ok (.getfield 114, 3) := by decide +kernel
theorem dX12_nextToken_43 : decode cX12_nextToken 43 = .ok (.if_icmp .ne 8, 3) := by decide +kernel
theorem dX12_nextToken_46 : decode cX12_nextToken 46 = .ok (.bipush 7, 2) := by decide +kernel
theorem dX12_nextToken_48 : decode cX12_nextToken 48 = .ok (.goto 4, 3) := by decide +kernel
theorem dX12_nextToken_51 : decode cX12_nextToken 51 = .ok (.iconst 0, 1) := by decide +kernel
theorem dX12_nextToken_52 : decode cX12_nextToken 52 = .ok (.putfield 127, 3) := by decide +kernel
theorem dX12_nextToken_55 : decode cX12_nextToken 55 = .ok (.aload_n 0, 1) := by decide +kernel
theorem dX12_nextToken_56 : decode cX12_nextToken 56 = .ok (.iconst 0, 1) := by decide +kernel
theorem dX12_nextToken_57 : decode cX12_nextToken 57 = .ok (.putfield 130, 3) := by decide +kernel
theorem dX12_nextToken_60 : decode cX12_nextToken 60 = .ok (.aload_n 0, 1) := by decide +kernel
theorem dX12_nextToken_61 : decode cX12_nextToken 61 = .ok (.aload_n 0, 1) := by decide +kernel
theorem dX12_nextToken_62 : decode cX12_nextToken 62 = .ok (.getfield 117, 3) := by decide +kernel
theorem dX12_nextToken_65 : decode cX12_nextToken 65 = .ok (.invokevirtual 123, 3) := by decide +kernel
theorem dX12_nextToken_68 : decode cX12_nextToken 68 = .ok (.i2l, 1) := by decide +kernel
theorem dX12_nextToken_69 : decode cX12_nextToken 69 = .ok (.ldc2_w 133, 3) := by decide +kernel
theorem dX12_nextToken_72 : decode cX12_nextToken 72 = .ok (.ldc2_w 135, 3) := by decide +kernel
theorem dX12_nextToken_75 : decode cX12_nextToken 75 = .ok (.invokestatic 56, 3) := by decide +kernel
theorem dX12_nextToken_78 : decode cX12_nextToken 78 = .ok (.ifCond .eq 130, 3) := by decide +kernel
theorem dX12_nextToken_81 : decode cX12_nextToken 81 = .ok (.aload_n 0, 1) := by decide +kernel
theorem dX12_nextToken_82 : decode cX12_nextToken 82 = .ok (.aload_n 0, 1) := by decide +kernel
theorem dX12_nextToken_83 : decode cX12_nextToken 83 = .ok (.getfield 117, 3) := by decide +kernel
theorem dX12_nextToken_86 : decode cX12_nextToken 86 = .ok (.invokevirtual 123, 3) := by decide +kernel
theorem dX12_nextToken_89 : decode cX12_nextToken 89 = .ok (.i2l, 1) := by decide +kernel
theorem dX12_nextToken_90 : decode cX12_nextToken 90 = .ok (.ldc2_w 133, 3) := by decide +kernel
theorem dX12_nextToken_93 : decode cX12_nextToken 93 = .ok (.ldc2_w 135, 3) := by decide +kernel
theorem dX12_nextToken_96 : decode cX12_nextToken 96 = .ok (.invokestatic 56, 3) := by decide +kernel
theorem dX12_nextToken_99 : decode cX12_nextToken 99 = .ok (.ifCond .eq 16, 3) := by decide +kernel
theorem dX12_nextToken_102 : decode cX12_nextToken 102 = .ok (.aload_n 0, 1) := by decide +kernel
theorem dX12_nextToken_103 : decode cX12_nextToken 103 = .ok (.dup, 1) := by decide +kernel
theorem dX12_nextToken_104 : decode cX12_nextToken 104 = .ok (.getfield 117, 3) := by decide +kernel
theorem dX12_nextToken_107 : decode cX12_nextToken 107 = .ok (.iconst 1, 1) := by decide +kernel
theorem dX12_nextToken_108 : decode cX12_nextToken 108 = .ok (.iadd, 1) := by decide +kernel
theorem dX12_nextToken_109 : decode cX12_nextToken 109 = .ok (.putfield 117, 3) := by decide +kernel
theorem dX12_nextToken_112 : decode cX12_nextToken 112 = .ok (.goto (-31), 3) := by decide +kernel
theorem dX12_nextToken_115 : decode cX12_nextToken 115 = .ok (.aload_n 0, 1) := by decide +kernel
theorem dX12_nextToken_116 : decode cX12_nextToken 116 = .ok (.aload_n 0, 1) := by decide +kernel
theorem dX12_nextToken_117 : decode cX12_nextToken 117 = .ok (.bipush 112, 2) := by decide +kernel
theorem dX12_nextToken_119 : decode cX12_nextToken 119 = .ok (.bipush 97, 2) := by decide +kernel
theorem dX12_nextToken_121 : decode cX12_nextToken 121 = .ok (.bipush 100, 2) := by decide +kernel
theorem dX12_nextToken_123 : decode cX12_nextToken 123 = .ok (.iconst 0, 1) := by decide +kernel
theorem dX12_nextToken_124 : decode cX12_nextToken 124 = .ok (.iconst 0, 1) := by decide +kernel
theorem dX12_nextToken_125 : decode cX12_nextToken 125 = .ok (.iconst 0, 1) := by decide +kernel
theorem dX12_nextToken_126 : decode cX12_nextToken 126 = .ok (.invokevirtual 137, 3) := by decide +kernel
theorem dX12_nextToken_129 : decode cX12_nextToken 129 = .ok (.ifCond .eq 7, 3) := by decide +kernel
theorem dX12_nextToken_132 : decode cX12_nextToken 132 = .ok (.iconst 1, 1) := by decide +kernel
theorem dX12_nextToken_133 : decode cX12_nextToken 133 = .ok (.goto 69, 3) := by decide +kernel
theorem dX12_nextToken_136 : decode cX12_nextToken 136 = .ok (.aload_n 0, 1) := by decide +kernel
theorem dX12_nextToken_137 : decode cX12_nextToken 137 = .ok (.bipush 99, 2) := by decide +kernel
theorem dX12_nextToken_139 : decode cX12_nextToken 139 = .ok (.bipush 97, 2) := by decide +kernel
theorem dX12_nextToken_141 : decode cX12_nextToken 141 = .ok (.bipush 114, 2) := by decide +kernel
theorem dX12_nextToken_143 : decode cX12_nextToken 143 = .ok (.bipush 98, 2) := by decide +kernel
theorem dX12_nextToken_145 : decode cX12_nextToken 145 = .ok (.bipush 111, 2) := by decide +kernel
theorem dX12_nextToken_147 : decode cX12_nextToken 147 = .ok (.bipush 110, 2) := by decide +kernel
theorem dX12_nextToken_149 : decode cX12_nextToken 149 = .ok (.invokevirtual 137, 3) := by decide +kernel
theorem dX12_nextToken_152 : decode cX12_nextToken 152 = .ok (.ifCond .eq 7, 3) := by decide +kernel
theorem dX12_nextToken_155 : decode cX12_nextToken 155 = .ok (.iconst 2, 1) := by decide +kernel
theorem dX12_nextToken_156 : decode cX12_nextToken 156 = .ok (.goto 46, 3) := by decide +kernel
theorem dX12_nextToken_159 : decode cX12_nextToken 159 = .ok (.aload_n 0, 1) := by decide +kernel
theorem dX12_nextToken_160 : decode cX12_nextToken 160 = .ok (.bipush 110, 2) := by decide +kernel
theorem dX12_nextToken_162 : decode cX12_nextToken 162 = .ok (.bipush 111, 2) := by decide +kernel
theorem dX12_nextToken_164 : decode cX12_nextToken 164 = .ok (.bipush 116, 2) := by decide +kernel
theorem dX12_nextToken_166 : decode cX12_nextToken 166 = .ok (.bipush 101, 2) := by decide +kernel
theorem dX12_nextToken_168 : decode cX12_nextToken 168 = .ok (.iconst 0, 1) := by decide +kernel
theorem dX12_nextToken_169 : decode cX12_nextToken 169 = .ok (.iconst 0, 1) := by decide +kernel
theorem dX12_nextToken_170 : decode cX12_nextToken 170 = .ok (.invokevirtual 137, 3) := by decide +kernel
theorem dX12_nextToken_173 : decode cX12_nextToken 173 = .ok (.ifCond .eq 7, 3) := by decide +kernel
theorem dX12_nextToken_176 : decode cX12_nextToken 176 = .ok (.iconst 3, 1) := by decide +kernel
theorem dX12_nextToken_177 : decode cX12_nextToken 177 = .ok (.goto 25, 3) := by decide +kernel
theorem dX12_nextToken_180 : decode cX12_nextToken 180 = .ok (.aload_n 0, 1) := by decide +kernel
theorem dX12_nextToken_181 : decode cX12_nextToken 181 = .ok (.bipush 116, 2) := by decide +kernel
theorem dX12_nextToken_183 : decode cX12_nextToken 183 = .ok (.bipush 101, 2) := by decide +kernel
theorem dX12_nextToken_185 : decode cX12_nextToken 185 = .ok (.bipush 97, 2) := by decide +kernel
theorem dX12_nextToken_187 : decode cX12_nextToken 187 = .ok (.bipush 114, 2) := by decide +kernel
theorem dX12_nextToken_189 : decode cX12_nextToken 189 = .ok (.iconst 0, 1) := by decide +kernel
theorem dX12_nextToken_190 : decode cX12_nextToken 190 = .ok (.iconst 0, 1) := by decide +kernel
theorem dX12_nextToken_191 : decode cX12_nextToken 191 = .ok (.invokevirtual 137, 3) := by decide +kernel
theorem dX12_nextToken_194 : decode cX12_nextToken 194 = .ok (.ifCond .eq 7, 3) := by decide +kernel
theorem dX12_nextToken_197 : decode cX12_nextToken 197 = .ok (.iconst 4, 1) := by decide +kernel
theorem dX12_nextToken_198 : decode cX12_nextToken 198 = .ok (.goto 4, 3) := by decide +kernel
theorem dX12_nextToken_201 : decode cX12_nextToken 201 = .ok (.iconst 0, 1) := by decide +kernel
theorem dX12_nextToken_202 : decode cX12_nextToken 202 = .ok (.putfield 127, 3) := by decide +kernel
theorem dX12_nextToken_205 : decode cX12_nextToken 205 = .ok (.goto 163, 3) := by decide +kernel
theorem dX12_nextToken_208 : decode cX12_nextToken 208 = .ok (.aload_n 0, 1) := by decide +kernel
theorem dX12_nextToken_209 : decode cX12_nextToken 209 = .ok (.aload_n 0, 1) := by decide +kernel
theorem dX12_nextToken_210 : decode cX12_nextToken 210 = .ok (.getfield 117, 3) := by decide +kernel
theorem dX12_nextToken_213 : decode cX12_nextToken 213 = .ok (.invokevirtual 123, 3) := by decide +kernel
theorem dX12_nextToken_216 : decode cX12_nextToken 216 = .ok (.i2l, 1) := by decide +kernel
theorem dX12_nextToken_217 : decode cX12_nextToken 217 = .ok (.ldc2_w 141, 3) := by decide +kernel
theorem dX12_nextToken_220 : decode cX12_nextToken 220 = .ok (.ldc2_w 143, 3) := by decide +kernel
theorem dX12_nextToken_223 : decode cX12_nextToken 223 = .ok (.invokestatic 56, 3) := by decide +kernel
theorem dX12_nextToken_226 : decode cX12_nextToken 226 = .ok (.ifCond .eq 103, 3) := by decide +kernel
theorem dX12_nextToken_229 : decode cX12_nextToken 229 = .ok (.aload_n 0, 1) := by decide +kernel
theorem dX12_nextToken_230 : decode cX12_nextToken 230 = .ok (.aload_n 0, 1) := by decide +kernel
theorem dX12_nextToken_231 : decode cX12_nextToken 231 = .ok (.getfield 117, 3) := by decide +kernel
theorem dX12_nextToken_234 : decode cX12_nextToken 234 = .ok (.invokevirtual 123, 3) := by decide +kernel
theorem dX12_nextToken_237 : decode cX12_nextToken 237 = .ok (.i2l, 1) := by decide +kernel
theorem dX12_nextToken_238 : decode cX12_nextToken 238 = .ok (.ldc2_w 141, 3) := by decide +kernel
theorem dX12_nextToken_241 : decode cX12_nextToken 241 = .ok (.ldc2_w 143, 3) := by decide +kernel
theorem dX12_nextToken_244 : decode cX12_nextToken 244 = .ok (.invokestatic 56, 3) := by decide +kernel
theorem dX12_nextToken_247 : decode cX12_nextToken 247 = .ok (.ifCond .eq 56, 3) := by decide +kernel
theorem dX12_nextToken_250 : decode cX12_nextToken 250 = .ok (.aload_n 0, 1) := by decide +kernel
theorem dX12_nextToken_251 : decode cX12_nextToken 251 = .ok (.aload_n 0, 1) := by decide +kernel
theorem dX12_nextToken_252 : decode cX12_nextToken 252 = .ok (.getfield 130, 3) := by decide +kernel
theorem dX12_nextToken_255 : decode cX12_nextToken 255 = .ok (.bipush 99, 2) := by decide +kernel
theorem dX12_nextToken_257 : decode cX12_nextToken 257 = .ok (.if_icmp .le 10, 3) := by decide +kernel
theorem dX12_nextToken_260 : decode cX12_nextToken 260 = .ok (.aload_n 0, 1) := by decide +kernel
theorem dX12_nextToken_261 : decode cX12_nextToken 261 = .ok (.getfield 130, 3) := by decide +kernel
theorem dX12_nextToken_264 : decode cX12_nextToken 264 = .ok (.goto 23, 3) := by decide +kernel
theorem dX12_nextToken_267 : decode cX12_nextToken 267 = .ok (.bipush 10, 2) := by decide +kernel
theorem dX12_nextToken_269 : decode cX12_nextToken 269 = .ok (.aload_n 0, 1) := by decide +kernel
theorem dX12_nextToken_270 : decode cX12_nextToken 270 = .ok (.getfield 130, 3) := by decide +kernel
theorem dX12_nextToken_273 : decode cX12_nextToken 273 = .ok (.imul, 1) := by decide +kernel
theorem dX12_nextToken_274 : decode cX12_nextToken 274 = .ok (.aload_n 0, 1) := by decide +kernel
theorem dX12_nextToken_275 : decode cX12_nextToken 275 = .ok (.getfield 30, 3) := by decide +kernel
theorem dX12_nextToken_278 : decode cX12_nextToken 278 = .ok (.aload_n 0, 1) := by decide +kernel
theorem dX12_nextToken_279 : decode cX12_nextToken 279 = .ok (.getfield 117, 3) := by decide +kernel
theorem dX12_nextToken_282 : decode cX12_nextToken 282 = .ok (.iaload, 1) := by decide +kernel
theorem dX12_nextToken_283 : decode cX12_nextToken 283 = .ok (.iadd, 1) := by decide +kernel
theorem dX12_nextToken_284 : decode cX12_nextToken 284 = .ok (.bipush 48, 2) := by decide +kernel
theorem dX12_nextToken_286 : decode cX12_nextToken 286 = .ok (.isub, 1) := by decide +kernel
theorem dX12_nextToken_287 : decode cX12_nextToken 287 = .ok (.putfield 130, 3) := by decide +kernel
theorem dX12_nextToken_290 : decode cX12_nextToken 290 = .ok (.aload_n 0, 1) := by decide +kernel
theorem dX12_nextToken_291 : decode cX12_nextToken 291 = .ok (.dup, 1) := by decide +kernel
theorem dX12_nextToken_292 : decode cX12_nextToken 292 = .ok (.getfield 117, 3) := by decide +kernel
theorem dX12_nextToken_295 : decode cX12_nextToken 295 = .ok (.iconst 1, 1) := by decide +kernel
theorem dX12_nextToken_296 : decode cX12_nextToken 296 = .ok (.iadd, 1) := by decide +kernel
theorem dX12_nextToken_297 : decode cX12_nextToken 297 = .ok (.putfield 117, 3) := by decide +kernel
theorem dX12_nextToken_300 : decode cX12_nextToken 300 = .ok (.goto (-71), 3) := by decide +kernel
theorem dX12_nextToken_303 : decode cX12_nextToken 303 = .ok (.aload_n 0, 1) := by decide +kernel
theorem dX12_nextToken_304 : decode cX12_nextToken 304 = .ok (.aload_n 0, 1) := by decide +kernel
theorem dX12_nextToken_305 : decode cX12_nextToken 305 = .ok (.getfield 117, 3) := by decide +kernel
theorem dX12_nextToken_308 : decode cX12_nextToken 308 = .ok (.aload_n 0, 1) := by decide +kernel
theorem dX12_nextToken_309 : decode cX12_nextToken 309 = .ok (.getfield 120, 3) := by decide +kernel
theorem dX12_nextToken_312 : decode cX12_nextToken 312 = .ok (.isub, 1) := by decide +kernel
theorem dX12_nextToken_313 : decode cX12_nextToken 313 = .ok (.iconst 2, 1) := by decide +kernel
theorem dX12_nextToken_314 : decode cX12_nextToken 314 = .ok (.if_icmp .le 7, 3) := by decide +kernel
theorem dX12_nextToken_317 : decode cX12_nextToken 317 = .ok (.iconst 0, 1) := by decide +kernel
theorem dX12_nextToken_318 : decode cX12_nextToken 318 = .ok (.goto 5, 3) := by decide +kernel
theorem dX12_nextToken_321 : decode cX12_nextToken 321 = .ok (.bipush 6, 2) := by decide +kernel
theorem dX12_nextToken_323 : decode cX12_nextToken 323 = .ok (.putfield 127, 3) := by decide +kernel
theorem dX12_nextToken_326 : decode cX12_nextToken 326 = .ok (.goto 42, 3) := by decide +kernel
theorem dX12_nextToken_329 : decode cX12_nextToken 329 = .ok (.aload_n 0, 1) := by decide +kernel
theorem dX12_nextToken_330 : decode cX12_nextToken 330 = .ok (.getfield 127, 3) := by decide +kernel
theorem dX12_nextToken_333 : decode cX12_nextToken 333 = .ok (.ifCond .ne 35, 3) := by decide +kernel
theorem dX12_nextToken_336 : decode cX12_nextToken 336 = .ok (.aload_n 0, 1) := by decide +kernel
theorem dX12_nextToken_337 : decode cX12_nextToken 337 = .ok (.aload_n 0, 1) := by decide +kernel
theorem dX12_nextToken_338 : decode cX12_nextToken 338 = .ok (.aload_n 0, 1) := by decide +kernel
theorem dX12_nextToken_339 : decode cX12_nextToken 339 = .ok (.getfield 117, 3) := by decide +kernel
theorem dX12_nextToken_342 : decode cX12_nextToken 342 = .ok (.invokevirtual 123, 3) := by decide +kernel
theorem dX12_nextToken_345 : decode cX12_nextToken 345 = .ok (.bipush 59, 2) := by decide +kernel
theorem dX12_nextToken_347 : decode cX12_nextToken 347 = .ok (.if_icmp .ne 7, 3) := by decide +kernel
theorem dX12_nextToken_350 : decode cX12_nextToken 350 = .ok (.iconst 5, 1) := by decide +kernel
theorem dX12_nextToken_351 : decode cX12_nextToken 351 = .ok (.goto 4, 3) := by decide +kernel
theorem dX12_nextToken_354 : decode cX12_nextToken 354 = .ok (.iconst 0, 1) := by decide +kernel
theorem dX12_nextToken_355 : decode cX12_nextToken 355 = .ok (.putfield 127, 3) := by decide +kernel
theorem dX12_nextToken_358 : decode cX12_nextToken 358 = .ok (.aload_n 0, 1) := by decide +kernel
theorem dX12_nextToken_359 : decode cX12_nextToken 359 = .ok (.dup, 1) := by decide +kernel
theorem dX12_nextToken_360 : decode cX12_nextToken 360 = .ok (.getfield 117, 3) := by decide +kernel
theorem dX12_nextToken_363 : decode cX12_nextToken 363 = .ok (.iconst 1, 1) := by decide +kernel
theorem dX12_nextToken_364 : decode cX12_nextToken 364 = .ok (.iadd, 1) := by decide +kernel
theorem dX12_nextToken_365 : decode cX12_nextToken 365 = .ok (.putfield 117, 3) := by decide +kernel
theorem dX12_nextToken_368 : decode cX12_nextToken 368 = .ok (.return_, 1) := by decide +kernel
theorem dX12_number_0 : decode cX12_number 0 = .ok (.aload_n 0, 1) := by decide +kernel
theorem dX12_number_1 : decode cX12_number 1 = .ok (.invokevirtual 145, 3) := by decide +kernel
theorem dX12_number_4 : decode cX12_number 4 = .ok (.aload_n 0, 1) := by decide +kernel
theorem dX12_number_5 : decode cX12_number 5 = .ok (.getfield 127, 3) := by decide +kernel
theorem dX12_number_8 : decode cX12_number 8 = .ok (.bipush 6, 2) := by decide +kernel
theorem dX12_number_10 : decode cX12_number 10 = .ok (.if_icmp .ne 22, 3) := by decide +kernel
theorem dX12_number_13 : decode cX12_number 13 = .ok (.aload_n 0, 1) := by decide +kernel
theorem dX12_number_14 : decode cX12_number 14 = .ok (.getfield 130, 3) := by decide +kernel
theorem dX12_number_17 : decode cX12_number 17 = .ok (.i2l, 1) := by decide +kernel
theorem dX12_number_18 : decode cX12_number 18 = .ok (.iload_n 1, 1) := by decide +kernel
theorem dX12_number_19 : decode cX12_number 19 = .ok (.i2l, 1) := by decide +kernel
theorem dX12_number_20 : decode cX12_number 20 = .ok (.iload_n 2, 1) := by decide +kernel
theorem dX12_number_21 : decode cX12_number 21 = .ok (.i2l, 1) := by decide +kernel
theorem dX12_number_22 : decode cX12_number 22 = .ok (.invokestatic 56, 3) := by decide +kernel
theorem dX12_number_25 : decode cX12_number 25 = .ok (.ifCond .eq 7, 3) := by decide +kernel
theorem dX12_number_28 : decode cX12_number 28 = .ok (.iconst 1, 1) := by decide +kernel
theorem dX12_number_29 : decode cX12_number 29 = .ok (.goto 4, 3) := by decide +kernel
theorem dX12_number_32 : decode cX12_number 32 = .ok (.iconst 0, 1) := by decide +kernel
theorem dX12_number_33 : decode cX12_number 33 = .ok (.ireturn, 1) := by decide +kernel
theorem dX12_readNote_0 : decode cX12_readNote 0 = .ok (.aload_n 0, 1) := by decide +kernel
theorem dX12_readNote_1 : decode cX12_readNote 1 = .ok (.iconst 0, 1) := by decide +kernel
theorem dX12_readNote_2 : decode cX12_readNote 2 = .ok (.iconst 5, 1) := by decide +kernel
theorem dX12_readNote_3 : decode cX12_readNote 3 = .ok (.invokevirtual 148, 3) := by decide +kernel
theorem dX12_readNote_6 : decode cX12_readNote 6 = .ok (.ifCond .ne 5, 3) := by decide +kernel
theorem dX12_readNote_9 : decode cX12_readNote 9 = .ok (.iconst 0, 1) := by decide +kernel
theorem dX12_readNote_10 : decode cX12_readNote 10 = .ok (.ireturn, 1) := by decide +kernel
theorem dX12_readNote_11 : decode cX12_readNote 11 = .ok (.aload_n 0, 1) := by decide +kernel
theorem dX12_readNote_12 : decode cX12_readNote 12 = .ok (.getfield 33, 3) := by decide +kernel
theorem dX12_readNote_15 : decode cX12_readNote 15 = .ok (.iload_n 1, 1) := by decide +kernel
theorem dX12_readNote_16 : decode cX12_readNote 16 = .ok (.iconst 1, 1) := by decide +kernel
theorem dX12_readNote_17 : decode cX12_readNote 17 = .ok (.iadd, 1) := by decide +kernel
theorem dX12_readNote_18 : decode cX12_readNote 18 = .ok (.aload_n 0, 1) := by decide +kernel
theorem dX12_readNote_19 : decode cX12_readNote 19 = .ok (.getfield 130, 3) := by decide +kernel
theorem dX12_readNote_22 : decode cX12_readNote 22 = .ok (.iastore, 1) := by decide +kernel
theorem dX12_readNote_23 : decode cX12_readNote 23 = .ok (.aload_n 0, 1) := by decide +kernel
theorem dX12_readNote_24 : decode cX12_readNote 24 = .ok (.iconst 1, 1) := by decide +kernel
theorem dX12_readNote_25 : decode cX12_readNote 25 = .ok (.bipush 9, 2) := by decide +kernel
theorem dX12_readNote_27 : decode cX12_readNote 27 = .ok (.invokevirtual 148, 3) := by decide +kernel
theorem dX12_readNote_30 : decode cX12_readNote 30 = .ok (.ifCond .ne 5, 3) := by decide +kernel
theorem dX12_readNote_33 : decode cX12_readNote 33 = .ok (.iconst 0, 1) := by decide +kernel
theorem dX12_readNote_34 : decode cX12_readNote 34 = .ok (.ireturn, 1) := by decide +kernel
theorem dX12_readNote_35 : decode cX12_readNote 35 = .ok (.aload_n 0, 1) := by decide +kernel
theorem dX12_readNote_36 : decode cX12_readNote 36 = .ok (.getfield 33, 3) := by decide +kernel
theorem dX12_readNote_39 : decode cX12_readNote 39 = .ok (.iload_n 1, 1) := by decide +kernel
theorem dX12_readNote_40 : decode cX12_readNote 40 = .ok (.iconst 2, 1) := by decide +kernel
theorem dX12_readNote_41 : decode cX12_readNote 41 = .ok (.iadd, 1) := by decide +kernel
theorem dX12_readNote_42 : decode cX12_readNote 42 = .ok (.aload_n 0, 1) := by decide +kernel
theorem dX12_readNote_43 : decode cX12_readNote 43 = .ok (.getfield 130, 3) := by decide +kernel
theorem dX12_readNote_46 : decode cX12_readNote 46 = .ok (.iastore, 1) := by decide +kernel
theorem dX12_readNote_47 : decode cX12_readNote 47 = .ok (.iconst 0, 1) := by decide +kernel
theorem dX12_readNote_48 : decode cX12_readNote 48 = .ok (.istore_n 2, 1) := by decide +kernel
theorem dX12_readNote_49 : decode cX12_readNote 49 = .ok (.iconst (-1), 1) := by decide +kernel
theorem dX12_readNote_50 : decode cX12_readNote 50 = .ok (.istore_n 3, 1) := by decide +kernel
theorem dX12_readNote_51 : decode cX12_readNote 51 = .ok (.aload_n 0, 1) := by decide +kernel
theorem dX12_readNote_52 : decode cX12_readNote 52 = .ok (.invokevirtual 145, 3) := by decide +kernel
theorem dX12_readNote_55 : decode cX12_readNote 55 = .ok (.aload_n 0, 1) := by decide +kernel
theorem dX12_readNote_56 : decode cX12_readNote 56 = .ok (.getfield 127, 3) := by decide +kernel
theorem dX12_readNote_59 : decode cX12_readNote 59 = .ok (.bipush 6, 2) := by decide +kernel
theorem dX12_readNote_61 : decode cX12_readNote 61 = .ok (.if_icmp .ne 44, 3) := by decide +kernel
theorem dX12_readNote_64 : decode cX12_readNote 64 = .ok (.aload_n 0, 1) := by decide +kernel
theorem dX12_readNote_65 : decode cX12_readNote 65 = .ok (.getfield 130, 3) := by decide +kernel
theorem dX12_readNote_68 : decode cX12_readNote 68 = .ok (.i2l, 1) := by decide +kernel
theorem dX12_readNote_69 : decode cX12_readNote 69 = .ok (.iload_n 3, 1) := by decide +kernel
theorem dX12_readNote_70 : decode cX12_readNote 70 = .ok (.iconst 1, 1) := by decide +kernel
theorem dX12_readNote_71 : decode cX12_readNote 71 = .ok (.iadd, 1) := by decide +kernel
theorem dX12_readNote_72 : decode cX12_readNote 72 = .ok (.i2l, 1) := by decide +kernel
theorem dX12_readNote_73 : decode cX12_readNote 73 = .ok (.ldc2_w 151, 3) := by decide +kernel
theorem dX12_readNote_76 : decode cX12_readNote 76 = .ok (.invokestatic 56, 3) := by decide +kernel
theorem dX12_readNote_79 : decode cX12_readNote 79 = .ok (.ifCond .ne 5, 3) := by decide +kernel
theorem dX12_readNote_82 : decode cX12_readNote 82 = .ok (.iconst 0, 1) := by decide +kernel
theorem dX12_readNote_83 : decode cX12_readNote 83 = .ok (.ireturn, 1) := by decide +kernel
theorem dX12_readNote_84 : decode cX12_readNote 84 = .ok (.aload_n 0, 1) := by decide +kernel
theorem dX12_readNote_85 : decode cX12_readNote 85 = .ok (.getfield 130, 3) := by decide +kernel
theorem dX12_readNote_88 : decode cX12_readNote 88 = .ok (.istore_n 3, 1) := by decide +kernel
theorem dX12_readNote_89 : decode cX12_readNote 89 = .ok (.iload_n 2, 1) := by decide +kernel
theorem dX12_readNote_90 : decode cX12_readNote 90 = .ok (.iconst 1, 1) := by decide +kernel
theorem dX12_readNote_91 : decode cX12_readNote 91 = .ok (.aload_n 0, 1) := by decide +kernel
theorem dX12_readNote_92 : decode cX12_readNote 92 = .ok (.getfield 130, 3) := by decide +kernel
theorem dX12_readNote_95 : decode cX12_readNote 95 = .ok (.ishl, 1) := by decide +kernel
theorem dX12_readNote_96 : decode cX12_readNote 96 = .ok (.ior, 1) := by decide +kernel
theorem dX12_readNote_97 : decode cX12_readNote 97 = .ok (.istore_n 2, 1) := by decide +kernel
theorem dX12_readNote_98 : decode cX12_readNote 98 = .ok (.aload_n 0, 1) := by decide +kernel
theorem dX12_readNote_99 : decode cX12_readNote 99 = .ok (.invokevirtual 145, 3) := by decide +kernel
theorem dX12_readNote_102 : decode cX12_readNote 102 = .ok (.goto (-47), 3) := by decide +kernel
theorem dX12_readNote_105 : decode cX12_readNote 105 = .ok (.aload_n 0, 1) := by decide +kernel
theorem dX12_readNote_106 : decode cX12_readNote 106 = .ok (.getfield 33, 3) := by decide +kernel
theorem dX12_readNote_109 : decode cX12_readNote 109 = .ok (.iload_n 1, 1) := by decide +kernel
theorem dX12_readNote_110 : decode cX12_readNote 110 = .ok (.iconst 3, 1) := by decide +kernel
theorem dX12_readNote_111 : decode cX12_readNote 111 = .ok (.iadd, 1) := by decide +kernel
theorem dX12_readNote_112 : decode cX12_readNote 112 = .ok (.iload_n 2, 1) := by decide +kernel
theorem dX12_readNote_113 : decode cX12_readNote 113 = .ok (.iastore, 1) := by decide +kernel
theorem dX12_readNote_114 : decode cX12_readNote 114 = .ok (.iconst 1, 1) := by decide +kernel
theorem dX12_readNote_115 : decode cX12_readNote 115 = .ok (.ireturn, 1) := by decide +kernel
set_option maxHeartbeats 4000000 in
set_option maxRecDepth 100000 in
theorem vlX12_undo_27 (C : VC pr s m args meth c E A cX12_undo 2 (some .int) RX12) (hA : va_A w0 s.heap.size = A) (a : Nat → Nat)  {Post : Int32 → St → Prop} {KX : St → Prop} (hX : ∀ (p : St), KX p → V pr l e rmX12_undo s m args below meth c E A 2 0 0 (MQ below (CQi E Post (fun u => (fl [bModel E a u])) w0 s.heap.size) args s 0 0 A) (fl [bModel E a p]) 59 [(0, .ref (a 0))] []) : ∀ (n : Nat) (x1 : Int32) (p : St), wLX12_undo_27  Post KX n (x1, p) → V pr l e rmX12_undo s m args below meth c E A 2 0 0 (MQ below (CQi E Post (fun u => (fl [bModel E a u])) w0 s.heap.size) args s 0 0 A) (fl [bModel E a p]) 27 [(0, .ref (a 0)), (1, .int x1)] [] := by
  intro n
  induction n with
  | zero => intro x1 p hw; exact absurd hw id
  | succ n hself =>
    intro x1 p hw
    have hw : wlX12_undo_27  Post KX (wLX12_undo_27  Post KX n) x1 p := hw
    refine v_iload_n (pc := 27) C 1 rfl rfl dX12_undo_27 ?_
    refine v_bipush (pc := 28) C 126 kb_126 dX12_undo_28 ?_
    refine v_icmp_ge (pc := 30) C 59 (by decide) dX12_undo_30 (fun hc => ?_) (fun hc => ?_)
    · have hw := hw.1 hc
      refine v_sub (lv' := [(0, .ref (a 0))]) [0] rfl ?_
      exact hX p hw
    · have hw := hw.2 hc
      refine v_aload_n (pc := 33) C 0 rfl rfl dX12_undo_33 ?_
      refine v_get (pc := 34) C cfX12 rfl 0 4 rfl (by decide) wfX12_17 rfl dX12_undo_34 ?_
      refine v_iload_n (pc := 37) C 1 rfl rfl dX12_undo_37 ?_
      refine v_aload_n (pc := 38) C 0 rfl rfl dX12_undo_38 ?_
      refine v_get (pc := 39) C cfX12 rfl 0 5 rfl (by decide) wfX12_20 rfl dX12_undo_39 ?_
      refine v_bipush (pc := 42) C 126 kb_126 dX12_undo_42 ?_
      refine v_aload_n (pc := 44) C 0 rfl rfl dX12_undo_44 ?_
      refine v_get (pc := 45) C cfX12 rfl 0 6 rfl (by decide) wfX12_70 rfl dX12_undo_45 ?_
      refine v_imul (pc := 48) C dX12_undo_48 ?_
      refine v_iload_n (pc := 49) C 1 rfl rfl dX12_undo_49 ?_
      refine v_iadd (pc := 50) C dX12_undo_50 ?_
      obtain ⟨hg, hw⟩ := hw
      refine v_iald (pc := 51) C 3 rfl hg rfl dX12_undo_51 ?_
      obtain ⟨hg, hw⟩ := hw
      obtain ⟨p2, es⟩ : ∃ y : St, y = p.sA 4 (upd (p.A 4) x1.toNatClampNeg ((p.A 5) (((126 : Int32) * (p.I 6)) + x1).toNatClampNeg)) := ⟨_, rfl⟩
      have hw := hw p2 es
      refine v_iast (pc := 52) C 2 (w' := (fl [bModel E a p2])) rfl rfl (by subst es; rfl) hg dX12_undo_52 ?_
      obtain ⟨x1_3, ex⟩ : ∃ y : Int32, y = x1 + 1 := ⟨_, rfl⟩
      have hw := hw x1_3 ex
      refine v_iinc (pc := 53) C 1 rfl (by rw [ex, ki_1]) [(1, .int x1_3), (0, .ref (a 0))] rfl (by decide) dX12_undo_53 ?_
      refine v_goto (pc := 56) C 27 (by decide) dX12_undo_56 ?_
      refine v_sub (lv' := [(0, .ref (a 0)), (1, .int x1_3)]) [1, 0] rfl ?_
      exact hself x1_3 p2 hw
set_option maxHeartbeats 4000000 in
set_option maxRecDepth 100000 in
theorem ctX12_undo (l : Launch) (E : VE) (a : Nat → Nat)  (p : St)  {Post : Int32 → St → Prop} (hw : wpX12_undo p Post) (sz : Nat) : Met l yX12_undo (mW yX12_undo cX12_undo 2 (some .int)) rmX12_undo (CPre E [.ref (a 0)] sz (fl [bModel E a p])) (CQi E Post (fun u => (fl [bModel E a u])) (fl [bModel E a p]) sz) 0 0 (va_A (fl [bModel E a p]) sz) := by
  refine v_met (by decide) (Nat.le_of_ble_eq_true rfl) ?_
  intro pr e s m below meth c A hsz hA C
  subst hsz
  refine v_aload_n (pc := 0) C 0 rfl rfl dX12_undo_0 ?_
  refine v_get (pc := 1) C cfX12 rfl 0 6 rfl (by decide) wfX12_70 rfl dX12_undo_1 ?_
  refine v_if_ne (pc := 4) C 15 (by decide) dX12_undo_4 (fun hc => ?_) (fun hc => ?_)
  · have hw := hw.1 hc
    refine v_aload_n (pc := 15) C 0 rfl rfl dX12_undo_15 ?_
    refine v_dup (pc := 16) C rfl dX12_undo_16 ?_
    refine v_get (pc := 17) C cfX12 rfl 0 6 rfl (by decide) wfX12_70 rfl dX12_undo_17 ?_
    refine v_iconst (pc := 20) C 1 ki_1 dX12_undo_20 ?_
    refine v_isub (pc := 21) C dX12_undo_21 ?_
    obtain ⟨p1, es⟩ : ∃ y : St, y = p.sI 6 ((p.I 6) - 1) := ⟨_, rfl⟩
    have hw := hw p1 es
    refine v_put (pc := 22) C cfX12 rfl 0 6 (ty := .int) (w' := (fl [bModel E a p1])) rfl (by subst es; rfl) (by decide) wfX12_70 rfl rfl rfl rfl (Nat.le_of_ble_eq_true rfl) dX12_undo_22 ?_
    refine v_iconst (pc := 25) C 0 ki_0 dX12_undo_25 ?_
    refine v_istore_n (pc := 26) C [(1, .int 0), (0, .ref (a 0))] rfl rfl (by decide) dX12_undo_26 ?_
    obtain ⟨n, hw⟩ := hw
    refine v_sub (lv' := [(0, .ref (a 0)), (1, .int 0)]) [1, 0] rfl ?_
    refine vlX12_undo_27 C hA a  (fun p4 hw => ?_) n 0 p1 hw
    refine v_aload_n (pc := 59) C 0 rfl rfl dX12_undo_59 ?_
    refine v_get (pc := 60) C cfX12 rfl 0 4 rfl (by decide) wfX12_17 rfl dX12_undo_60 ?_
    refine v_bipush (pc := 63) C 124 kb_124 dX12_undo_63 ?_
    refine v_iald (pc := 65) C 2 rfl vi_124_126 tn_124 dX12_undo_65 ?_
    exact v_ireti (pc := 66) C p4 hA rfl hw dX12_undo_66
  · have hw := hw.2 hc
    refine v_aload_n (pc := 7) C 0 rfl rfl dX12_undo_7 ?_
    refine v_iconst (pc := 8) C 1 ki_1 dX12_undo_8 ?_
    refine v_bipush (pc := 9) C (-3) kb_m3 dX12_undo_9 ?_
    refine v_goAi (pc := 11) C (wc' := (fun (u : St) => (fl [bModel E a u]))) (fun _ => rfl) (v_runVA (pc := 11) C [.int 1, .int (-3)] [] (fun sz => ctX12_refuse l E a 1 (-3) p hw sz) mfX12_refuse mvX12_refuse wmX12_52 rfl ⟨Nat.le_of_ble_eq_true rfl, Nat.le_of_ble_eq_true rfl⟩ ⟨rfl, rfl⟩ 0 (ci := 12) (qc := (RX12, TX12, 30)) rfl rfl rfl rfl (Nat.le_of_ble_eq_true rfl) ⟨Nat.zero_le _, Nat.zero_le _⟩ dX12_undo_11) (fun r5 p6 hw => ?_)
    exact v_ireti (pc := 14) C p6 hA rfl hw dX12_undo_14
set_option maxHeartbeats 4000000 in
set_option maxRecDepth 100000 in
theorem ctX12_word (l : Launch) (E : VE) (a : Nat → Nat) (x1 : Int32) (p : St)  {Post : Int32 → St → Prop} (hw : wpX12_word x1 p Post) (sz : Nat) : Met l yX12_word (mW yX12_word cX12_word 2 (some .int)) rmX12_word (CPre E [.ref (a 0), .int x1] sz (fl [bModel E a p])) (CQi E Post (fun u => (fl [bModel E a u])) (fl [bModel E a p]) sz) 0 0 (va_A (fl [bModel E a p]) sz) := by
  refine v_met (by decide) (Nat.le_of_ble_eq_true rfl) ?_
  intro pr e s m below meth c A hsz hA C
  subst hsz
  refine v_iload_n (pc := 0) C 1 rfl rfl dX12_word_0 ?_
  refine v_i2l (pc := 1) C dX12_word_1 ?_
  refine v_lconst (pc := 2) C 0 kl_0 dX12_word_2 ?_
  refine v_ldc2 (pc := 3) C 4095 wlX12_104 dX12_word_3 ?_
  refine v_goBi (pc := 6) C (bs := [bModel E a p]) (cs := []) (cs' := (fun (_ : Unit) => [])) (bs' := (fun (_ : Unit) => [bModel E a p])) (w' := (fun (_ : Unit) => (fl [bModel E a p]))) [] rfl rfl (fun _ => rfl) (fun _ => rfl) (fun _ => rfl) (v_runSB (pc := 6) C [.long (x1.toInt64), .long 0, .long 4095] [] (fun sz => ctX12_in l E (x1.toInt64) 0 4095 hw sz) [] rfl rfl rfl mfX12_in msX12_in wmX12_56 rfl ⟨Nat.le_of_ble_eq_true rfl, Nat.le_of_ble_eq_true rfl⟩ ⟨rfl, rfl⟩ rfl (Nat.le_of_ble_eq_true rfl) ⟨Nat.zero_le _, Nat.zero_le _⟩ dX12_word_6) (fun r1 _ hw => ?_)
  refine v_if_ne (pc := 9) C 17 (by decide) dX12_word_9 (fun hc => ?_) (fun hc => ?_)
  · have hw := hw.1 hc
    refine v_aload_n (pc := 17) C 0 rfl rfl dX12_word_17 ?_
    refine v_get (pc := 18) C cfX12 rfl 0 3 rfl (by decide) wfX12_79 rfl dX12_word_18 ?_
    refine v_bipush (pc := 21) C 8 kb_8 dX12_word_21 ?_
    refine v_icmp_ne (pc := 23) C 34 (by decide) dX12_word_23 (fun hc => ?_) (fun hc => ?_)
    · have hw := hw.1 hc
      refine v_aload_n (pc := 34) C 0 rfl rfl dX12_word_34 ?_
      refine v_get (pc := 35) C cfX12 rfl 0 2 rfl (by decide) wfX12_13 rfl dX12_word_35 ?_
      refine v_aload_n (pc := 38) C 0 rfl rfl dX12_word_38 ?_
      refine v_get (pc := 39) C cfX12 rfl 0 3 rfl (by decide) wfX12_79 rfl dX12_word_39 ?_
      refine v_iload_n (pc := 42) C 1 rfl rfl dX12_word_42 ?_
      obtain ⟨hg, hw⟩ := hw
      obtain ⟨p2, es⟩ : ∃ y : St, y = p.sA 2 (upd (p.A 2) (p.I 3).toNatClampNeg x1) := ⟨_, rfl⟩
      have hw := hw p2 es
      refine v_iast (pc := 43) C 1 (w' := (fl [bModel E a p2])) rfl rfl (by subst es; rfl) hg dX12_word_43 ?_
      refine v_aload_n (pc := 44) C 0 rfl rfl dX12_word_44 ?_
      refine v_dup (pc := 45) C rfl dX12_word_45 ?_
      refine v_get (pc := 46) C cfX12 rfl 0 3 rfl (by decide) wfX12_79 rfl dX12_word_46 ?_
      refine v_iconst (pc := 49) C 1 ki_1 dX12_word_49 ?_
      refine v_iadd (pc := 50) C dX12_word_50 ?_
      obtain ⟨p3, es⟩ : ∃ y : St, y = p2.sI 3 ((p2.I 3) + 1) := ⟨_, rfl⟩
      have hw := hw p3 es
      refine v_put (pc := 51) C cfX12 rfl 0 3 (ty := .int) (w' := (fl [bModel E a p3])) rfl (by subst es; rfl) (by decide) wfX12_79 rfl rfl rfl rfl (Nat.le_of_ble_eq_true rfl) dX12_word_51 ?_
      refine v_aload_n (pc := 54) C 0 rfl rfl dX12_word_54 ?_
      refine v_get (pc := 55) C cfX12 rfl 0 3 rfl (by decide) wfX12_79 rfl dX12_word_55 ?_
      refine v_iconst (pc := 58) C 1 ki_1 dX12_word_58 ?_
      refine v_isub (pc := 59) C dX12_word_59 ?_
      exact v_ireti (pc := 60) C p3 hA rfl hw dX12_word_60
    · have hw := hw.2 hc
      refine v_aload_n (pc := 26) C 0 rfl rfl dX12_word_26 ?_
      refine v_iconst (pc := 27) C 2 ki_2 dX12_word_27 ?_
      refine v_bipush (pc := 28) C (-4) kb_m4 dX12_word_28 ?_
      refine v_goAi (pc := 30) C (wc' := (fun (u : St) => (fl [bModel E a u]))) (fun _ => rfl) (v_runVA (pc := 30) C [.int 2, .int (-4)] [] (fun sz => ctX12_refuse l E a 2 (-4) p hw sz) mfX12_refuse mvX12_refuse wmX12_52 rfl ⟨Nat.le_of_ble_eq_true rfl, Nat.le_of_ble_eq_true rfl⟩ ⟨rfl, rfl⟩ 0 (ci := 12) (qc := (RX12, TX12, 30)) rfl rfl rfl rfl (Nat.le_of_ble_eq_true rfl) ⟨Nat.zero_le _, Nat.zero_le _⟩ dX12_word_30) (fun r4 p5 hw => ?_)
      exact v_ireti (pc := 33) C p5 hA rfl hw dX12_word_33
  · have hw := hw.2 hc
    refine v_aload_n (pc := 12) C 0 rfl rfl dX12_word_12 ?_
    refine v_goAi (pc := 13) C (wc' := (fun (u : St) => (fl [bModel E a u]))) (fun _ => rfl) (v_runVA (pc := 13) C [] [] (fun sz => ctX12_bad l E a p hw sz) mfX12_bad mvX12_bad wmX12_75 rfl ⟨Nat.le_of_ble_eq_true rfl, Nat.le_of_ble_eq_true rfl⟩ ⟨rfl, rfl⟩ 0 (ci := 12) (qc := (RX12, TX12, 30)) rfl rfl rfl rfl (Nat.le_of_ble_eq_true rfl) ⟨Nat.zero_le _, Nat.zero_le _⟩ dX12_word_13) (fun r6 p7 hw => ?_)
    exact v_ireti (pc := 16) C p7 hA rfl hw dX12_word_16
set_option maxHeartbeats 4000000 in
set_option maxRecDepth 100000 in
theorem ctX12_forget (l : Launch) (E : VE) (a : Nat → Nat)  (p : St)  {Post : Int32 → St → Prop} (hw : wpX12_forget p Post) (sz : Nat) : Met l yX12_forget (mW yX12_forget cX12_forget 2 (some .int)) rmX12_forget (CPre E [.ref (a 0)] sz (fl [bModel E a p])) (CQi E Post (fun u => (fl [bModel E a u])) (fl [bModel E a p]) sz) 0 0 (va_A (fl [bModel E a p]) sz) := by
  refine v_met (by decide) (Nat.le_of_ble_eq_true rfl) ?_
  intro pr e s m below meth c A hsz hA C
  subst hsz
  refine v_aload_n (pc := 0) C 0 rfl rfl dX12_forget_0 ?_
  refine v_get (pc := 1) C cfX12 rfl 0 3 rfl (by decide) wfX12_79 rfl dX12_forget_1 ?_
  refine v_topi (fun x1_1 ex => ?_)
  have hw := hw x1_1 ex
  refine v_istore_n (pc := 4) C [(1, .int x1_1), (0, .ref (a 0))] rfl rfl (by decide) dX12_forget_4 ?_
  refine v_aload_n (pc := 5) C 1 rfl rfl dX12_forget_5 ?_
  refine v_iconst (pc := 6) C 0 ki_0 dX12_forget_6 ?_
  obtain ⟨p2, es⟩ : ∃ y : St, y = p.sI 3 0 := ⟨_, rfl⟩
  have hw := hw p2 es
  refine v_put (pc := 7) C cfX12 rfl 0 3 (ty := .int) (w' := (fl [bModel E a p2])) rfl (by subst es; rfl) (by decide) wfX12_79 rfl rfl rfl rfl (Nat.le_of_ble_eq_true rfl) dX12_forget_7 ?_
  refine v_iload_n (pc := 10) C 0 rfl rfl dX12_forget_10 ?_
  exact v_ireti (pc := 11) C p2 hA rfl hw dX12_forget_11
set_option maxHeartbeats 4000000 in
set_option maxRecDepth 100000 in
theorem ctX12_type (l : Launch) (E : VE) (a : Nat → Nat) (x1 : Int32) (p : St)  {Post : Int32 → St → Prop} (hw : wpX12_type x1 p Post) (sz : Nat) : Met l yX12_type (mW yX12_type cX12_type 2 (some .int)) rmX12_type (CPre E [.ref (a 0), .int x1] sz (fl [bModel E a p])) (CQi E Post (fun u => (fl [bModel E a u])) (fl [bModel E a p]) sz) 0 0 (va_A (fl [bModel E a p]) sz) := by
  refine v_met (by decide) (Nat.le_of_ble_eq_true rfl) ?_
  intro pr e s m below meth c A hsz hA C
  subst hsz
  refine v_iload_n (pc := 0) C 1 rfl rfl dX12_type_0 ?_
  refine v_i2l (pc := 1) C dX12_type_1 ?_
  refine v_lconst (pc := 2) C 0 kl_0 dX12_type_2 ?_
  refine v_ldc2 (pc := 3) C 127 wlX12_112 dX12_type_3 ?_
  refine v_goBi (pc := 6) C (bs := [bModel E a p]) (cs := []) (cs' := (fun (_ : Unit) => [])) (bs' := (fun (_ : Unit) => [bModel E a p])) (w' := (fun (_ : Unit) => (fl [bModel E a p]))) [] rfl rfl (fun _ => rfl) (fun _ => rfl) (fun _ => rfl) (v_runSB (pc := 6) C [.long (x1.toInt64), .long 0, .long 127] [] (fun sz => ctX12_in l E (x1.toInt64) 0 127 hw sz) [] rfl rfl rfl mfX12_in msX12_in wmX12_56 rfl ⟨Nat.le_of_ble_eq_true rfl, Nat.le_of_ble_eq_true rfl⟩ ⟨rfl, rfl⟩ rfl (Nat.le_of_ble_eq_true rfl) ⟨Nat.zero_le _, Nat.zero_le _⟩ dX12_type_6) (fun r1 _ hw => ?_)
  refine v_if_ne (pc := 9) C 17 (by decide) dX12_type_9 (fun hc => ?_) (fun hc => ?_)
  · have hw := hw.1 hc
    refine v_aload_n (pc := 17) C 0 rfl rfl dX12_type_17 ?_
    refine v_get (pc := 18) C cfX12 rfl 0 11 rfl (by decide) wfX12_114 rfl dX12_type_18 ?_
    refine v_sipush (pc := 21) C 150 ks_150 dX12_type_21 ?_
    refine v_icmp_ne (pc := 24) C 35 (by decide) dX12_type_24 (fun hc => ?_) (fun hc => ?_)
    · have hw := hw.1 hc
      refine v_aload_n (pc := 35) C 0 rfl rfl dX12_type_35 ?_
      refine v_get (pc := 36) C cfX12 rfl 0 10 rfl (by decide) wfX12_30 rfl dX12_type_36 ?_
      refine v_aload_n (pc := 39) C 0 rfl rfl dX12_type_39 ?_
      refine v_get (pc := 40) C cfX12 rfl 0 11 rfl (by decide) wfX12_114 rfl dX12_type_40 ?_
      refine v_iload_n (pc := 43) C 1 rfl rfl dX12_type_43 ?_
      obtain ⟨hg, hw⟩ := hw
      obtain ⟨p2, es⟩ : ∃ y : St, y = p.sA 10 (upd (p.A 10) (p.I 11).toNatClampNeg x1) := ⟨_, rfl⟩
      have hw := hw p2 es
      refine v_iast (pc := 44) C 5 (w' := (fl [bModel E a p2])) rfl rfl (by subst es; rfl) hg dX12_type_44 ?_
      refine v_aload_n (pc := 45) C 0 rfl rfl dX12_type_45 ?_
      refine v_dup (pc := 46) C rfl dX12_type_46 ?_
      refine v_get (pc := 47) C cfX12 rfl 0 11 rfl (by decide) wfX12_114 rfl dX12_type_47 ?_
      refine v_iconst (pc := 50) C 1 ki_1 dX12_type_50 ?_
      refine v_iadd (pc := 51) C dX12_type_51 ?_
      obtain ⟨p3, es⟩ : ∃ y : St, y = p2.sI 11 ((p2.I 11) + 1) := ⟨_, rfl⟩
      have hw := hw p3 es
      refine v_put (pc := 52) C cfX12 rfl 0 11 (ty := .int) (w' := (fl [bModel E a p3])) rfl (by subst es; rfl) (by decide) wfX12_114 rfl rfl rfl rfl (Nat.le_of_ble_eq_true rfl) dX12_type_52 ?_
      refine v_aload_n (pc := 55) C 0 rfl rfl dX12_type_55 ?_
      refine v_get (pc := 56) C cfX12 rfl 0 11 rfl (by decide) wfX12_114 rfl dX12_type_56 ?_
      exact v_ireti (pc := 59) C p3 hA rfl hw dX12_type_59
    · have hw := hw.2 hc
      refine v_aload_n (pc := 27) C 0 rfl rfl dX12_type_27 ?_
      refine v_iconst (pc := 28) C 2 ki_2 dX12_type_28 ?_
      refine v_bipush (pc := 29) C (-4) kb_m4 dX12_type_29 ?_
      refine v_goAi (pc := 31) C (wc' := (fun (u : St) => (fl [bModel E a u]))) (fun _ => rfl) (v_runVA (pc := 31) C [.int 2, .int (-4)] [] (fun sz => ctX12_refuse l E a 2 (-4) p hw sz) mfX12_refuse mvX12_refuse wmX12_52 rfl ⟨Nat.le_of_ble_eq_true rfl, Nat.le_of_ble_eq_true rfl⟩ ⟨rfl, rfl⟩ 0 (ci := 12) (qc := (RX12, TX12, 30)) rfl rfl rfl rfl (Nat.le_of_ble_eq_true rfl) ⟨Nat.zero_le _, Nat.zero_le _⟩ dX12_type_31) (fun r4 p5 hw => ?_)
      exact v_ireti (pc := 34) C p5 hA rfl hw dX12_type_34
  · have hw := hw.2 hc
    refine v_aload_n (pc := 12) C 0 rfl rfl dX12_type_12 ?_
    refine v_goAi (pc := 13) C (wc' := (fun (u : St) => (fl [bModel E a u]))) (fun _ => rfl) (v_runVA (pc := 13) C [] [] (fun sz => ctX12_bad l E a p hw sz) mfX12_bad mvX12_bad wmX12_75 rfl ⟨Nat.le_of_ble_eq_true rfl, Nat.le_of_ble_eq_true rfl⟩ ⟨rfl, rfl⟩ 0 (ci := 12) (qc := (RX12, TX12, 30)) rfl rfl rfl rfl (Nat.le_of_ble_eq_true rfl) ⟨Nat.zero_le _, Nat.zero_le _⟩ dX12_type_13) (fun r6 p7 hw => ?_)
    exact v_ireti (pc := 16) C p7 hA rfl hw dX12_type_16
set_option maxHeartbeats 4000000 in
set_option maxRecDepth 100000 in
theorem ctX12_clear (l : Launch) (E : VE) (a : Nat → Nat)  (p : St)  {Post : Int32 → St → Prop} (hw : wpX12_clear p Post) (sz : Nat) : Met l yX12_clear (mW yX12_clear cX12_clear 2 (some .int)) rmX12_clear (CPre E [.ref (a 0)] sz (fl [bModel E a p])) (CQi E Post (fun u => (fl [bModel E a u])) (fl [bModel E a p]) sz) 0 0 (va_A (fl [bModel E a p]) sz) := by
  refine v_met (by decide) (Nat.le_of_ble_eq_true rfl) ?_
  intro pr e s m below meth c A hsz hA C
  subst hsz
  refine v_aload_n (pc := 0) C 0 rfl rfl dX12_clear_0 ?_
  refine v_get (pc := 1) C cfX12 rfl 0 11 rfl (by decide) wfX12_114 rfl dX12_clear_1 ?_
  refine v_topi (fun x1_1 ex => ?_)
  have hw := hw x1_1 ex
  refine v_istore_n (pc := 4) C [(1, .int x1_1), (0, .ref (a 0))] rfl rfl (by decide) dX12_clear_4 ?_
  refine v_aload_n (pc := 5) C 1 rfl rfl dX12_clear_5 ?_
  refine v_iconst (pc := 6) C 0 ki_0 dX12_clear_6 ?_
  obtain ⟨p2, es⟩ : ∃ y : St, y = p.sI 11 0 := ⟨_, rfl⟩
  have hw := hw p2 es
  refine v_put (pc := 7) C cfX12 rfl 0 11 (ty := .int) (w' := (fl [bModel E a p2])) rfl (by subst es; rfl) (by decide) wfX12_114 rfl rfl rfl rfl (Nat.le_of_ble_eq_true rfl) dX12_clear_7 ?_
  refine v_iload_n (pc := 10) C 0 rfl rfl dX12_clear_10 ?_
  exact v_ireti (pc := 11) C p2 hA rfl hw dX12_clear_11
set_option maxHeartbeats 4000000 in
set_option maxRecDepth 100000 in
theorem ctX12_byteAt (l : Launch) (E : VE) (a : Nat → Nat) (x1 : Int32) (p : St)  {Post : Int32 → Prop} (hw : wpX12_byteAt x1 p Post) (sz : Nat) : Met l yX12_byteAt (mW yX12_byteAt cX12_byteAt 2 (some .int)) rmX12_byteAt (CPre E [.ref (a 0), .int x1] sz (fl [bModel E a p])) (CQi E (fun (z : Int32) (_ : Unit) => Post z) (fun _ => (fl [bModel E a p])) (fl [bModel E a p]) sz) 0 0 (va_A (fl [bModel E a p]) sz) := by
  refine v_met (by decide) (Nat.le_of_ble_eq_true rfl) ?_
  intro pr e s m below meth c A hsz hA C
  subst hsz
  refine v_iload_n (pc := 0) C 1 rfl rfl dX12_byteAt_0 ?_
  refine v_aload_n (pc := 1) C 0 rfl rfl dX12_byteAt_1 ?_
  refine v_get (pc := 2) C cfX12 rfl 0 11 rfl (by decide) wfX12_114 rfl dX12_byteAt_2 ?_
  refine v_icmp_ge (pc := 5) C 17 (by decide) dX12_byteAt_5 (fun hc => ?_) (fun hc => ?_)
  · have hw := hw.1 hc
    refine v_iconst (pc := 17) C 0 ki_0 dX12_byteAt_17 ?_
    exact v_ireti (pc := 18) C () hA rfl hw dX12_byteAt_18
  · have hw := hw.2 hc
    refine v_aload_n (pc := 8) C 0 rfl rfl dX12_byteAt_8 ?_
    refine v_get (pc := 9) C cfX12 rfl 0 10 rfl (by decide) wfX12_30 rfl dX12_byteAt_9 ?_
    refine v_iload_n (pc := 12) C 1 rfl rfl dX12_byteAt_12 ?_
    obtain ⟨hg, hw⟩ := hw
    refine v_iald (pc := 13) C 5 rfl hg rfl dX12_byteAt_13 ?_
    refine v_goto (pc := 14) C 18 (by decide) dX12_byteAt_14 ?_
    exact v_ireti (pc := 18) C () hA rfl hw dX12_byteAt_18
set_option maxHeartbeats 4000000 in
set_option maxRecDepth 100000 in
theorem vjX12_isWord_118 (C : VC pr s m args meth c E A cX12_isWord 9 (some .boolean) RX12) (hA : va_A w0 s.heap.size = A) (a : Nat → Nat) (p : St) {Post : Int32 → Prop} (x5 : Int32) (x6 : Int32) (x7 : Int32) (z0 : Int32) (hw : wjX12_isWord_118 p Post x5 x6 x7 z0) : V pr l e rmX12_isWord s m args below meth c E A 9 0 0 (MQ below (CQi E (fun (z : Int32) (_ : Unit) => Post z) (fun _ => (fl [bModel E a p])) w0 s.heap.size) args s 0 0 A) (fl [bModel E a p]) 118 [(0, .ref (a 0)), (5, .int x5), (6, .int x6), (7, .int x7)] [.int z0] := by
  refine v_istore (pc := 118) C [(8, .int z0), (0, .ref (a 0)), (5, .int x5), (6, .int x6), (7, .int x7)] rfl (by decide) dX12_isWord_118 ?_
  refine v_iload (pc := 120) C 0 rfl dX12_isWord_120 ?_
  refine v_if_eq (pc := 122) C 168 (by decide) dX12_isWord_122 (fun hc => ?_) (fun hc => ?_)
  · have hw := hw.1 hc
    refine v_iconst (pc := 168) C 0 ki_0 dX12_isWord_168 ?_
    exact v_iretz (pc := 169) C rfl () hA rfl hw dX12_isWord_169
  · have hw := hw.2 hc
    refine v_iload (pc := 125) C 4 rfl dX12_isWord_125 ?_
    refine v_bipush (pc := 127) C 6 kb_6 dX12_isWord_127 ?_
    refine v_icmp_lt (pc := 129) C 164 (by decide) dX12_isWord_129 (fun hc => ?_) (fun hc => ?_)
    · have hw := hw.1 hc
      refine v_iconst (pc := 164) C 1 ki_1 dX12_isWord_164 ?_
      refine v_goto (pc := 165) C 169 (by decide) dX12_isWord_165 ?_
      exact v_iretz (pc := 169) C rfl () hA rfl hw dX12_isWord_169
    · have hw := hw.2 hc
      refine v_aload_n (pc := 132) C 1 rfl rfl dX12_isWord_132 ?_
      refine v_get (pc := 133) C cfX12 rfl 0 10 rfl (by decide) wfX12_30 rfl dX12_isWord_133 ?_
      refine v_aload_n (pc := 136) C 1 rfl rfl dX12_isWord_136 ?_
      refine v_get (pc := 137) C cfX12 rfl 0 15 rfl (by decide) wfX12_120 rfl dX12_isWord_137 ?_
      refine v_iconst (pc := 140) C 4 ki_4 dX12_isWord_140 ?_
      refine v_iadd (pc := 141) C dX12_isWord_141 ?_
      obtain ⟨hg, hw⟩ := hw
      refine v_iald (pc := 142) C 5 rfl hg rfl dX12_isWord_142 ?_
      refine v_iload (pc := 143) C 2 rfl dX12_isWord_143 ?_
      refine v_icmp_ne (pc := 145) C 168 (by decide) dX12_isWord_145 (fun hc => ?_) (fun hc => ?_)
      · have hw := hw.1 hc
        refine v_iconst (pc := 168) C 0 ki_0 dX12_isWord_168 ?_
        exact v_iretz (pc := 169) C rfl () hA rfl hw dX12_isWord_169
      · have hw := hw.2 hc
        refine v_aload_n (pc := 148) C 1 rfl rfl dX12_isWord_148 ?_
        refine v_get (pc := 149) C cfX12 rfl 0 10 rfl (by decide) wfX12_30 rfl dX12_isWord_149 ?_
        refine v_aload_n (pc := 152) C 1 rfl rfl dX12_isWord_152 ?_
        refine v_get (pc := 153) C cfX12 rfl 0 15 rfl (by decide) wfX12_120 rfl dX12_isWord_153 ?_
        refine v_iconst (pc := 156) C 5 ki_5 dX12_isWord_156 ?_
        refine v_iadd (pc := 157) C dX12_isWord_157 ?_
        obtain ⟨hg, hw⟩ := hw
        refine v_iald (pc := 158) C 5 rfl hg rfl dX12_isWord_158 ?_
        refine v_iload (pc := 159) C 3 rfl dX12_isWord_159 ?_
        refine v_icmp_ne (pc := 161) C 168 (by decide) dX12_isWord_161 (fun hc => ?_) (fun hc => ?_)
        · have hw := hw.1 hc
          refine v_iconst (pc := 168) C 0 ki_0 dX12_isWord_168 ?_
          exact v_iretz (pc := 169) C rfl () hA rfl hw dX12_isWord_169
        · have hw := hw.2 hc
          refine v_iconst (pc := 164) C 1 ki_1 dX12_isWord_164 ?_
          refine v_goto (pc := 165) C 169 (by decide) dX12_isWord_165 ?_
          exact v_iretz (pc := 169) C rfl () hA rfl hw dX12_isWord_169
set_option maxHeartbeats 4000000 in
set_option maxRecDepth 100000 in
theorem vjX12_isWord_84 (C : VC pr s m args meth c E A cX12_isWord 9 (some .boolean) RX12) (hA : va_A w0 s.heap.size = A) (a : Nat → Nat) (p : St) {Post : Int32 → Prop} (x4 : Int32) (x5 : Int32) (x6 : Int32) (x7 : Int32) (z0 : Int32) (hw : wjX12_isWord_84 p Post x4 x5 x6 x7 z0) : V pr l e rmX12_isWord s m args below meth c E A 9 0 0 (MQ below (CQi E (fun (z : Int32) (_ : Unit) => Post z) (fun _ => (fl [bModel E a p])) w0 s.heap.size) args s 0 0 A) (fl [bModel E a p]) 84 [(0, .ref (a 0)), (4, .int x4), (5, .int x5), (6, .int x6), (7, .int x7)] [.int z0] := by
  refine v_istore (pc := 84) C [(8, .int z0), (0, .ref (a 0)), (4, .int x4), (5, .int x5), (6, .int x6), (7, .int x7)] rfl (by decide) dX12_isWord_84 ?_
  refine v_iload (pc := 86) C 0 rfl dX12_isWord_86 ?_
  refine v_if_eq (pc := 88) C 117 (by decide) dX12_isWord_88 (fun hc => ?_) (fun hc => ?_)
  · have hw := hw.1 hc
    refine v_iconst (pc := 117) C 0 ki_0 dX12_isWord_117 ?_
    refine v_sub (lv' := [(0, .ref (a 0)), (5, .int x5), (6, .int x6), (7, .int x7)]) [1, 3, 4, 5] rfl ?_
    exact vjX12_isWord_118 C hA a p x5 x6 x7 0 hw
  · have hw := hw.2 hc
    refine v_iload (pc := 91) C 5 rfl dX12_isWord_91 ?_
    refine v_iconst (pc := 93) C 4 ki_4 dX12_isWord_93 ?_
    refine v_icmp_lt (pc := 94) C 113 (by decide) dX12_isWord_94 (fun hc => ?_) (fun hc => ?_)
    · have hw := hw.1 hc
      refine v_iconst (pc := 113) C 1 ki_1 dX12_isWord_113 ?_
      refine v_goto (pc := 114) C 118 (by decide) dX12_isWord_114 ?_
      refine v_sub (lv' := [(0, .ref (a 0)), (5, .int x5), (6, .int x6), (7, .int x7)]) [1, 3, 4, 5] rfl ?_
      exact vjX12_isWord_118 C hA a p x5 x6 x7 1 hw
    · have hw := hw.2 hc
      refine v_aload_n (pc := 97) C 1 rfl rfl dX12_isWord_97 ?_
      refine v_get (pc := 98) C cfX12 rfl 0 10 rfl (by decide) wfX12_30 rfl dX12_isWord_98 ?_
      refine v_aload_n (pc := 101) C 1 rfl rfl dX12_isWord_101 ?_
      refine v_get (pc := 102) C cfX12 rfl 0 15 rfl (by decide) wfX12_120 rfl dX12_isWord_102 ?_
      refine v_iconst (pc := 105) C 3 ki_3 dX12_isWord_105 ?_
      refine v_iadd (pc := 106) C dX12_isWord_106 ?_
      obtain ⟨hg, hw⟩ := hw
      refine v_iald (pc := 107) C 5 rfl hg rfl dX12_isWord_107 ?_
      refine v_iload (pc := 108) C 2 rfl dX12_isWord_108 ?_
      refine v_icmp_ne (pc := 110) C 117 (by decide) dX12_isWord_110 (fun hc => ?_) (fun hc => ?_)
      · have hw := hw.1 hc
        refine v_iconst (pc := 117) C 0 ki_0 dX12_isWord_117 ?_
        refine v_sub (lv' := [(0, .ref (a 0)), (5, .int x5), (6, .int x6), (7, .int x7)]) [1, 3, 4, 5] rfl ?_
        exact vjX12_isWord_118 C hA a p x5 x6 x7 0 hw
      · have hw := hw.2 hc
        refine v_iconst (pc := 113) C 1 ki_1 dX12_isWord_113 ?_
        refine v_goto (pc := 114) C 118 (by decide) dX12_isWord_114 ?_
        refine v_sub (lv' := [(0, .ref (a 0)), (5, .int x5), (6, .int x6), (7, .int x7)]) [1, 3, 4, 5] rfl ?_
        exact vjX12_isWord_118 C hA a p x5 x6 x7 1 hw
set_option maxHeartbeats 4000000 in
set_option maxRecDepth 100000 in
theorem vjX12_isWord_20 (C : VC pr s m args meth c E A cX12_isWord 9 (some .boolean) RX12) (hA : va_A w0 s.heap.size = A) (a : Nat → Nat) (p : St) {Post : Int32 → Prop} (x1 : Int32) (x2 : Int32) (x3 : Int32) (x4 : Int32) (x5 : Int32) (x6 : Int32) (z0 : Int32) (hw : wjX12_isWord_20 p Post x1 x2 x3 x4 x5 x6 z0) : V pr l e rmX12_isWord s m args below meth c E A 9 0 0 (MQ below (CQi E (fun (z : Int32) (_ : Unit) => Post z) (fun _ => (fl [bModel E a p])) w0 s.heap.size) args s 0 0 A) (fl [bModel E a p]) 20 [(0, .ref (a 0)), (1, .int x1), (2, .int x2), (3, .int x3), (4, .int x4), (5, .int x5), (6, .int x6)] [.int z0] := by
  refine v_istore (pc := 20) C [(7, .int z0), (0, .ref (a 0)), (1, .int x1), (2, .int x2), (3, .int x3), (4, .int x4), (5, .int x5), (6, .int x6)] rfl (by decide) dX12_isWord_20 ?_
  refine v_aload_n (pc := 22) C 1 rfl rfl dX12_isWord_22 ?_
  refine v_get (pc := 23) C cfX12 rfl 0 12 rfl (by decide) wfX12_117 rfl dX12_isWord_23 ?_
  refine v_aload_n (pc := 26) C 1 rfl rfl dX12_isWord_26 ?_
  refine v_get (pc := 27) C cfX12 rfl 0 15 rfl (by decide) wfX12_120 rfl dX12_isWord_27 ?_
  refine v_isub (pc := 30) C dX12_isWord_30 ?_
  refine v_iload (pc := 31) C 0 rfl dX12_isWord_31 ?_
  refine v_icmp_ne (pc := 33) C 83 (by decide) dX12_isWord_33 (fun hc => ?_) (fun hc => ?_)
  · have hw := hw.1 hc
    refine v_iconst (pc := 83) C 0 ki_0 dX12_isWord_83 ?_
    refine v_sub (lv' := [(0, .ref (a 0)), (4, .int x4), (5, .int x5), (6, .int x6), (7, .int z0)]) [1, 5, 6, 7, 0] rfl ?_
    exact vjX12_isWord_84 C hA a p x4 x5 x6 z0 0 hw
  · have hw := hw.2 hc
    refine v_aload_n (pc := 36) C 1 rfl rfl dX12_isWord_36 ?_
    refine v_get (pc := 37) C cfX12 rfl 0 10 rfl (by decide) wfX12_30 rfl dX12_isWord_37 ?_
    refine v_aload_n (pc := 40) C 1 rfl rfl dX12_isWord_40 ?_
    refine v_get (pc := 41) C cfX12 rfl 0 15 rfl (by decide) wfX12_120 rfl dX12_isWord_41 ?_
    obtain ⟨hg, hw⟩ := hw
    refine v_iald (pc := 44) C 5 rfl hg rfl dX12_isWord_44 ?_
    refine v_iload_n (pc := 45) C 2 rfl rfl dX12_isWord_45 ?_
    refine v_icmp_ne (pc := 46) C 83 (by decide) dX12_isWord_46 (fun hc => ?_) (fun hc => ?_)
    · have hw := hw.1 hc
      refine v_iconst (pc := 83) C 0 ki_0 dX12_isWord_83 ?_
      refine v_sub (lv' := [(0, .ref (a 0)), (4, .int x4), (5, .int x5), (6, .int x6), (7, .int z0)]) [1, 5, 6, 7, 0] rfl ?_
      exact vjX12_isWord_84 C hA a p x4 x5 x6 z0 0 hw
    · have hw := hw.2 hc
      refine v_aload_n (pc := 49) C 1 rfl rfl dX12_isWord_49 ?_
      refine v_get (pc := 50) C cfX12 rfl 0 10 rfl (by decide) wfX12_30 rfl dX12_isWord_50 ?_
      refine v_aload_n (pc := 53) C 1 rfl rfl dX12_isWord_53 ?_
      refine v_get (pc := 54) C cfX12 rfl 0 15 rfl (by decide) wfX12_120 rfl dX12_isWord_54 ?_
      refine v_iconst (pc := 57) C 1 ki_1 dX12_isWord_57 ?_
      refine v_iadd (pc := 58) C dX12_isWord_58 ?_
      obtain ⟨hg, hw⟩ := hw
      refine v_iald (pc := 59) C 5 rfl hg rfl dX12_isWord_59 ?_
      refine v_iload_n (pc := 60) C 3 rfl rfl dX12_isWord_60 ?_
      refine v_icmp_ne (pc := 61) C 83 (by decide) dX12_isWord_61 (fun hc => ?_) (fun hc => ?_)
      · have hw := hw.1 hc
        refine v_iconst (pc := 83) C 0 ki_0 dX12_isWord_83 ?_
        refine v_sub (lv' := [(0, .ref (a 0)), (4, .int x4), (5, .int x5), (6, .int x6), (7, .int z0)]) [1, 5, 6, 7, 0] rfl ?_
        exact vjX12_isWord_84 C hA a p x4 x5 x6 z0 0 hw
      · have hw := hw.2 hc
        refine v_aload_n (pc := 64) C 1 rfl rfl dX12_isWord_64 ?_
        refine v_get (pc := 65) C cfX12 rfl 0 10 rfl (by decide) wfX12_30 rfl dX12_isWord_65 ?_
        refine v_aload_n (pc := 68) C 1 rfl rfl dX12_isWord_68 ?_
        refine v_get (pc := 69) C cfX12 rfl 0 15 rfl (by decide) wfX12_120 rfl dX12_isWord_69 ?_
        refine v_iconst (pc := 72) C 2 ki_2 dX12_isWord_72 ?_
        refine v_iadd (pc := 73) C dX12_isWord_73 ?_
        obtain ⟨hg, hw⟩ := hw
        refine v_iald (pc := 74) C 5 rfl hg rfl dX12_isWord_74 ?_
        refine v_iload_n (pc := 75) C 4 rfl rfl dX12_isWord_75 ?_
        refine v_icmp_ne (pc := 76) C 83 (by decide) dX12_isWord_76 (fun hc => ?_) (fun hc => ?_)
        · have hw := hw.1 hc
          refine v_iconst (pc := 83) C 0 ki_0 dX12_isWord_83 ?_
          refine v_sub (lv' := [(0, .ref (a 0)), (4, .int x4), (5, .int x5), (6, .int x6), (7, .int z0)]) [1, 5, 6, 7, 0] rfl ?_
          exact vjX12_isWord_84 C hA a p x4 x5 x6 z0 0 hw
        · have hw := hw.2 hc
          refine v_iconst (pc := 79) C 1 ki_1 dX12_isWord_79 ?_
          refine v_goto (pc := 80) C 84 (by decide) dX12_isWord_80 ?_
          refine v_sub (lv' := [(0, .ref (a 0)), (4, .int x4), (5, .int x5), (6, .int x6), (7, .int z0)]) [1, 5, 6, 7, 0] rfl ?_
          exact vjX12_isWord_84 C hA a p x4 x5 x6 z0 1 hw
set_option maxHeartbeats 4000000 in
set_option maxRecDepth 100000 in
theorem ctX12_isWord (l : Launch) (E : VE) (a : Nat → Nat) (x1 : Int32) (x2 : Int32) (x3 : Int32) (x4 : Int32) (x5 : Int32) (x6 : Int32) (p : St)  {Post : Int32 → Prop} (hw : wpX12_isWord x1 x2 x3 x4 x5 x6 p Post) (sz : Nat) : Met l yX12_isWord (mW yX12_isWord cX12_isWord 9 (some .boolean)) rmX12_isWord (CPre E [.ref (a 0), .int x1, .int x2, .int x3, .int x4, .int x5, .int x6] sz (fl [bModel E a p])) (CQi E (fun (z : Int32) (_ : Unit) => Post z) (fun _ => (fl [bModel E a p])) (fl [bModel E a p]) sz) 0 0 (va_A (fl [bModel E a p]) sz) := by
  refine v_met (by decide) (Nat.le_of_ble_eq_true rfl) ?_
  intro pr e s m below meth c A hsz hA C
  subst hsz
  refine v_iload (pc := 0) C 4 rfl dX12_isWord_0 ?_
  refine v_if_ne (pc := 2) C 9 (by decide) dX12_isWord_2 (fun hc => ?_) (fun hc => ?_)
  · have hw := hw.1 hc
    refine v_iload (pc := 9) C 5 rfl dX12_isWord_9 ?_
    refine v_if_ne (pc := 11) C 18 (by decide) dX12_isWord_11 (fun hc => ?_) (fun hc => ?_)
    · have hw := hw.1 hc
      refine v_bipush (pc := 18) C 6 kb_6 dX12_isWord_18 ?_
      refine v_sub (lv' := [(0, .ref (a 0)), (1, .int x1), (2, .int x2), (3, .int x3), (4, .int x4), (5, .int x5), (6, .int x6)]) [0, 1, 2, 3, 4, 5, 6] rfl ?_
      exact vjX12_isWord_20 C hA a p x1 x2 x3 x4 x5 x6 6 hw
    · have hw := hw.2 hc
      refine v_iconst (pc := 14) C 4 ki_4 dX12_isWord_14 ?_
      refine v_goto (pc := 15) C 20 (by decide) dX12_isWord_15 ?_
      refine v_sub (lv' := [(0, .ref (a 0)), (1, .int x1), (2, .int x2), (3, .int x3), (4, .int x4), (5, .int x5), (6, .int x6)]) [0, 1, 2, 3, 4, 5, 6] rfl ?_
      exact vjX12_isWord_20 C hA a p x1 x2 x3 x4 x5 x6 4 hw
  · have hw := hw.2 hc
    refine v_iconst (pc := 5) C 3 ki_3 dX12_isWord_5 ?_
    refine v_goto (pc := 6) C 20 (by decide) dX12_isWord_6 ?_
    refine v_sub (lv' := [(0, .ref (a 0)), (1, .int x1), (2, .int x2), (3, .int x3), (4, .int x4), (5, .int x5), (6, .int x6)]) [0, 1, 2, 3, 4, 5, 6] rfl ?_
    exact vjX12_isWord_20 C hA a p x1 x2 x3 x4 x5 x6 3 hw
set_option maxHeartbeats 4000000 in
set_option maxRecDepth 100000 in
theorem vlX12_nextToken_0 (C : VC pr s m args meth c E A cX12_nextToken 1 none RX12) (hA : va_A w0 s.heap.size = A) (a : Nat → Nat)  {Post : St → Prop} {KX : St → Prop} (hX : ∀ (p : St), KX p → V pr l e rmX12_nextToken s m args below meth c E A 1 0 0 (MQ below (CQv E Post (fun u => (fl [bModel E a u])) w0 s.heap.size) args s 0 0 A) (fl [bModel E a p]) 26 [(0, .ref (a 0))] []) : ∀ (n : Nat) (p : St), wLX12_nextToken_0  Post KX n p → V pr l e rmX12_nextToken s m args below meth c E A 1 0 0 (MQ below (CQv E Post (fun u => (fl [bModel E a u])) w0 s.heap.size) args s 0 0 A) (fl [bModel E a p]) 0 [(0, .ref (a 0))] [] := by
  intro n
  induction n with
  | zero => intro p hw; exact absurd hw id
  | succ n hself =>
    intro p hw
    have hw : wlX12_nextToken_0  Post KX (wLX12_nextToken_0  Post KX n) p := hw
    refine v_aload_n (pc := 0) C 0 rfl rfl dX12_nextToken_0 ?_
    refine v_aload_n (pc := 1) C 0 rfl rfl dX12_nextToken_1 ?_
    refine v_get (pc := 2) C cfX12 rfl 0 12 rfl (by decide) wfX12_117 rfl dX12_nextToken_2 ?_
    refine v_goAi (pc := 5) C (wc' := (fun (_ : Unit) => (fl [bModel E a p]))) (fun _ => rfl) (v_runVA (pc := 5) C [.int (p.I 12)] [] (fun sz => ctX12_byteAt l E a (p.I 12) p hw sz) mfX12_byteAt mvX12_byteAt wmX12_123 rfl ⟨Nat.le_of_ble_eq_true rfl, Nat.le_of_ble_eq_true rfl⟩ ⟨rfl, rfl⟩ 0 (ci := 12) (qc := (RX12, TX12, 30)) rfl rfl rfl rfl (Nat.le_of_ble_eq_true rfl) ⟨Nat.zero_le _, Nat.zero_le _⟩ dX12_nextToken_5) (fun r1 _ hw => ?_)
    refine v_bipush (pc := 8) C 32 kb_32 dX12_nextToken_8 ?_
    refine v_icmp_ne (pc := 10) C 26 (by decide) dX12_nextToken_10 (fun hc => ?_) (fun hc => ?_)
    · have hw := hw.1 hc
      refine v_sub (lv' := [(0, .ref (a 0))]) [0] rfl ?_
      exact hX p hw
    · have hw := hw.2 hc
      refine v_aload_n (pc := 13) C 0 rfl rfl dX12_nextToken_13 ?_
      refine v_dup (pc := 14) C rfl dX12_nextToken_14 ?_
      refine v_get (pc := 15) C cfX12 rfl 0 12 rfl (by decide) wfX12_117 rfl dX12_nextToken_15 ?_
      refine v_iconst (pc := 18) C 1 ki_1 dX12_nextToken_18 ?_
      refine v_iadd (pc := 19) C dX12_nextToken_19 ?_
      obtain ⟨p2, es⟩ : ∃ y : St, y = p.sI 12 ((p.I 12) + 1) := ⟨_, rfl⟩
      have hw := hw p2 es
      refine v_put (pc := 20) C cfX12 rfl 0 12 (ty := .int) (w' := (fl [bModel E a p2])) rfl (by subst es; rfl) (by decide) wfX12_117 rfl rfl rfl rfl (Nat.le_of_ble_eq_true rfl) dX12_nextToken_20 ?_
      refine v_goto (pc := 23) C 0 (by decide) dX12_nextToken_23 ?_
      refine v_sub (lv' := [(0, .ref (a 0))]) [0] rfl ?_
      exact hself p2 hw
set_option maxHeartbeats 4000000 in
set_option maxRecDepth 100000 in
theorem vjX12_nextToken_355 (C : VC pr s m args meth c E A cX12_nextToken 1 none RX12) (hA : va_A w0 s.heap.size = A) (a : Nat → Nat)  {Post : St → Prop} (z0 : Int32) (p : St) (hw : wjX12_nextToken_355  Post z0 p) : V pr l e rmX12_nextToken s m args below meth c E A 1 0 0 (MQ below (CQv E Post (fun u => (fl [bModel E a u])) w0 s.heap.size) args s 0 0 A) (fl [bModel E a p]) 355 [(0, .ref (a 0))] [.int z0, .ref (a 0)] := by
  obtain ⟨p12, es⟩ : ∃ y : St, y = p.sI 13 z0 := ⟨_, rfl⟩
  have hw := hw p12 es
  refine v_put (pc := 355) C cfX12 rfl 0 13 (ty := .int) (w' := (fl [bModel E a p12])) rfl (by subst es; rfl) (by decide) wfX12_127 rfl rfl rfl rfl (Nat.le_of_ble_eq_true rfl) dX12_nextToken_355 ?_
  refine v_aload_n (pc := 358) C 0 rfl rfl dX12_nextToken_358 ?_
  refine v_dup (pc := 359) C rfl dX12_nextToken_359 ?_
  refine v_get (pc := 360) C cfX12 rfl 0 12 rfl (by decide) wfX12_117 rfl dX12_nextToken_360 ?_
  refine v_iconst (pc := 363) C 1 ki_1 dX12_nextToken_363 ?_
  refine v_iadd (pc := 364) C dX12_nextToken_364 ?_
  obtain ⟨p13, es⟩ : ∃ y : St, y = p12.sI 12 ((p12.I 12) + 1) := ⟨_, rfl⟩
  have hw := hw p13 es
  refine v_put (pc := 365) C cfX12 rfl 0 12 (ty := .int) (w' := (fl [bModel E a p13])) rfl (by subst es; rfl) (by decide) wfX12_117 rfl rfl rfl rfl (Nat.le_of_ble_eq_true rfl) dX12_nextToken_365 ?_
  exact v_vret (pc := 368) C p13 hA rfl hw dX12_nextToken_368
set_option maxHeartbeats 4000000 in
set_option maxRecDepth 100000 in
theorem vjX12_nextToken_287 (C : VC pr s m args meth c E A cX12_nextToken 1 none RX12) (hA : va_A w0 s.heap.size = A) (a : Nat → Nat)  {Post : St → Prop} {self : (St) → Prop} {KX : St → Prop} (z0 : Int32) (p : St) (hw : wjX12_nextToken_287  Post self KX z0 p) (hself : ∀ (p : St), self p → V pr l e rmX12_nextToken s m args below meth c E A 1 0 0 (MQ below (CQv E Post (fun u => (fl [bModel E a u])) w0 s.heap.size) args s 0 0 A) (fl [bModel E a p]) 229 [(0, .ref (a 0))] []) (hX : ∀ (p : St), KX p → V pr l e rmX12_nextToken s m args below meth c E A 1 0 0 (MQ below (CQv E Post (fun u => (fl [bModel E a u])) w0 s.heap.size) args s 0 0 A) (fl [bModel E a p]) 303 [(0, .ref (a 0))] []) : V pr l e rmX12_nextToken s m args below meth c E A 1 0 0 (MQ below (CQv E Post (fun u => (fl [bModel E a u])) w0 s.heap.size) args s 0 0 A) (fl [bModel E a p]) 287 [(0, .ref (a 0))] [.int z0, .ref (a 0)] := by
  obtain ⟨p16, es⟩ : ∃ y : St, y = p.sI 14 z0 := ⟨_, rfl⟩
  have hw := hw p16 es
  refine v_put (pc := 287) C cfX12 rfl 0 14 (ty := .int) (w' := (fl [bModel E a p16])) rfl (by subst es; rfl) (by decide) wfX12_130 rfl rfl rfl rfl (Nat.le_of_ble_eq_true rfl) dX12_nextToken_287 ?_
  refine v_aload_n (pc := 290) C 0 rfl rfl dX12_nextToken_290 ?_
  refine v_dup (pc := 291) C rfl dX12_nextToken_291 ?_
  refine v_get (pc := 292) C cfX12 rfl 0 12 rfl (by decide) wfX12_117 rfl dX12_nextToken_292 ?_
  refine v_iconst (pc := 295) C 1 ki_1 dX12_nextToken_295 ?_
  refine v_iadd (pc := 296) C dX12_nextToken_296 ?_
  obtain ⟨p17, es⟩ : ∃ y : St, y = p16.sI 12 ((p16.I 12) + 1) := ⟨_, rfl⟩
  have hw := hw p17 es
  refine v_put (pc := 297) C cfX12 rfl 0 12 (ty := .int) (w' := (fl [bModel E a p17])) rfl (by subst es; rfl) (by decide) wfX12_117 rfl rfl rfl rfl (Nat.le_of_ble_eq_true rfl) dX12_nextToken_297 ?_
  refine v_goto (pc := 300) C 229 (by decide) dX12_nextToken_300 ?_
  refine v_sub (lv' := [(0, .ref (a 0))]) [0] rfl ?_
  exact hself p17 hw
set_option maxHeartbeats 4000000 in
set_option maxRecDepth 100000 in
theorem vlX12_nextToken_229 (C : VC pr s m args meth c E A cX12_nextToken 1 none RX12) (hA : va_A w0 s.heap.size = A) (a : Nat → Nat)  {Post : St → Prop} {KX : St → Prop} (hX : ∀ (p : St), KX p → V pr l e rmX12_nextToken s m args below meth c E A 1 0 0 (MQ below (CQv E Post (fun u => (fl [bModel E a u])) w0 s.heap.size) args s 0 0 A) (fl [bModel E a p]) 303 [(0, .ref (a 0))] []) : ∀ (n : Nat) (p : St), wLX12_nextToken_229  Post KX n p → V pr l e rmX12_nextToken s m args below meth c E A 1 0 0 (MQ below (CQv E Post (fun u => (fl [bModel E a u])) w0 s.heap.size) args s 0 0 A) (fl [bModel E a p]) 229 [(0, .ref (a 0))] [] := by
  intro n
  induction n with
  | zero => intro p hw; exact absurd hw id
  | succ n hself =>
    intro p hw
    have hw : wlX12_nextToken_229  Post KX (wLX12_nextToken_229  Post KX n) p := hw
    refine v_aload_n (pc := 229) C 0 rfl rfl dX12_nextToken_229 ?_
    refine v_aload_n (pc := 230) C 0 rfl rfl dX12_nextToken_230 ?_
    refine v_get (pc := 231) C cfX12 rfl 0 12 rfl (by decide) wfX12_117 rfl dX12_nextToken_231 ?_
    refine v_goAi (pc := 234) C (wc' := (fun (_ : Unit) => (fl [bModel E a p]))) (fun _ => rfl) (v_runVA (pc := 234) C [.int (p.I 12)] [] (fun sz => ctX12_byteAt l E a (p.I 12) p hw sz) mfX12_byteAt mvX12_byteAt wmX12_123 rfl ⟨Nat.le_of_ble_eq_true rfl, Nat.le_of_ble_eq_true rfl⟩ ⟨rfl, rfl⟩ 0 (ci := 12) (qc := (RX12, TX12, 30)) rfl rfl rfl rfl (Nat.le_of_ble_eq_true rfl) ⟨Nat.zero_le _, Nat.zero_le _⟩ dX12_nextToken_234) (fun r14 _ hw => ?_)
    refine v_i2l (pc := 237) C dX12_nextToken_237 ?_
    refine v_ldc2 (pc := 238) C 48 wlX12_141 dX12_nextToken_238 ?_
    refine v_ldc2 (pc := 241) C 57 wlX12_143 dX12_nextToken_241 ?_
    refine v_goBi (pc := 244) C (bs := [bModel E a p]) (cs := []) (cs' := (fun (_ : Unit) => [])) (bs' := (fun (_ : Unit) => [bModel E a p])) (w' := (fun (_ : Unit) => (fl [bModel E a p]))) [] rfl rfl (fun _ => rfl) (fun _ => rfl) (fun _ => rfl) (v_runSB (pc := 244) C [.long (r14.toInt64), .long 48, .long 57] [] (fun sz => ctX12_in l E (r14.toInt64) 48 57 hw sz) [] rfl rfl rfl mfX12_in msX12_in wmX12_56 rfl ⟨Nat.le_of_ble_eq_true rfl, Nat.le_of_ble_eq_true rfl⟩ ⟨rfl, rfl⟩ rfl (Nat.le_of_ble_eq_true rfl) ⟨Nat.zero_le _, Nat.zero_le _⟩ dX12_nextToken_244) (fun r15 _ hw => ?_)
    refine v_if_eq (pc := 247) C 303 (by decide) dX12_nextToken_247 (fun hc => ?_) (fun hc => ?_)
    · have hw := hw.1 hc
      refine v_sub (lv' := [(0, .ref (a 0))]) [0] rfl ?_
      exact hX p hw
    · have hw := hw.2 hc
      refine v_aload_n (pc := 250) C 0 rfl rfl dX12_nextToken_250 ?_
      refine v_aload_n (pc := 251) C 0 rfl rfl dX12_nextToken_251 ?_
      refine v_get (pc := 252) C cfX12 rfl 0 14 rfl (by decide) wfX12_130 rfl dX12_nextToken_252 ?_
      refine v_bipush (pc := 255) C 99 kb_99 dX12_nextToken_255 ?_
      refine v_icmp_le (pc := 257) C 267 (by decide) dX12_nextToken_257 (fun hc => ?_) (fun hc => ?_)
      · have hw := hw.1 hc
        refine v_bipush (pc := 267) C 10 kb_10 dX12_nextToken_267 ?_
        refine v_aload_n (pc := 269) C 0 rfl rfl dX12_nextToken_269 ?_
        refine v_get (pc := 270) C cfX12 rfl 0 14 rfl (by decide) wfX12_130 rfl dX12_nextToken_270 ?_
        refine v_imul (pc := 273) C dX12_nextToken_273 ?_
        refine v_aload_n (pc := 274) C 0 rfl rfl dX12_nextToken_274 ?_
        refine v_get (pc := 275) C cfX12 rfl 0 10 rfl (by decide) wfX12_30 rfl dX12_nextToken_275 ?_
        refine v_aload_n (pc := 278) C 0 rfl rfl dX12_nextToken_278 ?_
        refine v_get (pc := 279) C cfX12 rfl 0 12 rfl (by decide) wfX12_117 rfl dX12_nextToken_279 ?_
        obtain ⟨hg, hw⟩ := hw
        refine v_iald (pc := 282) C 5 rfl hg rfl dX12_nextToken_282 ?_
        refine v_iadd (pc := 283) C dX12_nextToken_283 ?_
        refine v_bipush (pc := 284) C 48 kb_48 dX12_nextToken_284 ?_
        refine v_isub (pc := 286) C dX12_nextToken_286 ?_
        refine v_sub (lv' := [(0, .ref (a 0))]) [0] rfl ?_
        exact vjX12_nextToken_287 C hA a  ((((10 : Int32) * (p.I 14)) + ((p.A 10) (p.I 12).toNatClampNeg)) - 48) p hw hself hX
      · have hw := hw.2 hc
        refine v_aload_n (pc := 260) C 0 rfl rfl dX12_nextToken_260 ?_
        refine v_get (pc := 261) C cfX12 rfl 0 14 rfl (by decide) wfX12_130 rfl dX12_nextToken_261 ?_
        refine v_goto (pc := 264) C 287 (by decide) dX12_nextToken_264 ?_
        refine v_sub (lv' := [(0, .ref (a 0))]) [0] rfl ?_
        exact vjX12_nextToken_287 C hA a  (p.I 14) p hw hself hX
set_option maxHeartbeats 4000000 in
set_option maxRecDepth 100000 in
theorem vjX12_nextToken_323 (C : VC pr s m args meth c E A cX12_nextToken 1 none RX12) (hA : va_A w0 s.heap.size = A) (a : Nat → Nat)  {Post : St → Prop} (z0 : Int32) (p : St) (hw : wjX12_nextToken_323  Post z0 p) : V pr l e rmX12_nextToken s m args below meth c E A 1 0 0 (MQ below (CQv E Post (fun u => (fl [bModel E a u])) w0 s.heap.size) args s 0 0 A) (fl [bModel E a p]) 323 [] [.int z0, .ref (a 0)] := by
  obtain ⟨p19, es⟩ : ∃ y : St, y = p.sI 13 z0 := ⟨_, rfl⟩
  have hw := hw p19 es
  refine v_put (pc := 323) C cfX12 rfl 0 13 (ty := .int) (w' := (fl [bModel E a p19])) rfl (by subst es; rfl) (by decide) wfX12_127 rfl rfl rfl rfl (Nat.le_of_ble_eq_true rfl) dX12_nextToken_323 ?_
  refine v_goto (pc := 326) C 368 (by decide) dX12_nextToken_326 ?_
  exact v_vret (pc := 368) C p19 hA rfl hw dX12_nextToken_368
set_option maxHeartbeats 4000000 in
set_option maxRecDepth 100000 in
theorem vlX12_nextToken_81 (C : VC pr s m args meth c E A cX12_nextToken 1 none RX12) (hA : va_A w0 s.heap.size = A) (a : Nat → Nat)  {Post : St → Prop} {KX : St → Prop} (hX : ∀ (p : St), KX p → V pr l e rmX12_nextToken s m args below meth c E A 1 0 0 (MQ below (CQv E Post (fun u => (fl [bModel E a u])) w0 s.heap.size) args s 0 0 A) (fl [bModel E a p]) 115 [(0, .ref (a 0))] []) : ∀ (n : Nat) (p : St), wLX12_nextToken_81  Post KX n p → V pr l e rmX12_nextToken s m args below meth c E A 1 0 0 (MQ below (CQv E Post (fun u => (fl [bModel E a u])) w0 s.heap.size) args s 0 0 A) (fl [bModel E a p]) 81 [(0, .ref (a 0))] [] := by
  intro n
  induction n with
  | zero => intro p hw; exact absurd hw id
  | succ n hself =>
    intro p hw
    have hw : wlX12_nextToken_81  Post KX (wLX12_nextToken_81  Post KX n) p := hw
    refine v_aload_n (pc := 81) C 0 rfl rfl dX12_nextToken_81 ?_
    refine v_aload_n (pc := 82) C 0 rfl rfl dX12_nextToken_82 ?_
    refine v_get (pc := 83) C cfX12 rfl 0 12 rfl (by decide) wfX12_117 rfl dX12_nextToken_83 ?_
    refine v_goAi (pc := 86) C (wc' := (fun (_ : Unit) => (fl [bModel E a p]))) (fun _ => rfl) (v_runVA (pc := 86) C [.int (p.I 12)] [] (fun sz => ctX12_byteAt l E a (p.I 12) p hw sz) mfX12_byteAt mvX12_byteAt wmX12_123 rfl ⟨Nat.le_of_ble_eq_true rfl, Nat.le_of_ble_eq_true rfl⟩ ⟨rfl, rfl⟩ 0 (ci := 12) (qc := (RX12, TX12, 30)) rfl rfl rfl rfl (Nat.le_of_ble_eq_true rfl) ⟨Nat.zero_le _, Nat.zero_le _⟩ dX12_nextToken_86) (fun r20 _ hw => ?_)
    refine v_i2l (pc := 89) C dX12_nextToken_89 ?_
    refine v_ldc2 (pc := 90) C 97 wlX12_133 dX12_nextToken_90 ?_
    refine v_ldc2 (pc := 93) C 122 wlX12_135 dX12_nextToken_93 ?_
    refine v_goBi (pc := 96) C (bs := [bModel E a p]) (cs := []) (cs' := (fun (_ : Unit) => [])) (bs' := (fun (_ : Unit) => [bModel E a p])) (w' := (fun (_ : Unit) => (fl [bModel E a p]))) [] rfl rfl (fun _ => rfl) (fun _ => rfl) (fun _ => rfl) (v_runSB (pc := 96) C [.long (r20.toInt64), .long 97, .long 122] [] (fun sz => ctX12_in l E (r20.toInt64) 97 122 hw sz) [] rfl rfl rfl mfX12_in msX12_in wmX12_56 rfl ⟨Nat.le_of_ble_eq_true rfl, Nat.le_of_ble_eq_true rfl⟩ ⟨rfl, rfl⟩ rfl (Nat.le_of_ble_eq_true rfl) ⟨Nat.zero_le _, Nat.zero_le _⟩ dX12_nextToken_96) (fun r21 _ hw => ?_)
    refine v_if_eq (pc := 99) C 115 (by decide) dX12_nextToken_99 (fun hc => ?_) (fun hc => ?_)
    · have hw := hw.1 hc
      refine v_sub (lv' := [(0, .ref (a 0))]) [0] rfl ?_
      exact hX p hw
    · have hw := hw.2 hc
      refine v_aload_n (pc := 102) C 0 rfl rfl dX12_nextToken_102 ?_
      refine v_dup (pc := 103) C rfl dX12_nextToken_103 ?_
      refine v_get (pc := 104) C cfX12 rfl 0 12 rfl (by decide) wfX12_117 rfl dX12_nextToken_104 ?_
      refine v_iconst (pc := 107) C 1 ki_1 dX12_nextToken_107 ?_
      refine v_iadd (pc := 108) C dX12_nextToken_108 ?_
      obtain ⟨p22, es⟩ : ∃ y : St, y = p.sI 12 ((p.I 12) + 1) := ⟨_, rfl⟩
      have hw := hw p22 es
      refine v_put (pc := 109) C cfX12 rfl 0 12 (ty := .int) (w' := (fl [bModel E a p22])) rfl (by subst es; rfl) (by decide) wfX12_117 rfl rfl rfl rfl (Nat.le_of_ble_eq_true rfl) dX12_nextToken_109 ?_
      refine v_goto (pc := 112) C 81 (by decide) dX12_nextToken_112 ?_
      refine v_sub (lv' := [(0, .ref (a 0))]) [0] rfl ?_
      exact hself p22 hw
set_option maxHeartbeats 4000000 in
set_option maxRecDepth 100000 in
theorem vjX12_nextToken_202 (C : VC pr s m args meth c E A cX12_nextToken 1 none RX12) (hA : va_A w0 s.heap.size = A) (a : Nat → Nat)  {Post : St → Prop} (z0 : Int32) (p : St) (hw : wjX12_nextToken_202  Post z0 p) : V pr l e rmX12_nextToken s m args below meth c E A 1 0 0 (MQ below (CQv E Post (fun u => (fl [bModel E a u])) w0 s.heap.size) args s 0 0 A) (fl [bModel E a p]) 202 [] [.int z0, .ref (a 0)] := by
  obtain ⟨p28, es⟩ : ∃ y : St, y = p.sI 13 z0 := ⟨_, rfl⟩
  have hw := hw p28 es
  refine v_put (pc := 202) C cfX12 rfl 0 13 (ty := .int) (w' := (fl [bModel E a p28])) rfl (by subst es; rfl) (by decide) wfX12_127 rfl rfl rfl rfl (Nat.le_of_ble_eq_true rfl) dX12_nextToken_202 ?_
  refine v_goto (pc := 205) C 368 (by decide) dX12_nextToken_205 ?_
  exact v_vret (pc := 368) C p28 hA rfl hw dX12_nextToken_368
set_option maxHeartbeats 4000000 in
set_option maxRecDepth 100000 in
theorem vjX12_nextToken_52 (C : VC pr s m args meth c E A cX12_nextToken 1 none RX12) (hA : va_A w0 s.heap.size = A) (a : Nat → Nat)  {Post : St → Prop} (z0 : Int32) (p : St) (hw : wjX12_nextToken_52  Post z0 p) : V pr l e rmX12_nextToken s m args below meth c E A 1 0 0 (MQ below (CQv E Post (fun u => (fl [bModel E a u])) w0 s.heap.size) args s 0 0 A) (fl [bModel E a p]) 52 [(0, .ref (a 0))] [.int z0, .ref (a 0)] := by
  obtain ⟨p5, es⟩ : ∃ y : St, y = p.sI 13 z0 := ⟨_, rfl⟩
  have hw := hw p5 es
  refine v_put (pc := 52) C cfX12 rfl 0 13 (ty := .int) (w' := (fl [bModel E a p5])) rfl (by subst es; rfl) (by decide) wfX12_127 rfl rfl rfl rfl (Nat.le_of_ble_eq_true rfl) dX12_nextToken_52 ?_
  refine v_aload_n (pc := 55) C 0 rfl rfl dX12_nextToken_55 ?_
  refine v_iconst (pc := 56) C 0 ki_0 dX12_nextToken_56 ?_
  obtain ⟨p6, es⟩ : ∃ y : St, y = p5.sI 14 0 := ⟨_, rfl⟩
  have hw := hw p6 es
  refine v_put (pc := 57) C cfX12 rfl 0 14 (ty := .int) (w' := (fl [bModel E a p6])) rfl (by subst es; rfl) (by decide) wfX12_130 rfl rfl rfl rfl (Nat.le_of_ble_eq_true rfl) dX12_nextToken_57 ?_
  refine v_aload_n (pc := 60) C 0 rfl rfl dX12_nextToken_60 ?_
  refine v_aload_n (pc := 61) C 0 rfl rfl dX12_nextToken_61 ?_
  refine v_get (pc := 62) C cfX12 rfl 0 12 rfl (by decide) wfX12_117 rfl dX12_nextToken_62 ?_
  refine v_goAi (pc := 65) C (wc' := (fun (_ : Unit) => (fl [bModel E a p6]))) (fun _ => rfl) (v_runVA (pc := 65) C [.int (p6.I 12)] [] (fun sz => ctX12_byteAt l E a (p6.I 12) p6 hw sz) mfX12_byteAt mvX12_byteAt wmX12_123 rfl ⟨Nat.le_of_ble_eq_true rfl, Nat.le_of_ble_eq_true rfl⟩ ⟨rfl, rfl⟩ 0 (ci := 12) (qc := (RX12, TX12, 30)) rfl rfl rfl rfl (Nat.le_of_ble_eq_true rfl) ⟨Nat.zero_le _, Nat.zero_le _⟩ dX12_nextToken_65) (fun r7 _ hw => ?_)
  refine v_i2l (pc := 68) C dX12_nextToken_68 ?_
  refine v_ldc2 (pc := 69) C 97 wlX12_133 dX12_nextToken_69 ?_
  refine v_ldc2 (pc := 72) C 122 wlX12_135 dX12_nextToken_72 ?_
  refine v_goBi (pc := 75) C (bs := [bModel E a p6]) (cs := []) (cs' := (fun (_ : Unit) => [])) (bs' := (fun (_ : Unit) => [bModel E a p6])) (w' := (fun (_ : Unit) => (fl [bModel E a p6]))) [] rfl rfl (fun _ => rfl) (fun _ => rfl) (fun _ => rfl) (v_runSB (pc := 75) C [.long (r7.toInt64), .long 97, .long 122] [] (fun sz => ctX12_in l E (r7.toInt64) 97 122 hw sz) [] rfl rfl rfl mfX12_in msX12_in wmX12_56 rfl ⟨Nat.le_of_ble_eq_true rfl, Nat.le_of_ble_eq_true rfl⟩ ⟨rfl, rfl⟩ rfl (Nat.le_of_ble_eq_true rfl) ⟨Nat.zero_le _, Nat.zero_le _⟩ dX12_nextToken_75) (fun r8 _ hw => ?_)
  refine v_if_eq (pc := 78) C 208 (by decide) dX12_nextToken_78 (fun hc => ?_) (fun hc => ?_)
  · have hw := hw.1 hc
    refine v_aload_n (pc := 208) C 0 rfl rfl dX12_nextToken_208 ?_
    refine v_aload_n (pc := 209) C 0 rfl rfl dX12_nextToken_209 ?_
    refine v_get (pc := 210) C cfX12 rfl 0 12 rfl (by decide) wfX12_117 rfl dX12_nextToken_210 ?_
    refine v_goAi (pc := 213) C (wc' := (fun (_ : Unit) => (fl [bModel E a p6]))) (fun _ => rfl) (v_runVA (pc := 213) C [.int (p6.I 12)] [] (fun sz => ctX12_byteAt l E a (p6.I 12) p6 hw sz) mfX12_byteAt mvX12_byteAt wmX12_123 rfl ⟨Nat.le_of_ble_eq_true rfl, Nat.le_of_ble_eq_true rfl⟩ ⟨rfl, rfl⟩ 0 (ci := 12) (qc := (RX12, TX12, 30)) rfl rfl rfl rfl (Nat.le_of_ble_eq_true rfl) ⟨Nat.zero_le _, Nat.zero_le _⟩ dX12_nextToken_213) (fun r9 _ hw => ?_)
    refine v_i2l (pc := 216) C dX12_nextToken_216 ?_
    refine v_ldc2 (pc := 217) C 48 wlX12_141 dX12_nextToken_217 ?_
    refine v_ldc2 (pc := 220) C 57 wlX12_143 dX12_nextToken_220 ?_
    refine v_goBi (pc := 223) C (bs := [bModel E a p6]) (cs := []) (cs' := (fun (_ : Unit) => [])) (bs' := (fun (_ : Unit) => [bModel E a p6])) (w' := (fun (_ : Unit) => (fl [bModel E a p6]))) [] rfl rfl (fun _ => rfl) (fun _ => rfl) (fun _ => rfl) (v_runSB (pc := 223) C [.long (r9.toInt64), .long 48, .long 57] [] (fun sz => ctX12_in l E (r9.toInt64) 48 57 hw sz) [] rfl rfl rfl mfX12_in msX12_in wmX12_56 rfl ⟨Nat.le_of_ble_eq_true rfl, Nat.le_of_ble_eq_true rfl⟩ ⟨rfl, rfl⟩ rfl (Nat.le_of_ble_eq_true rfl) ⟨Nat.zero_le _, Nat.zero_le _⟩ dX12_nextToken_223) (fun r10 _ hw => ?_)
    refine v_if_eq (pc := 226) C 329 (by decide) dX12_nextToken_226 (fun hc => ?_) (fun hc => ?_)
    · have hw := hw.1 hc
      refine v_aload_n (pc := 329) C 0 rfl rfl dX12_nextToken_329 ?_
      refine v_get (pc := 330) C cfX12 rfl 0 13 rfl (by decide) wfX12_127 rfl dX12_nextToken_330 ?_
      refine v_if_ne (pc := 333) C 368 (by decide) dX12_nextToken_333 (fun hc => ?_) (fun hc => ?_)
      · have hw := hw.1 hc
        exact v_vret (pc := 368) C p6 hA rfl hw dX12_nextToken_368
      · have hw := hw.2 hc
        refine v_aload_n (pc := 336) C 0 rfl rfl dX12_nextToken_336 ?_
        refine v_aload_n (pc := 337) C 0 rfl rfl dX12_nextToken_337 ?_
        refine v_aload_n (pc := 338) C 0 rfl rfl dX12_nextToken_338 ?_
        refine v_get (pc := 339) C cfX12 rfl 0 12 rfl (by decide) wfX12_117 rfl dX12_nextToken_339 ?_
        refine v_goAi (pc := 342) C (wc' := (fun (_ : Unit) => (fl [bModel E a p6]))) (fun _ => rfl) (v_runVA (pc := 342) C [.int (p6.I 12)] [.ref (a 0)] (fun sz => ctX12_byteAt l E a (p6.I 12) p6 hw sz) mfX12_byteAt mvX12_byteAt wmX12_123 rfl ⟨Nat.le_of_ble_eq_true rfl, Nat.le_of_ble_eq_true rfl⟩ ⟨rfl, rfl⟩ 0 (ci := 12) (qc := (RX12, TX12, 30)) rfl rfl rfl rfl (Nat.le_of_ble_eq_true rfl) ⟨Nat.zero_le _, Nat.zero_le _⟩ dX12_nextToken_342) (fun r11 _ hw => ?_)
        refine v_bipush (pc := 345) C 59 kb_59 dX12_nextToken_345 ?_
        refine v_icmp_ne (pc := 347) C 354 (by decide) dX12_nextToken_347 (fun hc => ?_) (fun hc => ?_)
        · have hw := hw.1 hc
          refine v_iconst (pc := 354) C 0 ki_0 dX12_nextToken_354 ?_
          refine v_sub (lv' := [(0, .ref (a 0))]) [0] rfl ?_
          exact vjX12_nextToken_355 C hA a  0 p6 hw
        · have hw := hw.2 hc
          refine v_iconst (pc := 350) C 5 ki_5 dX12_nextToken_350 ?_
          refine v_goto (pc := 351) C 355 (by decide) dX12_nextToken_351 ?_
          refine v_sub (lv' := [(0, .ref (a 0))]) [0] rfl ?_
          exact vjX12_nextToken_355 C hA a  5 p6 hw
    · have hw := hw.2 hc
      obtain ⟨n, hw⟩ := hw
      refine v_sub (lv' := [(0, .ref (a 0))]) [0] rfl ?_
      refine vlX12_nextToken_229 C hA a  (fun p18 hw => ?_) n p6 hw
      refine v_aload_n (pc := 303) C 0 rfl rfl dX12_nextToken_303 ?_
      refine v_aload_n (pc := 304) C 0 rfl rfl dX12_nextToken_304 ?_
      refine v_get (pc := 305) C cfX12 rfl 0 12 rfl (by decide) wfX12_117 rfl dX12_nextToken_305 ?_
      refine v_aload_n (pc := 308) C 0 rfl rfl dX12_nextToken_308 ?_
      refine v_get (pc := 309) C cfX12 rfl 0 15 rfl (by decide) wfX12_120 rfl dX12_nextToken_309 ?_
      refine v_isub (pc := 312) C dX12_nextToken_312 ?_
      refine v_iconst (pc := 313) C 2 ki_2 dX12_nextToken_313 ?_
      refine v_icmp_le (pc := 314) C 321 (by decide) dX12_nextToken_314 (fun hc => ?_) (fun hc => ?_)
      · have hw := hw.1 hc
        refine v_bipush (pc := 321) C 6 kb_6 dX12_nextToken_321 ?_
        refine v_sub (lv' := []) [] rfl ?_
        exact vjX12_nextToken_323 C hA a  6 p18 hw
      · have hw := hw.2 hc
        refine v_iconst (pc := 317) C 0 ki_0 dX12_nextToken_317 ?_
        refine v_goto (pc := 318) C 323 (by decide) dX12_nextToken_318 ?_
        refine v_sub (lv' := []) [] rfl ?_
        exact vjX12_nextToken_323 C hA a  0 p18 hw
  · have hw := hw.2 hc
    obtain ⟨n, hw⟩ := hw
    refine v_sub (lv' := [(0, .ref (a 0))]) [0] rfl ?_
    refine vlX12_nextToken_81 C hA a  (fun p23 hw => ?_) n p6 hw
    refine v_aload_n (pc := 115) C 0 rfl rfl dX12_nextToken_115 ?_
    refine v_aload_n (pc := 116) C 0 rfl rfl dX12_nextToken_116 ?_
    refine v_bipush (pc := 117) C 112 kb_112 dX12_nextToken_117 ?_
    refine v_bipush (pc := 119) C 97 kb_97 dX12_nextToken_119 ?_
    refine v_bipush (pc := 121) C 100 kb_100 dX12_nextToken_121 ?_
    refine v_iconst (pc := 123) C 0 ki_0 dX12_nextToken_123 ?_
    refine v_iconst (pc := 124) C 0 ki_0 dX12_nextToken_124 ?_
    refine v_iconst (pc := 125) C 0 ki_0 dX12_nextToken_125 ?_
    refine v_goAi (pc := 126) C (wc' := (fun (_ : Unit) => (fl [bModel E a p23]))) (fun _ => rfl) (v_runVA (pc := 126) C [.int 112, .int 97, .int 100, .int 0, .int 0, .int 0] [.ref (a 0)] (fun sz => ctX12_isWord l E a 112 97 100 0 0 0 p23 hw sz) mfX12_isWord mvX12_isWord wmX12_137 rfl ⟨Nat.le_of_ble_eq_true rfl, Nat.le_of_ble_eq_true rfl⟩ ⟨rfl, rfl⟩ 0 (ci := 12) (qc := (RX12, TX12, 30)) rfl rfl rfl rfl (Nat.le_of_ble_eq_true rfl) ⟨Nat.zero_le _, Nat.zero_le _⟩ dX12_nextToken_126) (fun r24 _ hw => ?_)
    refine v_if_eq (pc := 129) C 136 (by decide) dX12_nextToken_129 (fun hc => ?_) (fun hc => ?_)
    · have hw := hw.1 hc
      refine v_aload_n (pc := 136) C 0 rfl rfl dX12_nextToken_136 ?_
      refine v_bipush (pc := 137) C 99 kb_99 dX12_nextToken_137 ?_
      refine v_bipush (pc := 139) C 97 kb_97 dX12_nextToken_139 ?_
      refine v_bipush (pc := 141) C 114 kb_114 dX12_nextToken_141 ?_
      refine v_bipush (pc := 143) C 98 kb_98 dX12_nextToken_143 ?_
      refine v_bipush (pc := 145) C 111 kb_111 dX12_nextToken_145 ?_
      refine v_bipush (pc := 147) C 110 kb_110 dX12_nextToken_147 ?_
      refine v_goAi (pc := 149) C (wc' := (fun (_ : Unit) => (fl [bModel E a p23]))) (fun _ => rfl) (v_runVA (pc := 149) C [.int 99, .int 97, .int 114, .int 98, .int 111, .int 110] [.ref (a 0)] (fun sz => ctX12_isWord l E a 99 97 114 98 111 110 p23 hw sz) mfX12_isWord mvX12_isWord wmX12_137 rfl ⟨Nat.le_of_ble_eq_true rfl, Nat.le_of_ble_eq_true rfl⟩ ⟨rfl, rfl⟩ 0 (ci := 12) (qc := (RX12, TX12, 30)) rfl rfl rfl rfl (Nat.le_of_ble_eq_true rfl) ⟨Nat.zero_le _, Nat.zero_le _⟩ dX12_nextToken_149) (fun r25 _ hw => ?_)
      refine v_if_eq (pc := 152) C 159 (by decide) dX12_nextToken_152 (fun hc => ?_) (fun hc => ?_)
      · have hw := hw.1 hc
        refine v_aload_n (pc := 159) C 0 rfl rfl dX12_nextToken_159 ?_
        refine v_bipush (pc := 160) C 110 kb_110 dX12_nextToken_160 ?_
        refine v_bipush (pc := 162) C 111 kb_111 dX12_nextToken_162 ?_
        refine v_bipush (pc := 164) C 116 kb_116 dX12_nextToken_164 ?_
        refine v_bipush (pc := 166) C 101 kb_101 dX12_nextToken_166 ?_
        refine v_iconst (pc := 168) C 0 ki_0 dX12_nextToken_168 ?_
        refine v_iconst (pc := 169) C 0 ki_0 dX12_nextToken_169 ?_
        refine v_goAi (pc := 170) C (wc' := (fun (_ : Unit) => (fl [bModel E a p23]))) (fun _ => rfl) (v_runVA (pc := 170) C [.int 110, .int 111, .int 116, .int 101, .int 0, .int 0] [.ref (a 0)] (fun sz => ctX12_isWord l E a 110 111 116 101 0 0 p23 hw sz) mfX12_isWord mvX12_isWord wmX12_137 rfl ⟨Nat.le_of_ble_eq_true rfl, Nat.le_of_ble_eq_true rfl⟩ ⟨rfl, rfl⟩ 0 (ci := 12) (qc := (RX12, TX12, 30)) rfl rfl rfl rfl (Nat.le_of_ble_eq_true rfl) ⟨Nat.zero_le _, Nat.zero_le _⟩ dX12_nextToken_170) (fun r26 _ hw => ?_)
        refine v_if_eq (pc := 173) C 180 (by decide) dX12_nextToken_173 (fun hc => ?_) (fun hc => ?_)
        · have hw := hw.1 hc
          refine v_aload_n (pc := 180) C 0 rfl rfl dX12_nextToken_180 ?_
          refine v_bipush (pc := 181) C 116 kb_116 dX12_nextToken_181 ?_
          refine v_bipush (pc := 183) C 101 kb_101 dX12_nextToken_183 ?_
          refine v_bipush (pc := 185) C 97 kb_97 dX12_nextToken_185 ?_
          refine v_bipush (pc := 187) C 114 kb_114 dX12_nextToken_187 ?_
          refine v_iconst (pc := 189) C 0 ki_0 dX12_nextToken_189 ?_
          refine v_iconst (pc := 190) C 0 ki_0 dX12_nextToken_190 ?_
          refine v_goAi (pc := 191) C (wc' := (fun (_ : Unit) => (fl [bModel E a p23]))) (fun _ => rfl) (v_runVA (pc := 191) C [.int 116, .int 101, .int 97, .int 114, .int 0, .int 0] [.ref (a 0)] (fun sz => ctX12_isWord l E a 116 101 97 114 0 0 p23 hw sz) mfX12_isWord mvX12_isWord wmX12_137 rfl ⟨Nat.le_of_ble_eq_true rfl, Nat.le_of_ble_eq_true rfl⟩ ⟨rfl, rfl⟩ 0 (ci := 12) (qc := (RX12, TX12, 30)) rfl rfl rfl rfl (Nat.le_of_ble_eq_true rfl) ⟨Nat.zero_le _, Nat.zero_le _⟩ dX12_nextToken_191) (fun r27 _ hw => ?_)
          refine v_if_eq (pc := 194) C 201 (by decide) dX12_nextToken_194 (fun hc => ?_) (fun hc => ?_)
          · have hw := hw.1 hc
            refine v_iconst (pc := 201) C 0 ki_0 dX12_nextToken_201 ?_
            refine v_sub (lv' := []) [] rfl ?_
            exact vjX12_nextToken_202 C hA a  0 p23 hw
          · have hw := hw.2 hc
            refine v_iconst (pc := 197) C 4 ki_4 dX12_nextToken_197 ?_
            refine v_goto (pc := 198) C 202 (by decide) dX12_nextToken_198 ?_
            refine v_sub (lv' := []) [] rfl ?_
            exact vjX12_nextToken_202 C hA a  4 p23 hw
        · have hw := hw.2 hc
          refine v_iconst (pc := 176) C 3 ki_3 dX12_nextToken_176 ?_
          refine v_goto (pc := 177) C 202 (by decide) dX12_nextToken_177 ?_
          refine v_sub (lv' := []) [] rfl ?_
          exact vjX12_nextToken_202 C hA a  3 p23 hw
      · have hw := hw.2 hc
        refine v_iconst (pc := 155) C 2 ki_2 dX12_nextToken_155 ?_
        refine v_goto (pc := 156) C 202 (by decide) dX12_nextToken_156 ?_
        refine v_sub (lv' := []) [] rfl ?_
        exact vjX12_nextToken_202 C hA a  2 p23 hw
    · have hw := hw.2 hc
      refine v_iconst (pc := 132) C 1 ki_1 dX12_nextToken_132 ?_
      refine v_goto (pc := 133) C 202 (by decide) dX12_nextToken_133 ?_
      refine v_sub (lv' := []) [] rfl ?_
      exact vjX12_nextToken_202 C hA a  1 p23 hw
set_option maxHeartbeats 4000000 in
set_option maxRecDepth 100000 in
theorem ctX12_nextToken (l : Launch) (E : VE) (a : Nat → Nat)  (p : St)  {Post : St → Prop} (hw : wpX12_nextToken p Post) (sz : Nat) : Met l yX12_nextToken (mW yX12_nextToken cX12_nextToken 1 none) rmX12_nextToken (CPre E [.ref (a 0)] sz (fl [bModel E a p])) (CQv E Post (fun u => (fl [bModel E a u])) (fl [bModel E a p]) sz) 0 0 (va_A (fl [bModel E a p]) sz) := by
  refine v_met (by decide) (Nat.le_of_ble_eq_true rfl) ?_
  intro pr e s m below meth c A hsz hA C
  subst hsz
  obtain ⟨n, hw⟩ := hw
  refine v_sub (lv' := [(0, .ref (a 0))]) [0] rfl ?_
  refine vlX12_nextToken_0 C hA a  (fun p3 hw => ?_) n p hw
  refine v_aload_n (pc := 26) C 0 rfl rfl dX12_nextToken_26 ?_
  refine v_aload_n (pc := 27) C 0 rfl rfl dX12_nextToken_27 ?_
  refine v_get (pc := 28) C cfX12 rfl 0 12 rfl (by decide) wfX12_117 rfl dX12_nextToken_28 ?_
  obtain ⟨p4, es⟩ : ∃ y : St, y = p3.sI 15 (p3.I 12) := ⟨_, rfl⟩
  have hw := hw p4 es
  refine v_put (pc := 31) C cfX12 rfl 0 15 (ty := .int) (w' := (fl [bModel E a p4])) rfl (by subst es; rfl) (by decide) wfX12_120 rfl rfl rfl rfl (Nat.le_of_ble_eq_true rfl) dX12_nextToken_31 ?_
  refine v_aload_n (pc := 34) C 0 rfl rfl dX12_nextToken_34 ?_
  refine v_aload_n (pc := 35) C 0 rfl rfl dX12_nextToken_35 ?_
  refine v_get (pc := 36) C cfX12 rfl 0 12 rfl (by decide) wfX12_117 rfl dX12_nextToken_36 ?_
  refine v_aload_n (pc := 39) C 0 rfl rfl dX12_nextToken_39 ?_
  refine v_get (pc := 40) C cfX12 rfl 0 11 rfl (by decide) wfX12_114 rfl dX12_nextToken_40 ?_
  refine v_icmp_ne (pc := 43) C 51 (by decide) dX12_nextToken_43 (fun hc => ?_) (fun hc => ?_)
  · have hw := hw.1 hc
    refine v_iconst (pc := 51) C 0 ki_0 dX12_nextToken_51 ?_
    refine v_sub (lv' := [(0, .ref (a 0))]) [0] rfl ?_
    exact vjX12_nextToken_52 C hA a  0 p4 hw
  · have hw := hw.2 hc
    refine v_bipush (pc := 46) C 7 kb_7 dX12_nextToken_46 ?_
    refine v_goto (pc := 48) C 52 (by decide) dX12_nextToken_48 ?_
    refine v_sub (lv' := [(0, .ref (a 0))]) [0] rfl ?_
    exact vjX12_nextToken_52 C hA a  7 p4 hw
set_option maxHeartbeats 4000000 in
set_option maxRecDepth 100000 in
theorem ctX12_number (l : Launch) (E : VE) (a : Nat → Nat) (x1 : Int32) (x2 : Int32) (p : St)  {Post : Int32 → St → Prop} (hw : wpX12_number x1 x2 p Post) (sz : Nat) : Met l yX12_number (mW yX12_number cX12_number 3 (some .boolean)) rmX12_number (CPre E [.ref (a 0), .int x1, .int x2] sz (fl [bModel E a p])) (CQi E Post (fun u => (fl [bModel E a u])) (fl [bModel E a p]) sz) 0 0 (va_A (fl [bModel E a p]) sz) := by
  refine v_met (by decide) (Nat.le_of_ble_eq_true rfl) ?_
  intro pr e s m below meth c A hsz hA C
  subst hsz
  refine v_aload_n (pc := 0) C 0 rfl rfl dX12_number_0 ?_
  refine v_goAv (pc := 1) C (wc' := (fun (u : St) => (fl [bModel E a u]))) (fun _ => rfl) (v_runVA (pc := 1) C [] [] (fun sz => ctX12_nextToken l E a p hw sz) mfX12_nextToken mvX12_nextToken wmX12_145 rfl ⟨Nat.le_of_ble_eq_true rfl, Nat.le_of_ble_eq_true rfl⟩ ⟨rfl, rfl⟩ 0 (ci := 12) (qc := (RX12, TX12, 30)) rfl rfl rfl rfl (Nat.le_of_ble_eq_true rfl) ⟨Nat.zero_le _, Nat.zero_le _⟩ dX12_number_1) (fun p1 hw => ?_)
  refine v_aload_n (pc := 4) C 0 rfl rfl dX12_number_4 ?_
  refine v_get (pc := 5) C cfX12 rfl 0 13 rfl (by decide) wfX12_127 rfl dX12_number_5 ?_
  refine v_bipush (pc := 8) C 6 kb_6 dX12_number_8 ?_
  refine v_icmp_ne (pc := 10) C 32 (by decide) dX12_number_10 (fun hc => ?_) (fun hc => ?_)
  · have hw := hw.1 hc
    refine v_iconst (pc := 32) C 0 ki_0 dX12_number_32 ?_
    exact v_iretz (pc := 33) C rfl p1 hA rfl hw dX12_number_33
  · have hw := hw.2 hc
    refine v_aload_n (pc := 13) C 0 rfl rfl dX12_number_13 ?_
    refine v_get (pc := 14) C cfX12 rfl 0 14 rfl (by decide) wfX12_130 rfl dX12_number_14 ?_
    refine v_i2l (pc := 17) C dX12_number_17 ?_
    refine v_iload_n (pc := 18) C 1 rfl rfl dX12_number_18 ?_
    refine v_i2l (pc := 19) C dX12_number_19 ?_
    refine v_iload_n (pc := 20) C 2 rfl rfl dX12_number_20 ?_
    refine v_i2l (pc := 21) C dX12_number_21 ?_
    refine v_goBi (pc := 22) C (bs := [bModel E a p1]) (cs := []) (cs' := (fun (_ : Unit) => [])) (bs' := (fun (_ : Unit) => [bModel E a p1])) (w' := (fun (_ : Unit) => (fl [bModel E a p1]))) [] rfl rfl (fun _ => rfl) (fun _ => rfl) (fun _ => rfl) (v_runSB (pc := 22) C [.long (((p1.I 14)).toInt64), .long (x1.toInt64), .long (x2.toInt64)] [] (fun sz => ctX12_in l E (((p1.I 14)).toInt64) (x1.toInt64) (x2.toInt64) hw sz) [] rfl rfl rfl mfX12_in msX12_in wmX12_56 rfl ⟨Nat.le_of_ble_eq_true rfl, Nat.le_of_ble_eq_true rfl⟩ ⟨rfl, rfl⟩ rfl (Nat.le_of_ble_eq_true rfl) ⟨Nat.zero_le _, Nat.zero_le _⟩ dX12_number_22) (fun r2 _ hw => ?_)
    refine v_if_eq (pc := 25) C 32 (by decide) dX12_number_25 (fun hc => ?_) (fun hc => ?_)
    · have hw := hw.1 hc
      refine v_iconst (pc := 32) C 0 ki_0 dX12_number_32 ?_
      exact v_iretz (pc := 33) C rfl p1 hA rfl hw dX12_number_33
    · have hw := hw.2 hc
      refine v_iconst (pc := 28) C 1 ki_1 dX12_number_28 ?_
      refine v_goto (pc := 29) C 33 (by decide) dX12_number_29 ?_
      exact v_iretz (pc := 33) C rfl p1 hA rfl hw dX12_number_33
set_option maxHeartbeats 4000000 in
set_option maxRecDepth 100000 in
theorem vlX12_readNote_55 (C : VC pr s m args meth c E A cX12_readNote 4 (some .boolean) RX12) (hA : va_A w0 s.heap.size = A) (a : Nat → Nat)  {Post : Int32 → St → Prop} {KX : Int32 → Int32 → St → Prop} (hX : ∀ (x1 : Int32) (x2 : Int32) (p : St), KX x1 x2 p → V pr l e rmX12_readNote s m args below meth c E A 4 0 0 (MQ below (CQi E Post (fun u => (fl [bModel E a u])) w0 s.heap.size) args s 0 0 A) (fl [bModel E a p]) 105 [(0, .ref (a 0)), (1, .int x1), (2, .int x2)] []) : ∀ (n : Nat) (x1 : Int32) (x2 : Int32) (x3 : Int32) (p : St), wLX12_readNote_55  Post KX n (x1, x2, x3, p) → V pr l e rmX12_readNote s m args below meth c E A 4 0 0 (MQ below (CQi E Post (fun u => (fl [bModel E a u])) w0 s.heap.size) args s 0 0 A) (fl [bModel E a p]) 55 [(0, .ref (a 0)), (1, .int x1), (2, .int x2), (3, .int x3)] [] := by
  intro n
  induction n with
  | zero => intro x1 x2 x3 p hw; exact absurd hw id
  | succ n hself =>
    intro x1 x2 x3 p hw
    have hw : wlX12_readNote_55  Post KX (wLX12_readNote_55  Post KX n) x1 x2 x3 p := hw
    refine v_aload_n (pc := 55) C 0 rfl rfl dX12_readNote_55 ?_
    refine v_get (pc := 56) C cfX12 rfl 0 13 rfl (by decide) wfX12_127 rfl dX12_readNote_56 ?_
    refine v_bipush (pc := 59) C 6 kb_6 dX12_readNote_59 ?_
    refine v_icmp_ne (pc := 61) C 105 (by decide) dX12_readNote_61 (fun hc => ?_) (fun hc => ?_)
    · have hw := hw.1 hc
      refine v_sub (lv' := [(0, .ref (a 0)), (1, .int x1), (2, .int x2)]) [0, 1, 2] rfl ?_
      exact hX x1 x2 p hw
    · have hw := hw.2 hc
      refine v_aload_n (pc := 64) C 0 rfl rfl dX12_readNote_64 ?_
      refine v_get (pc := 65) C cfX12 rfl 0 14 rfl (by decide) wfX12_130 rfl dX12_readNote_65 ?_
      refine v_i2l (pc := 68) C dX12_readNote_68 ?_
      refine v_iload_n (pc := 69) C 3 rfl rfl dX12_readNote_69 ?_
      refine v_iconst (pc := 70) C 1 ki_1 dX12_readNote_70 ?_
      refine v_iadd (pc := 71) C dX12_readNote_71 ?_
      refine v_i2l (pc := 72) C dX12_readNote_72 ?_
      refine v_ldc2 (pc := 73) C 11 wlX12_151 dX12_readNote_73 ?_
      refine v_goBi (pc := 76) C (bs := [bModel E a p]) (cs := []) (cs' := (fun (_ : Unit) => [])) (bs' := (fun (_ : Unit) => [bModel E a p])) (w' := (fun (_ : Unit) => (fl [bModel E a p]))) [] rfl rfl (fun _ => rfl) (fun _ => rfl) (fun _ => rfl) (v_runSB (pc := 76) C [.long (((p.I 14)).toInt64), .long (((x3 + 1)).toInt64), .long 11] [] (fun sz => ctX12_in l E (((p.I 14)).toInt64) (((x3 + 1)).toInt64) 11 hw sz) [] rfl rfl rfl mfX12_in msX12_in wmX12_56 rfl ⟨Nat.le_of_ble_eq_true rfl, Nat.le_of_ble_eq_true rfl⟩ ⟨rfl, rfl⟩ rfl (Nat.le_of_ble_eq_true rfl) ⟨Nat.zero_le _, Nat.zero_le _⟩ dX12_readNote_76) (fun r9 _ hw => ?_)
      refine v_if_ne (pc := 79) C 84 (by decide) dX12_readNote_79 (fun hc => ?_) (fun hc => ?_)
      · have hw := hw.1 hc
        refine v_aload_n (pc := 84) C 0 rfl rfl dX12_readNote_84 ?_
        refine v_get (pc := 85) C cfX12 rfl 0 14 rfl (by decide) wfX12_130 rfl dX12_readNote_85 ?_
        refine v_topi (fun x3_10 ex => ?_)
        have hw := hw x3_10 ex
        refine v_istore_n (pc := 88) C [(3, .int x3_10), (0, .ref (a 0)), (1, .int x1), (2, .int x2)] rfl rfl (by decide) dX12_readNote_88 ?_
        refine v_iload_n (pc := 89) C 3 rfl rfl dX12_readNote_89 ?_
        refine v_iconst (pc := 90) C 1 ki_1 dX12_readNote_90 ?_
        refine v_aload_n (pc := 91) C 1 rfl rfl dX12_readNote_91 ?_
        refine v_get (pc := 92) C cfX12 rfl 0 14 rfl (by decide) wfX12_130 rfl dX12_readNote_92 ?_
        refine v_ishl (pc := 95) C dX12_readNote_95 ?_
        refine v_ior (pc := 96) C dX12_readNote_96 ?_
        refine v_topi (fun x2_11 ex => ?_)
        have hw := hw x2_11 ex
        refine v_istore_n (pc := 97) C [(2, .int x2_11), (3, .int x3_10), (0, .ref (a 0)), (1, .int x1)] rfl rfl (by decide) dX12_readNote_97 ?_
        refine v_aload_n (pc := 98) C 2 rfl rfl dX12_readNote_98 ?_
        refine v_goAv (pc := 99) C (wc' := (fun (u : St) => (fl [bModel E a u]))) (fun _ => rfl) (v_runVA (pc := 99) C [] [] (fun sz => ctX12_nextToken l E a p hw sz) mfX12_nextToken mvX12_nextToken wmX12_145 rfl ⟨Nat.le_of_ble_eq_true rfl, Nat.le_of_ble_eq_true rfl⟩ ⟨rfl, rfl⟩ 0 (ci := 12) (qc := (RX12, TX12, 30)) rfl rfl rfl rfl (Nat.le_of_ble_eq_true rfl) ⟨Nat.zero_le _, Nat.zero_le _⟩ dX12_readNote_99) (fun p12 hw => ?_)
        refine v_goto (pc := 102) C 55 (by decide) dX12_readNote_102 ?_
        refine v_sub (lv' := [(0, .ref (a 0)), (1, .int x1), (2, .int x2_11), (3, .int x3_10)]) [2, 3, 0, 1] rfl ?_
        exact hself x1 x2_11 x3_10 p12 hw
      · have hw := hw.2 hc
        refine v_iconst (pc := 82) C 0 ki_0 dX12_readNote_82 ?_
        exact v_iretz (pc := 83) C rfl p hA rfl hw dX12_readNote_83
set_option maxHeartbeats 4000000 in
set_option maxRecDepth 100000 in
theorem ctX12_readNote (l : Launch) (E : VE) (a : Nat → Nat) (x1 : Int32) (p : St)  {Post : Int32 → St → Prop} (hw : wpX12_readNote x1 p Post) (sz : Nat) : Met l yX12_readNote (mW yX12_readNote cX12_readNote 4 (some .boolean)) rmX12_readNote (CPre E [.ref (a 0), .int x1] sz (fl [bModel E a p])) (CQi E Post (fun u => (fl [bModel E a u])) (fl [bModel E a p]) sz) 0 0 (va_A (fl [bModel E a p]) sz) := by
  refine v_met (by decide) (Nat.le_of_ble_eq_true rfl) ?_
  intro pr e s m below meth c A hsz hA C
  subst hsz
  refine v_aload_n (pc := 0) C 0 rfl rfl dX12_readNote_0 ?_
  refine v_iconst (pc := 1) C 0 ki_0 dX12_readNote_1 ?_
  refine v_iconst (pc := 2) C 5 ki_5 dX12_readNote_2 ?_
  refine v_goAi (pc := 3) C (wc' := (fun (u : St) => (fl [bModel E a u]))) (fun _ => rfl) (v_runVA (pc := 3) C [.int 0, .int 5] [] (fun sz => ctX12_number l E a 0 5 p hw sz) mfX12_number mvX12_number wmX12_148 rfl ⟨Nat.le_of_ble_eq_true rfl, Nat.le_of_ble_eq_true rfl⟩ ⟨rfl, rfl⟩ 0 (ci := 12) (qc := (RX12, TX12, 30)) rfl rfl rfl rfl (Nat.le_of_ble_eq_true rfl) ⟨Nat.zero_le _, Nat.zero_le _⟩ dX12_readNote_3) (fun r1 p2 hw => ?_)
  refine v_if_ne (pc := 6) C 11 (by decide) dX12_readNote_6 (fun hc => ?_) (fun hc => ?_)
  · have hw := hw.1 hc
    refine v_aload_n (pc := 11) C 0 rfl rfl dX12_readNote_11 ?_
    refine v_get (pc := 12) C cfX12 rfl 0 16 rfl (by decide) wfX12_33 rfl dX12_readNote_12 ?_
    refine v_iload_n (pc := 15) C 1 rfl rfl dX12_readNote_15 ?_
    refine v_iconst (pc := 16) C 1 ki_1 dX12_readNote_16 ?_
    refine v_iadd (pc := 17) C dX12_readNote_17 ?_
    refine v_aload_n (pc := 18) C 0 rfl rfl dX12_readNote_18 ?_
    refine v_get (pc := 19) C cfX12 rfl 0 14 rfl (by decide) wfX12_130 rfl dX12_readNote_19 ?_
    obtain ⟨hg, hw⟩ := hw
    obtain ⟨p3, es⟩ : ∃ y : St, y = p2.sA 16 (upd (p2.A 16) (x1 + 1).toNatClampNeg (p2.I 14)) := ⟨_, rfl⟩
    have hw := hw p3 es
    refine v_iast (pc := 22) C 6 (w' := (fl [bModel E a p3])) rfl rfl (by subst es; rfl) hg dX12_readNote_22 ?_
    refine v_aload_n (pc := 23) C 0 rfl rfl dX12_readNote_23 ?_
    refine v_iconst (pc := 24) C 1 ki_1 dX12_readNote_24 ?_
    refine v_bipush (pc := 25) C 9 kb_9 dX12_readNote_25 ?_
    refine v_goAi (pc := 27) C (wc' := (fun (u : St) => (fl [bModel E a u]))) (fun _ => rfl) (v_runVA (pc := 27) C [.int 1, .int 9] [] (fun sz => ctX12_number l E a 1 9 p3 hw sz) mfX12_number mvX12_number wmX12_148 rfl ⟨Nat.le_of_ble_eq_true rfl, Nat.le_of_ble_eq_true rfl⟩ ⟨rfl, rfl⟩ 0 (ci := 12) (qc := (RX12, TX12, 30)) rfl rfl rfl rfl (Nat.le_of_ble_eq_true rfl) ⟨Nat.zero_le _, Nat.zero_le _⟩ dX12_readNote_27) (fun r4 p5 hw => ?_)
    refine v_if_ne (pc := 30) C 35 (by decide) dX12_readNote_30 (fun hc => ?_) (fun hc => ?_)
    · have hw := hw.1 hc
      refine v_aload_n (pc := 35) C 0 rfl rfl dX12_readNote_35 ?_
      refine v_get (pc := 36) C cfX12 rfl 0 16 rfl (by decide) wfX12_33 rfl dX12_readNote_36 ?_
      refine v_iload_n (pc := 39) C 1 rfl rfl dX12_readNote_39 ?_
      refine v_iconst (pc := 40) C 2 ki_2 dX12_readNote_40 ?_
      refine v_iadd (pc := 41) C dX12_readNote_41 ?_
      refine v_aload_n (pc := 42) C 0 rfl rfl dX12_readNote_42 ?_
      refine v_get (pc := 43) C cfX12 rfl 0 14 rfl (by decide) wfX12_130 rfl dX12_readNote_43 ?_
      obtain ⟨hg, hw⟩ := hw
      obtain ⟨p6, es⟩ : ∃ y : St, y = p5.sA 16 (upd (p5.A 16) (x1 + 2).toNatClampNeg (p5.I 14)) := ⟨_, rfl⟩
      have hw := hw p6 es
      refine v_iast (pc := 46) C 6 (w' := (fl [bModel E a p6])) rfl rfl (by subst es; rfl) hg dX12_readNote_46 ?_
      refine v_iconst (pc := 47) C 0 ki_0 dX12_readNote_47 ?_
      refine v_istore_n (pc := 48) C [(2, .int 0), (0, .ref (a 0)), (1, .int x1)] rfl rfl (by decide) dX12_readNote_48 ?_
      refine v_iconst (pc := 49) C (-1) ki_m1 dX12_readNote_49 ?_
      refine v_topi (fun x3_7 ex => ?_)
      have hw := hw x3_7 ex
      refine v_istore_n (pc := 50) C [(3, .int x3_7), (2, .int 0), (0, .ref (a 0)), (1, .int x1)] rfl rfl (by decide) dX12_readNote_50 ?_
      refine v_aload_n (pc := 51) C 2 rfl rfl dX12_readNote_51 ?_
      refine v_goAv (pc := 52) C (wc' := (fun (u : St) => (fl [bModel E a u]))) (fun _ => rfl) (v_runVA (pc := 52) C [] [] (fun sz => ctX12_nextToken l E a p6 hw sz) mfX12_nextToken mvX12_nextToken wmX12_145 rfl ⟨Nat.le_of_ble_eq_true rfl, Nat.le_of_ble_eq_true rfl⟩ ⟨rfl, rfl⟩ 0 (ci := 12) (qc := (RX12, TX12, 30)) rfl rfl rfl rfl (Nat.le_of_ble_eq_true rfl) ⟨Nat.zero_le _, Nat.zero_le _⟩ dX12_readNote_52) (fun p8 hw => ?_)
      obtain ⟨n, hw⟩ := hw
      refine v_sub (lv' := [(0, .ref (a 0)), (1, .int x1), (2, .int 0), (3, .int x3_7)]) [2, 3, 1, 0] rfl ?_
      refine vlX12_readNote_55 C hA a  (fun y13 y14 p15 hw => ?_) n x1 0 x3_7 p8 hw
      refine v_aload_n (pc := 105) C 0 rfl rfl dX12_readNote_105 ?_
      refine v_get (pc := 106) C cfX12 rfl 0 16 rfl (by decide) wfX12_33 rfl dX12_readNote_106 ?_
      refine v_iload_n (pc := 109) C 1 rfl rfl dX12_readNote_109 ?_
      refine v_iconst (pc := 110) C 3 ki_3 dX12_readNote_110 ?_
      refine v_iadd (pc := 111) C dX12_readNote_111 ?_
      refine v_iload_n (pc := 112) C 2 rfl rfl dX12_readNote_112 ?_
      obtain ⟨hg, hw⟩ := hw
      obtain ⟨p16, es⟩ : ∃ y : St, y = p15.sA 16 (upd (p15.A 16) (y13 + 3).toNatClampNeg y14) := ⟨_, rfl⟩
      have hw := hw p16 es
      refine v_iast (pc := 113) C 6 (w' := (fl [bModel E a p16])) rfl rfl (by subst es; rfl) hg dX12_readNote_113 ?_
      refine v_iconst (pc := 114) C 1 ki_1 dX12_readNote_114 ?_
      exact v_iretz (pc := 115) C rfl p16 hA rfl hw dX12_readNote_115
    · have hw := hw.2 hc
      refine v_iconst (pc := 33) C 0 ki_0 dX12_readNote_33 ?_
      exact v_iretz (pc := 34) C rfl p5 hA rfl hw dX12_readNote_34
  · have hw := hw.2 hc
    refine v_iconst (pc := 9) C 0 ki_0 dX12_readNote_9 ?_
    exact v_iretz (pc := 10) C rfl p2 hA rfl hw dX12_readNote_10
end

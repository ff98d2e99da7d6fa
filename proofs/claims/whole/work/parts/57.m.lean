section
variable {pr : Program} {l : Launch} {e : Env} {s : State} {m : MethodId} {args : Array Value} {below : List Frame} {meth : Method} {c : Code} {E : VE} {A : Nat → Prop} {w0 : va_W}
theorem dX11_bad_0 : decode cX11_bad 0 = .ok (.aload_n 0, 1) := by decide +kernel
theorem dX11_bad_1 : decode cX11_bad 1 = .ok (.dup, 1) := by decide +kernel
theorem dX11_bad_2 : decode cX11_bad 2 = .ok (.getfield 68, 3) := by decide +kernel
theorem dX11_bad_5 : decode cX11_bad 5 = .ok (.iconst 1, 1) := by decide +kernel
theorem dX11_bad_6 : decode cX11_bad 6 = .ok (.iadd, 1) := by decide +kernel
theorem dX11_bad_7 : decode cX11_bad 7 = .ok (.putfield 68, 3) := by decide +kernel
theorem dX11_bad_10 : decode cX11_bad 10 = .ok (.iload_n 1, 1) := by decide +kernel
theorem dX11_bad_11 : decode cX11_bad 11 = .ok (.ireturn, 1) := by decide +kernel
theorem dX11_pad_0 : decode cX11_pad 0 = .ok (.iload_n 1, 1) := by decide +kernel
theorem dX11_pad_1 : decode cX11_pad 1 = .ok (.iconst 1, 1) := by decide +kernel
theorem dX11_pad_2 : decode cX11_pad 2 = .ok (.if_icmp .lt 9, 3) := by decide +kernel
theorem dX11_pad_5 : decode cX11_pad 5 = .ok (.iload_n 1, 1) := by decide +kernel
theorem dX11_pad_6 : decode cX11_pad 6 = .ok (.bipush 6, 2) := by decide +kernel
theorem dX11_pad_8 : decode cX11_pad 8 = .ok (.if_icmp .le 10, 3) := by decide +kernel
theorem dX11_pad_11 : decode cX11_pad 11 = .ok (.aload_n 0, 1) := by decide +kernel
theorem dX11_pad_12 : decode cX11_pad 12 = .ok (.bipush (-2), 2) := by decide +kernel
theorem dX11_pad_14 : decode cX11_pad 14 = .ok (.invokevirtual 77, 3) := by decide +kernel
theorem dX11_pad_17 : decode cX11_pad 17 = .ok (.ireturn, 1) := by decide +kernel
theorem dX11_pad_18 : decode cX11_pad 18 = .ok (.aload_n 0, 1) := by decide +kernel
theorem dX11_pad_19 : decode cX11_pad 19 = .ok (.getfield 19, 3) := by decide +kernel
theorem dX11_pad_22 : decode cX11_pad 22 = .ok (.getfield 81, 3) := by decide +kernel
theorem dX11_pad_25 : decode cX11_pad 25 = .ok (.istore_n 2, 1) := by decide +kernel
theorem dX11_pad_26 : decode cX11_pad 26 = .ok (.aload_n 0, 1) := by decide +kernel
theorem dX11_pad_27 : decode cX11_pad 27 = .ok (.getfield 19, 3) := by decide +kernel
theorem dX11_pad_30 : decode cX11_pad 30 = .ok (.iload_n 1, 1) := by decide +kernel
theorem dX11_pad_31 : decode cX11_pad 31 = .ok (.invokevirtual 84, 3) := by decide +kernel
theorem dX11_pad_34 : decode cX11_pad 34 = .ok (.iload_n 2, 1) := by decide +kernel
theorem dX11_pad_35 : decode cX11_pad 35 = .ok (.ireturn, 1) := by decide +kernel
theorem dX11_carbons_0 : decode cX11_carbons 0 = .ok (.aload_n 0, 1) := by decide +kernel
theorem dX11_carbons_1 : decode cX11_carbons 1 = .ok (.getfield 19, 3) := by decide +kernel
theorem dX11_carbons_4 : decode cX11_carbons 4 = .ok (.iload_n 1, 1) := by decide +kernel
theorem dX11_carbons_5 : decode cX11_carbons 5 = .ok (.invokevirtual 88, 3) := by decide +kernel
theorem dX11_carbons_8 : decode cX11_carbons 8 = .ok (.ifCond .ne 10, 3) := by decide +kernel
theorem dX11_carbons_11 : decode cX11_carbons 11 = .ok (.aload_n 0, 1) := by decide +kernel
theorem dX11_carbons_12 : decode cX11_carbons 12 = .ok (.bipush (-2), 2) := by decide +kernel
theorem dX11_carbons_14 : decode cX11_carbons 14 = .ok (.invokevirtual 77, 3) := by decide +kernel
theorem dX11_carbons_17 : decode cX11_carbons 17 = .ok (.ireturn, 1) := by decide +kernel
theorem dX11_carbons_18 : decode cX11_carbons 18 = .ok (.aload_n 0, 1) := by decide +kernel
theorem dX11_carbons_19 : decode cX11_carbons 19 = .ok (.getfield 19, 3) := by decide +kernel
theorem dX11_carbons_22 : decode cX11_carbons 22 = .ok (.getfield 92, 3) := by decide +kernel
theorem dX11_carbons_25 : decode cX11_carbons 25 = .ok (.istore_n 2, 1) := by decide +kernel
theorem dX11_carbons_26 : decode cX11_carbons 26 = .ok (.aload_n 0, 1) := by decide +kernel
theorem dX11_carbons_27 : decode cX11_carbons 27 = .ok (.getfield 19, 3) := by decide +kernel
theorem dX11_carbons_30 : decode cX11_carbons 30 = .ok (.iload_n 1, 1) := by decide +kernel
theorem dX11_carbons_31 : decode cX11_carbons 31 = .ok (.putfield 92, 3) := by decide +kernel
theorem dX11_carbons_34 : decode cX11_carbons 34 = .ok (.iload_n 2, 1) := by decide +kernel
theorem dX11_carbons_35 : decode cX11_carbons 35 = .ok (.ireturn, 1) := by decide +kernel
theorem dX11_isPen_0 : decode cX11_isPen 0 = .ok (.iload_n 0, 1) := by decide +kernel
theorem dX11_isPen_1 : decode cX11_isPen 1 = .ok (.ifCond .lt 24, 3) := by decide +kernel
theorem dX11_isPen_4 : decode cX11_isPen 4 = .ok (.iload_n 0, 1) := by decide +kernel
theorem dX11_isPen_5 : decode cX11_isPen 5 = .ok (.bipush 6, 2) := by decide +kernel
theorem dX11_isPen_7 : decode cX11_isPen 7 = .ok (.if_icmp .ge 18, 3) := by decide +kernel
theorem dX11_isPen_10 : decode cX11_isPen 10 = .ok (.iload_n 1, 1) := by decide +kernel
theorem dX11_isPen_11 : decode cX11_isPen 11 = .ok (.iconst 1, 1) := by decide +kernel
theorem dX11_isPen_12 : decode cX11_isPen 12 = .ok (.if_icmp .lt 13, 3) := by decide +kernel
theorem dX11_isPen_15 : decode cX11_isPen 15 = .ok (.iload_n 1, 1) := by decide +kernel
theorem dX11_isPen_16 : decode cX11_isPen 16 = .ok (.bipush 9, 2) := by decide +kernel
theorem dX11_isPen_18 : decode cX11_isPen 18 = .ok (.if_icmp .gt 7, 3) := by decide +kernel
theorem dX11_isPen_21 : decode cX11_isPen 21 = .ok (.iconst 1, 1) := by decide +kernel
theorem dX11_isPen_22 : decode cX11_isPen 22 = .ok (.goto 4, 3) := by decide +kernel
theorem dX11_isPen_25 : decode cX11_isPen 25 = .ok (.iconst 0, 1) := by decide +kernel
theorem dX11_isPen_26 : decode cX11_isPen 26 = .ok (.ireturn, 1) := by decide +kernel
theorem dX11_isCells_0 : decode cX11_isCells 0 = .ok (.iload_n 0, 1) := by decide +kernel
theorem dX11_isCells_1 : decode cX11_isCells 1 = .ok (.ifCond .lt 14, 3) := by decide +kernel
theorem dX11_isCells_4 : decode cX11_isCells 4 = .ok (.iload_n 0, 1) := by decide +kernel
theorem dX11_isCells_5 : decode cX11_isCells 5 = .ok (.sipush 4096, 3) := by decide +kernel
theorem dX11_isCells_8 : decode cX11_isCells 8 = .ok (.if_icmp .ge 7, 3) := by decide +kernel
theorem dX11_isCells_11 : decode cX11_isCells 11 = .ok (.iconst 1, 1) := by decide +kernel
theorem dX11_isCells_12 : decode cX11_isCells 12 = .ok (.goto 4, 3) := by decide +kernel
theorem dX11_isCells_15 : decode cX11_isCells 15 = .ok (.iconst 0, 1) := by decide +kernel
theorem dX11_isCells_16 : decode cX11_isCells 16 = .ok (.ireturn, 1) := by decide +kernel
theorem dX11_no_0 : decode cX11_no 0 = .ok (.aload_n 0, 1) := by decide +kernel
theorem dX11_no_1 : decode cX11_no 1 = .ok (.dup, 1) := by decide +kernel
theorem dX11_no_2 : decode cX11_no 2 = .ok (.getfield 71, 3) := by decide +kernel
theorem dX11_no_5 : decode cX11_no 5 = .ok (.iconst 1, 1) := by decide +kernel
theorem dX11_no_6 : decode cX11_no 6 = .ok (.iadd, 1) := by decide +kernel
theorem dX11_no_7 : decode cX11_no 7 = .ok (.putfield 71, 3) := by decide +kernel
theorem dX11_no_10 : decode cX11_no 10 = .ok (.bipush (-3), 2) := by decide +kernel
theorem dX11_no_12 : decode cX11_no 12 = .ok (.ireturn, 1) := by decide +kernel
theorem dX11_full_0 : decode cX11_full 0 = .ok (.aload_n 0, 1) := by decide +kernel
theorem dX11_full_1 : decode cX11_full 1 = .ok (.dup, 1) := by decide +kernel
theorem dX11_full_2 : decode cX11_full 2 = .ok (.getfield 74, 3) := by decide +kernel
theorem dX11_full_5 : decode cX11_full 5 = .ok (.iconst 1, 1) := by decide +kernel
theorem dX11_full_6 : decode cX11_full 6 = .ok (.iadd, 1) := by decide +kernel
theorem dX11_full_7 : decode cX11_full 7 = .ok (.putfield 74, 3) := by decide +kernel
theorem dX11_full_10 : decode cX11_full 10 = .ok (.bipush (-4), 2) := by decide +kernel
theorem dX11_full_12 : decode cX11_full 12 = .ok (.ireturn, 1) := by decide +kernel
theorem dX11_write_0 : decode cX11_write 0 = .ok (.iload_n 1, 1) := by decide +kernel
theorem dX11_write_1 : decode cX11_write 1 = .ok (.iload_n 2, 1) := by decide +kernel
theorem dX11_write_2 : decode cX11_write 2 = .ok (.invokestatic 95, 3) := by decide +kernel
theorem dX11_write_5 : decode cX11_write 5 = .ok (.ifCond .eq 10, 3) := by decide +kernel
theorem dX11_write_8 : decode cX11_write 8 = .ok (.iload_n 3, 1) := by decide +kernel
theorem dX11_write_9 : decode cX11_write 9 = .ok (.invokestatic 99, 3) := by decide +kernel
theorem dX11_write_12 : decode cX11_write 12 = .ok (.ifCond .ne 10, 3) := by decide +kernel
theorem dX11_write_15 : decode cX11_write 15 = .ok (.aload_n 0, 1) := by decide +kernel
theorem dX11_write_16 : decode cX11_write 16 = .ok (.bipush (-2), 2) := by decide +kernel
theorem dX11_write_18 : decode cX11_write 18 = .ok (.invokevirtual 77, 3) := by decide +kernel
theorem dX11_write_21 : decode cX11_write 21 = .ok (.ireturn, 1) := by decide +kernel
theorem dX11_write_22 : decode cX11_write 22 = .ok (.aload_n 0, 1) := by decide +kernel
theorem dX11_write_23 : decode cX11_write 23 = .ok (.getfield 19, 3) := by decide +kernel
theorem dX11_write_26 : decode cX11_write 26 = .ok (.invokevirtual 102, 3) := by decide +kernel
theorem dX11_write_29 : decode cX11_write 29 = .ok (.ifCond .eq 8, 3) := by decide +kernel
theorem dX11_write_32 : decode cX11_write 32 = .ok (.aload_n 0, 1) := by decide +kernel
theorem dX11_write_33 : decode cX11_write 33 = .ok (.invokevirtual 106, 3) := by decide +kernel
theorem dX11_write_36 : decode cX11_write 36 = .ok (.ireturn, 1) := by decide +kernel
theorem dX11_write_37 : decode cX11_write 37 = .ok (.aload_n 0, 1) := by decide +kernel
theorem dX11_write_38 : decode cX11_write 38 = .ok (.getfield 19, 3) := by decide +kernel
theorem dX11_write_41 : decode cX11_write 41 = .ok (.invokevirtual 110, 3) := by decide +kernel
theorem dX11_write_44 : decode cX11_write 44 = .ok (.bipush 10, 2) := by decide +kernel
theorem dX11_write_46 : decode cX11_write 46 = .ok (.if_icmp .lt 8, 3) := by decide +kernel
theorem dX11_write_49 : decode cX11_write 49 = .ok (.aload_n 0, 1) := by decide +kernel
theorem dX11_write_50 : decode cX11_write 50 = .ok (.invokevirtual 113, 3) := by decide +kernel
theorem dX11_write_53 : decode cX11_write 53 = .ok (.ireturn, 1) := by decide +kernel
theorem dX11_write_54 : decode cX11_write 54 = .ok (.aload_n 0, 1) := by decide +kernel
theorem dX11_write_55 : decode cX11_write 55 = .ok (.getfield 19, 3) := by decide +kernel
theorem dX11_write_58 : decode cX11_write 58 = .ok (.invokevirtual 116, 3) := by decide +kernel
theorem dX11_write_61 : decode cX11_write 61 = .ok (.aload_n 0, 1) := by decide +kernel
theorem dX11_write_62 : decode cX11_write 62 = .ok (.getfield 19, 3) := by decide +kernel
theorem dX11_write_65 : decode cX11_write 65 = .ok (.aload_n 0, 1) := by decide +kernel
theorem dX11_write_66 : decode cX11_write 66 = .ok (.getfield 12, 3) := by decide +kernel
theorem dX11_write_69 : decode cX11_write 69 = .ok (.iload_n 1, 1) := by decide +kernel
theorem dX11_write_70 : decode cX11_write 70 = .ok (.iload_n 2, 1) := by decide +kernel
theorem dX11_write_71 : decode cX11_write 71 = .ok (.iload_n 3, 1) := by decide +kernel
theorem dX11_write_72 : decode cX11_write 72 = .ok (.invokevirtual 119, 3) := by decide +kernel
theorem dX11_write_75 : decode cX11_write 75 = .ok (.ireturn, 1) := by decide +kernel
theorem dX11_tear_0 : decode cX11_tear 0 = .ok (.aload_n 0, 1) := by decide +kernel
theorem dX11_tear_1 : decode cX11_tear 1 = .ok (.getfield 19, 3) := by decide +kernel
theorem dX11_tear_4 : decode cX11_tear 4 = .ok (.invokevirtual 102, 3) := by decide +kernel
theorem dX11_tear_7 : decode cX11_tear 7 = .ok (.ifCond .eq 8, 3) := by decide +kernel
theorem dX11_tear_10 : decode cX11_tear 10 = .ok (.aload_n 0, 1) := by decide +kernel
theorem dX11_tear_11 : decode cX11_tear 11 = .ok (.invokevirtual 106, 3) := by decide +kernel
theorem dX11_tear_14 : decode cX11_tear 14 = .ok (.ireturn, 1) := by decide +kernel
theorem dX11_tear_15 : decode cX11_tear 15 = .ok (.aload_n 0, 1) := by decide +kernel
theorem dX11_tear_16 : decode cX11_tear 16 = .ok (.getfield 19, 3) := by decide +kernel
theorem dX11_tear_19 : decode cX11_tear 19 = .ok (.invokevirtual 116, 3) := by decide +kernel
theorem dX11_tear_22 : decode cX11_tear 22 = .ok (.aload_n 0, 1) := by decide +kernel
theorem dX11_tear_23 : decode cX11_tear 23 = .ok (.getfield 19, 3) := by decide +kernel
theorem dX11_tear_26 : decode cX11_tear 26 = .ok (.invokevirtual 123, 3) := by decide +kernel
theorem dX11_tear_29 : decode cX11_tear 29 = .ok (.ireturn, 1) := by decide +kernel
theorem dX11_undo_0 : decode cX11_undo 0 = .ok (.aload_n 0, 1) := by decide +kernel
theorem dX11_undo_1 : decode cX11_undo 1 = .ok (.getfield 19, 3) := by decide +kernel
theorem dX11_undo_4 : decode cX11_undo 4 = .ok (.getfield 126, 3) := by decide +kernel
theorem dX11_undo_7 : decode cX11_undo 7 = .ok (.ifCond .gt 8, 3) := by decide +kernel
theorem dX11_undo_10 : decode cX11_undo 10 = .ok (.aload_n 0, 1) := by decide +kernel
theorem dX11_undo_11 : decode cX11_undo 11 = .ok (.invokevirtual 106, 3) := by decide +kernel
theorem dX11_undo_14 : decode cX11_undo 14 = .ok (.ireturn, 1) := by decide +kernel
theorem dX11_undo_15 : decode cX11_undo 15 = .ok (.aload_n 0, 1) := by decide +kernel
theorem dX11_undo_16 : decode cX11_undo 16 = .ok (.getfield 19, 3) := by decide +kernel
theorem dX11_undo_19 : decode cX11_undo 19 = .ok (.invokevirtual 129, 3) := by decide +kernel
theorem dX11_undo_22 : decode cX11_undo 22 = .ok (.aload_n 0, 1) := by decide +kernel
theorem dX11_undo_23 : decode cX11_undo 23 = .ok (.getfield 19, 3) := by decide +kernel
theorem dX11_undo_26 : decode cX11_undo 26 = .ok (.invokevirtual 110, 3) := by decide +kernel
theorem dX11_undo_29 : decode cX11_undo 29 = .ok (.ireturn, 1) := by decide +kernel
theorem dX11_word_0 : decode cX11_word 0 = .ok (.iload_n 1, 1) := by decide +kernel
theorem dX11_word_1 : decode cX11_word 1 = .ok (.invokestatic 99, 3) := by decide +kernel
theorem dX11_word_4 : decode cX11_word 4 = .ok (.ifCond .ne 10, 3) := by decide +kernel
theorem dX11_word_7 : decode cX11_word 7 = .ok (.aload_n 0, 1) := by decide +kernel
theorem dX11_word_8 : decode cX11_word 8 = .ok (.bipush (-2), 2) := by decide +kernel
theorem dX11_word_10 : decode cX11_word 10 = .ok (.invokevirtual 77, 3) := by decide +kernel
theorem dX11_word_13 : decode cX11_word 13 = .ok (.ireturn, 1) := by decide +kernel
theorem dX11_word_14 : decode cX11_word 14 = .ok (.aload_n 0, 1) := by decide +kernel
theorem dX11_word_15 : decode cX11_word 15 = .ok (.getfield 19, 3) := by decide +kernel
theorem dX11_word_18 : decode cX11_word 18 = .ok (.getfield 132, 3) := by decide +kernel
theorem dX11_word_21 : decode cX11_word 21 = .ok (.bipush 8, 2) := by decide +kernel
theorem dX11_word_23 : decode cX11_word 23 = .ok (.if_icmp .lt 8, 3) := by decide +kernel
theorem dX11_word_26 : decode cX11_word 26 = .ok (.aload_n 0, 1) := by decide +kernel
theorem dX11_word_27 : decode cX11_word 27 = .ok (.invokevirtual 113, 3) := by decide +kernel
theorem dX11_word_30 : decode cX11_word 30 = .ok (.ireturn, 1) := by decide +kernel
theorem dX11_word_31 : decode cX11_word 31 = .ok (.aload_n 0, 1) := by decide +kernel
theorem dX11_word_32 : decode cX11_word 32 = .ok (.getfield 19, 3) := by decide +kernel
theorem dX11_word_35 : decode cX11_word 35 = .ok (.getfield 135, 3) := by decide +kernel
theorem dX11_word_38 : decode cX11_word 38 = .ok (.aload_n 0, 1) := by decide +kernel
theorem dX11_word_39 : decode cX11_word 39 = .ok (.getfield 19, 3) := by decide +kernel
theorem dX11_word_42 : decode cX11_word 42 = .ok (.getfield 132, 3) := by decide +kernel
theorem dX11_word_45 : decode cX11_word 45 = .ok (.iload_n 1, 1) := by decide +kernel
theorem dX11_word_46 : decode cX11_word 46 = .ok (.iastore, 1) := by decide +kernel
theorem dX11_word_47 : decode cX11_word 47 = .ok (.aload_n 0, 1) := by decide +kernel
theorem dX11_word_48 : decode cX11_word 48 = .ok (.getfield 19, 3) := by decide +kernel
theorem dX11_word_51 : decode cX11_word 51 = .ok (.dup, 1) := by decide +kernel
theorem dX11_word_52 : decode cX11_word 52 = .ok (.getfield 132, 3) := by decide +kernel
theorem dX11_word_55 : decode cX11_word 55 = .ok (.iconst 1, 1) := by decide +kernel
theorem dX11_word_56 : decode cX11_word 56 = .ok (.iadd, 1) := by decide +kernel
theorem dX11_word_57 : decode cX11_word 57 = .ok (.putfield 132, 3) := by decide +kernel
theorem dX11_word_60 : decode cX11_word 60 = .ok (.aload_n 0, 1) := by decide +kernel
theorem dX11_word_61 : decode cX11_word 61 = .ok (.getfield 19, 3) := by decide +kernel
theorem dX11_word_64 : decode cX11_word 64 = .ok (.getfield 132, 3) := by decide +kernel
theorem dX11_word_67 : decode cX11_word 67 = .ok (.iconst 1, 1) := by decide +kernel
theorem dX11_word_68 : decode cX11_word 68 = .ok (.isub, 1) := by decide +kernel
theorem dX11_word_69 : decode cX11_word 69 = .ok (.ireturn, 1) := by decide +kernel
theorem dX11_forget_0 : decode cX11_forget 0 = .ok (.aload_n 0, 1) := by decide +kernel
theorem dX11_forget_1 : decode cX11_forget 1 = .ok (.getfield 19, 3) := by decide +kernel
theorem dX11_forget_4 : decode cX11_forget 4 = .ok (.getfield 132, 3) := by decide +kernel
theorem dX11_forget_7 : decode cX11_forget 7 = .ok (.istore_n 1, 1) := by decide +kernel
theorem dX11_forget_8 : decode cX11_forget 8 = .ok (.aload_n 0, 1) := by decide +kernel
theorem dX11_forget_9 : decode cX11_forget 9 = .ok (.getfield 19, 3) := by decide +kernel
theorem dX11_forget_12 : decode cX11_forget 12 = .ok (.iconst 0, 1) := by decide +kernel
theorem dX11_forget_13 : decode cX11_forget 13 = .ok (.putfield 132, 3) := by decide +kernel
theorem dX11_forget_16 : decode cX11_forget 16 = .ok (.iload_n 1, 1) := by decide +kernel
theorem dX11_forget_17 : decode cX11_forget 17 = .ok (.ireturn, 1) := by decide +kernel
theorem dX11_type_0 : decode cX11_type 0 = .ok (.iload_n 1, 1) := by decide +kernel
theorem dX11_type_1 : decode cX11_type 1 = .ok (.ifCond .lt 9, 3) := by decide +kernel
theorem dX11_type_4 : decode cX11_type 4 = .ok (.iload_n 1, 1) := by decide +kernel
theorem dX11_type_5 : decode cX11_type 5 = .ok (.bipush 127, 2) := by decide +kernel
theorem dX11_type_7 : decode cX11_type 7 = .ok (.if_icmp .le 10, 3) := by decide +kernel
theorem dX11_type_10 : decode cX11_type 10 = .ok (.aload_n 0, 1) := by decide +kernel
theorem dX11_type_11 : decode cX11_type 11 = .ok (.bipush (-2), 2) := by decide +kernel
theorem dX11_type_13 : decode cX11_type 13 = .ok (.invokevirtual 77, 3) := by decide +kernel
theorem dX11_type_16 : decode cX11_type 16 = .ok (.ireturn, 1) := by decide +kernel
theorem dX11_type_17 : decode cX11_type 17 = .ok (.aload_n 0, 1) := by decide +kernel
theorem dX11_type_18 : decode cX11_type 18 = .ok (.getfield 49, 3) := by decide +kernel
theorem dX11_type_21 : decode cX11_type 21 = .ok (.getfield 138, 3) := by decide +kernel
theorem dX11_type_24 : decode cX11_type 24 = .ok (.sipush 150, 3) := by decide +kernel
theorem dX11_type_27 : decode cX11_type 27 = .ok (.if_icmp .lt 8, 3) := by decide +kernel
theorem dX11_type_30 : decode cX11_type 30 = .ok (.aload_n 0, 1) := by decide +kernel
theorem dX11_type_31 : decode cX11_type 31 = .ok (.invokevirtual 113, 3) := by decide +kernel
theorem dX11_type_34 : decode cX11_type 34 = .ok (.ireturn, 1) := by decide +kernel
theorem dX11_type_35 : decode cX11_type 35 = .ok (.aload_n 0, 1) := by decide +kernel
theorem dX11_type_36 : decode cX11_type 36 = .ok (.getfield 49, 3) := by decide +kernel
theorem dX11_type_39 : decode cX11_type 39 = .ok (.getfield 141, 3) := by decide +kernel
theorem dX11_type_42 : decode cX11_type 42 = .ok (.aload_n 0, 1) := by decide +kernel
theorem dX11_type_43 : decode cX11_type 43 = .ok (.getfield 49, 3) := by decide +kernel
theorem dX11_type_46 : decode cX11_type 46 = .ok (.getfield 138, 3) := by decide +kernel
theorem dX11_type_49 : decode cX11_type 49 = .ok (.iload_n 1, 1) := by decide +kernel
theorem dX11_type_50 : decode cX11_type 50 = .ok (.iastore, 1) := by decide +kernel
theorem dX11_type_51 : decode cX11_type 51 = .ok (.aload_n 0, 1) := by decide +kernel
theorem dX11_type_52 : decode cX11_type 52 = .ok (.getfield 49, 3) := by decide +kernel
theorem dX11_type_55 : decode cX11_type 55 = .ok (.dup, 1) := by decide +kernel
theorem dX11_type_56 : decode cX11_type 56 = .ok (.getfield 138, 3) := by decide +kernel
theorem dX11_type_59 : decode cX11_type 59 = .ok (.iconst 1, 1) := by decide +kernel
theorem dX11_type_60 : decode cX11_type 60 = .ok (.iadd, 1) := by decide +kernel
theorem dX11_type_61 : decode cX11_type 61 = .ok (.putfield 138, 3) := by decide +kernel
theorem dX11_type_64 : decode cX11_type 64 = .ok (.aload_n 0, 1) := by decide +kernel
theorem dX11_type_65 : decode cX11_type 65 = .ok (.getfield 49, 3) := by decide +kernel
theorem dX11_type_68 : decode cX11_type 68 = .ok (.getfield 138, 3) := by decide +kernel
theorem dX11_type_71 : decode cX11_type 71 = .ok (.ireturn, 1) := by decide +kernel
theorem dX11_clear_0 : decode cX11_clear 0 = .ok (.aload_n 0, 1) := by decide +kernel
theorem dX11_clear_1 : decode cX11_clear 1 = .ok (.getfield 49, 3) := by decide +kernel
theorem dX11_clear_4 : decode cX11_clear 4 = .ok (.getfield 138, 3) := by decide +kernel
theorem dX11_clear_7 : decode cX11_clear 7 = .ok (.istore_n 1, 1) := by decide +kernel
theorem dX11_clear_8 : decode cX11_clear 8 = .ok (.aload_n 0, 1) := by decide +kernel
theorem dX11_clear_9 : decode cX11_clear 9 = .ok (.getfield 49, 3) := by decide +kernel
theorem dX11_clear_12 : decode cX11_clear 12 = .ok (.iconst 0, 1) := by decide +kernel
theorem dX11_clear_13 : decode cX11_clear 13 = .ok (.putfield 138, 3) := by decide +kernel
theorem dX11_clear_16 : decode cX11_clear 16 = .ok (.iload_n 1, 1) := by decide +kernel
theorem dX11_clear_17 : decode cX11_clear 17 = .ok (.ireturn, 1) := by decide +kernel
theorem dX11_read_0 : decode cX11_read 0 = .ok (.aload_n 0, 1) := by decide +kernel
theorem dX11_read_1 : decode cX11_read 1 = .ok (.getfield 49, 3) := by decide +kernel
theorem dX11_read_4 : decode cX11_read 4 = .ok (.aload_n 0, 1) := by decide +kernel
theorem dX11_read_5 : decode cX11_read 5 = .ok (.getfield 23, 3) := by decide +kernel
theorem dX11_read_8 : decode cX11_read 8 = .ok (.aload_n 0, 1) := by decide +kernel
theorem dX11_read_9 : decode cX11_read 9 = .ok (.getfield 12, 3) := by decide +kernel
theorem dX11_read_12 : decode cX11_read 12 = .ok (.invokevirtual 144, 3) := by decide +kernel
theorem dX11_read_15 : decode cX11_read 15 = .ok (.istore_n 1, 1) := by decide +kernel
theorem dX11_read_16 : decode cX11_read 16 = .ok (.iload_n 1, 1) := by decide +kernel
theorem dX11_read_17 : decode cX11_read 17 = .ok (.ifCond .ge 14, 3) := by decide +kernel
theorem dX11_read_20 : decode cX11_read 20 = .ok (.bipush (-10), 2) := by decide +kernel
theorem dX11_read_22 : decode cX11_read 22 = .ok (.aload_n 0, 1) := by decide +kernel
theorem dX11_read_23 : decode cX11_read 23 = .ok (.getfield 49, 3) := by decide +kernel
theorem dX11_read_26 : decode cX11_read 26 = .ok (.invokevirtual 148, 3) := by decide +kernel
theorem dX11_read_29 : decode cX11_read 29 = .ok (.isub, 1) := by decide +kernel
theorem dX11_read_30 : decode cX11_read 30 = .ok (.ireturn, 1) := by decide +kernel
theorem dX11_read_31 : decode cX11_read 31 = .ok (.aload_n 0, 1) := by decide +kernel
theorem dX11_read_32 : decode cX11_read 32 = .ok (.getfield 19, 3) := by decide +kernel
theorem dX11_read_35 : decode cX11_read 35 = .ok (.aload_n 0, 1) := by decide +kernel
theorem dX11_read_36 : decode cX11_read 36 = .ok (.getfield 23, 3) := by decide +kernel
theorem dX11_read_39 : decode cX11_read 39 = .ok (.invokevirtual 151, 3) := by decide +kernel
theorem dX11_read_42 : decode cX11_read 42 = .ok (.iload_n 1, 1) := by decide +kernel
theorem dX11_read_43 : decode cX11_read 43 = .ok (.ireturn, 1) := by decide +kernel
theorem dX11_of_0 : decode cX11_of 0 = .ok (.aload_n 0, 1) := by decide +kernel
theorem dX11_of_1 : decode cX11_of 1 = .ok (.getfield 19, 3) := by decide +kernel
theorem dX11_of_4 : decode cX11_of 4 = .ok (.iload_n 1, 1) := by decide +kernel
theorem dX11_of_5 : decode cX11_of 5 = .ok (.invokevirtual 155, 3) := by decide +kernel
theorem dX11_of_8 : decode cX11_of 8 = .ok (.ifCond .ne 10, 3) := by decide +kernel
theorem dX11_of_11 : decode cX11_of 11 = .ok (.aload_n 0, 1) := by decide +kernel
theorem dX11_of_12 : decode cX11_of 12 = .ok (.bipush (-10), 2) := by decide +kernel
theorem dX11_of_14 : decode cX11_of 14 = .ok (.invokevirtual 77, 3) := by decide +kernel
theorem dX11_of_17 : decode cX11_of 17 = .ok (.ireturn, 1) := by decide +kernel
theorem dX11_of_18 : decode cX11_of 18 = .ok (.iload_n 2, 1) := by decide +kernel
theorem dX11_of_19 : decode cX11_of 19 = .ok (.tableswitch 81 0 3 #[29, 38, 47, 72], 29) := by decide +kernel
theorem dX11_of_48 : decode cX11_of 48 = .ok (.aload_n 0, 1) := by decide +kernel
theorem dX11_of_49 : decode cX11_of 49 = .ok (.getfield 19, 3) := by decide +kernel
theorem dX11_of_52 : decode cX11_of 52 = .ok (.iload_n 1, 1) := by decide +kernel
theorem dX11_of_53 : decode cX11_of 53 = .ok (.invokevirtual 158, 3) := by decide +kernel
theorem dX11_of_56 : decode cX11_of 56 = .ok (.ireturn, 1) := by decide +kernel
theorem dX11_of_57 : decode cX11_of 57 = .ok (.aload_n 0, 1) := by decide +kernel
theorem dX11_of_58 : decode cX11_of 58 = .ok (.getfield 19, 3) := by decide +kernel
theorem dX11_of_61 : decode cX11_of 61 = .ok (.iload_n 1, 1) := by decide +kernel
theorem dX11_of_62 : decode cX11_of 62 = .ok (.invokevirtual 161, 3) := by decide +kernel
theorem dX11_of_65 : decode cX11_of 65 = .ok (.ireturn, 1) := by decide +kernel
theorem dX11_of_66 : decode cX11_of 66 = .ok (.iload_n 1, 1) := by decide +kernel
theorem dX11_of_67 : decode cX11_of 67 = .ok (.aload_n 0, 1) := by decide +kernel
theorem dX11_of_68 : decode cX11_of 68 = .ok (.getfield 19, 3) := by decide +kernel
theorem dX11_of_71 : decode cX11_of 71 = .ok (.invokevirtual 164, 3) := by decide +kernel
theorem dX11_of_74 : decode cX11_of 74 = .ok (.if_icmp .ge 7, 3) := by decide +kernel
theorem dX11_of_77 : decode cX11_of 77 = .ok (.iconst (-1), 1) := by decide +kernel
theorem dX11_of_78 : decode cX11_of 78 = .ok (.goto 12, 3) := by decide +kernel
theorem dX11_of_81 : decode cX11_of 81 = .ok (.iload_n 1, 1) := by decide +kernel
theorem dX11_of_82 : decode cX11_of 82 = .ok (.aload_n 0, 1) := by decide +kernel
theorem dX11_of_83 : decode cX11_of 83 = .ok (.getfield 19, 3) := by decide +kernel
theorem dX11_of_86 : decode cX11_of 86 = .ok (.invokevirtual 164, 3) := by decide +kernel
theorem dX11_of_89 : decode cX11_of 89 = .ok (.isub, 1) := by decide +kernel
theorem dX11_of_90 : decode cX11_of 90 = .ok (.ireturn, 1) := by decide +kernel
theorem dX11_of_91 : decode cX11_of 91 = .ok (.aload_n 0, 1) := by decide +kernel
theorem dX11_of_92 : decode cX11_of 92 = .ok (.getfield 19, 3) := by decide +kernel
theorem dX11_of_95 : decode cX11_of 95 = .ok (.iload_n 1, 1) := by decide +kernel
theorem dX11_of_96 : decode cX11_of 96 = .ok (.invokevirtual 167, 3) := by decide +kernel
theorem dX11_of_99 : decode cX11_of 99 = .ok (.ireturn, 1) := by decide +kernel
theorem dX11_of_100 : decode cX11_of 100 = .ok (.aload_n 0, 1) := by decide +kernel
theorem dX11_of_101 : decode cX11_of 101 = .ok (.bipush (-10), 2) := by decide +kernel
theorem dX11_of_103 : decode cX11_of 103 = .ok (.invokevirtual 77, 3) := by decide +kernel
theorem dX11_of_106 : decode cX11_of 106 = .ok (.ireturn, 1) := by decide +kernel
theorem dX11_dent_0 : decode cX11_dent 0 = .ok (.aload_n 0, 1) := by decide +kernel
theorem dX11_dent_1 : decode cX11_dent 1 = .ok (.getfield 19, 3) := by decide +kernel
theorem dX11_dent_4 : decode cX11_dent 4 = .ok (.iload_n 1, 1) := by decide +kernel
theorem dX11_dent_5 : decode cX11_dent 5 = .ok (.invokevirtual 155, 3) := by decide +kernel
theorem dX11_dent_8 : decode cX11_dent 8 = .ok (.ifCond .eq 13, 3) := by decide +kernel
theorem dX11_dent_11 : decode cX11_dent 11 = .ok (.iload_n 2, 1) := by decide +kernel
theorem dX11_dent_12 : decode cX11_dent 12 = .ok (.ifCond .lt 9, 3) := by decide +kernel
theorem dX11_dent_15 : decode cX11_dent 15 = .ok (.iload_n 2, 1) := by decide +kernel
theorem dX11_dent_16 : decode cX11_dent 16 = .ok (.bipush 12, 2) := by decide +kernel
theorem dX11_dent_18 : decode cX11_dent 18 = .ok (.if_icmp .lt 10, 3) := by decide +kernel
theorem dX11_dent_21 : decode cX11_dent 21 = .ok (.aload_n 0, 1) := by decide +kernel
theorem dX11_dent_22 : decode cX11_dent 22 = .ok (.bipush (-2), 2) := by decide +kernel
theorem dX11_dent_24 : decode cX11_dent 24 = .ok (.invokevirtual 77, 3) := by decide +kernel
theorem dX11_dent_27 : decode cX11_dent 27 = .ok (.ireturn, 1) := by decide +kernel
theorem dX11_dent_28 : decode cX11_dent 28 = .ok (.aload_n 0, 1) := by decide +kernel
theorem dX11_dent_29 : decode cX11_dent 29 = .ok (.getfield 19, 3) := by decide +kernel
theorem dX11_dent_32 : decode cX11_dent 32 = .ok (.iload_n 1, 1) := by decide +kernel
theorem dX11_dent_33 : decode cX11_dent 33 = .ok (.iload_n 2, 1) := by decide +kernel
theorem dX11_dent_34 : decode cX11_dent 34 = .ok (.invokevirtual 170, 3) := by decide +kernel
theorem dX11_dent_37 : decode cX11_dent 37 = .ok (.ireturn, 1) := by decide +kernel
theorem dX11_about_0 : decode cX11_about 0 = .ok (.aload_n 0, 1) := by decide +kernel
theorem dX11_about_1 : decode cX11_about 1 = .ok (.getfield 19, 3) := by decide +kernel
theorem dX11_about_4 : decode cX11_about 4 = .ok (.iload_n 1, 1) := by decide +kernel
theorem dX11_about_5 : decode cX11_about 5 = .ok (.invokevirtual 174, 3) := by decide +kernel
theorem dX11_about_8 : decode cX11_about 8 = .ok (.ifCond .ne 10, 3) := by decide +kernel
theorem dX11_about_11 : decode cX11_about 11 = .ok (.aload_n 0, 1) := by decide +kernel
theorem dX11_about_12 : decode cX11_about 12 = .ok (.bipush (-2), 2) := by decide +kernel
theorem dX11_about_14 : decode cX11_about 14 = .ok (.invokevirtual 77, 3) := by decide +kernel
theorem dX11_about_17 : decode cX11_about 17 = .ok (.ireturn, 1) := by decide +kernel
theorem dX11_about_18 : decode cX11_about 18 = .ok (.iload_n 2, 1) := by decide +kernel
theorem dX11_about_19 : decode cX11_about 19 = .ok (.tableswitch 120 0 5 #[37, 47, 57, 67, 77, 95], 37) := by decide +kernel
theorem dX11_about_56 : decode cX11_about 56 = .ok (.aload_n 0, 1) := by decide +kernel
theorem dX11_about_57 : decode cX11_about 57 = .ok (.getfield 19, 3) := by decide +kernel
theorem dX11_about_60 : decode cX11_about 60 = .ok (.getfield 177, 3) := by decide +kernel
theorem dX11_about_63 : decode cX11_about 63 = .ok (.iload_n 1, 1) := by decide +kernel
theorem dX11_about_64 : decode cX11_about 64 = .ok (.iaload, 1) := by decide +kernel
theorem dX11_about_65 : decode cX11_about 65 = .ok (.ireturn, 1) := by decide +kernel
theorem dX11_about_66 : decode cX11_about 66 = .ok (.aload_n 0, 1) := by decide +kernel
theorem dX11_about_67 : decode cX11_about 67 = .ok (.getfield 19, 3) := by decide +kernel
theorem dX11_about_70 : decode cX11_about 70 = .ok (.getfield 180, 3) := by decide +kernel
theorem dX11_about_73 : decode cX11_about 73 = .ok (.iload_n 1, 1) := by decide +kernel
theorem dX11_about_74 : decode cX11_about 74 = .ok (.iaload, 1) := by decide +kernel
theorem dX11_about_75 : decode cX11_about 75 = .ok (.ireturn, 1) := by decide +kernel
theorem dX11_about_76 : decode cX11_about 76 = .ok (.aload_n 0, 1) := by decide +kernel
theorem dX11_about_77 : decode cX11_about 77 = .ok (.getfield 19, 3) := by decide +kernel
theorem dX11_about_80 : decode cX11_about 80 = .ok (.getfield 183, 3) := by decide +kernel
theorem dX11_about_83 : decode cX11_about 83 = .ok (.iload_n 1, 1) := by decide +kernel
theorem dX11_about_84 : decode cX11_about 84 = .ok (.iaload, 1) := by decide +kernel
theorem dX11_about_85 : decode cX11_about 85 = .ok (.ireturn, 1) := by decide +kernel
theorem dX11_about_86 : decode cX11_about 86 = .ok (.aload_n 0, 1) := by decide +kernel
theorem dX11_about_87 : decode cX11_about 87 = .ok (.getfield 19, 3) := by decide +kernel
theorem dX11_about_90 : decode cX11_about 90 = .ok (.getfield 186, 3) := by decide +kernel
theorem dX11_about_93 : decode cX11_about 93 = .ok (.iload_n 1, 1) := by decide +kernel
theorem dX11_about_94 : decode cX11_about 94 = .ok (.iaload, 1) := by decide +kernel
theorem dX11_about_95 : decode cX11_about 95 = .ok (.ireturn, 1) := by decide +kernel
theorem dX11_about_96 : decode cX11_about 96 = .ok (.aload_n 0, 1) := by decide +kernel
theorem dX11_about_97 : decode cX11_about 97 = .ok (.getfield 19, 3) := by decide +kernel
theorem dX11_about_100 : decode cX11_about 100 = .ok (.iload_n 1, 1) := by decide +kernel
theorem dX11_about_101 : decode cX11_about 101 = .ok (.aload_n 0, 1) := by decide +kernel
theorem dX11_about_102 : decode cX11_about 102 = .ok (.getfield 19, 3) := by decide +kernel
theorem dX11_about_105 : decode cX11_about 105 = .ok (.getfield 186, 3) := by decide +kernel
theorem dX11_about_108 : decode cX11_about 108 = .ok (.iload_n 1, 1) := by decide +kernel
theorem dX11_about_109 : decode cX11_about 109 = .ok (.iaload, 1) := by decide +kernel
theorem dX11_about_110 : decode cX11_about 110 = .ok (.invokevirtual 189, 3) := by decide +kernel
theorem dX11_about_113 : decode cX11_about 113 = .ok (.ireturn, 1) := by decide +kernel
theorem dX11_about_114 : decode cX11_about 114 = .ok (.aload_n 0, 1) := by decide +kernel
theorem dX11_about_115 : decode cX11_about 115 = .ok (.getfield 12, 3) := by decide +kernel
theorem dX11_about_118 : decode cX11_about 118 = .ok (.aload_n 0, 1) := by decide +kernel
theorem dX11_about_119 : decode cX11_about 119 = .ok (.getfield 19, 3) := by decide +kernel
theorem dX11_about_122 : decode cX11_about 122 = .ok (.getfield 177, 3) := by decide +kernel
theorem dX11_about_125 : decode cX11_about 125 = .ok (.iload_n 1, 1) := by decide +kernel
theorem dX11_about_126 : decode cX11_about 126 = .ok (.iaload, 1) := by decide +kernel
theorem dX11_about_127 : decode cX11_about 127 = .ok (.invokevirtual 192, 3) := by decide +kernel
theorem dX11_about_130 : decode cX11_about 130 = .ok (.ifCond .eq 7, 3) := by decide +kernel
theorem dX11_about_133 : decode cX11_about 133 = .ok (.iconst 1, 1) := by decide +kernel
theorem dX11_about_134 : decode cX11_about 134 = .ok (.goto 4, 3) := by decide +kernel
theorem dX11_about_137 : decode cX11_about 137 = .ok (.iconst 0, 1) := by decide +kernel
theorem dX11_about_138 : decode cX11_about 138 = .ok (.ireturn, 1) := by decide +kernel
theorem dX11_about_139 : decode cX11_about 139 = .ok (.aload_n 0, 1) := by decide +kernel
theorem dX11_about_140 : decode cX11_about 140 = .ok (.bipush (-2), 2) := by decide +kernel
theorem dX11_about_142 : decode cX11_about 142 = .ok (.invokevirtual 77, 3) := by decide +kernel
theorem dX11_about_145 : decode cX11_about 145 = .ok (.ireturn, 1) := by decide +kernel
theorem dX11_isDepth_0 : decode cX11_isDepth 0 = .ok (.iload_n 0, 1) := by decide +kernel
theorem dX11_isDepth_1 : decode cX11_isDepth 1 = .ok (.ifCond .lt 13, 3) := by decide +kernel
theorem dX11_isDepth_4 : decode cX11_isDepth 4 = .ok (.iload_n 0, 1) := by decide +kernel
theorem dX11_isDepth_5 : decode cX11_isDepth 5 = .ok (.bipush 6, 2) := by decide +kernel
theorem dX11_isDepth_7 : decode cX11_isDepth 7 = .ok (.if_icmp .ge 7, 3) := by decide +kernel
theorem dX11_isDepth_10 : decode cX11_isDepth 10 = .ok (.iconst 1, 1) := by decide +kernel
theorem dX11_isDepth_11 : decode cX11_isDepth 11 = .ok (.goto 4, 3) := by decide +kernel
theorem dX11_isDepth_14 : decode cX11_isDepth 14 = .ok (.iconst 0, 1) := by decide +kernel
theorem dX11_isDepth_15 : decode cX11_isDepth 15 = .ok (.ireturn, 1) := by decide +kernel
theorem dX11_force_0 : decode cX11_force 0 = .ok (.iload_n 1, 1) := by decide +kernel
theorem dX11_force_1 : decode cX11_force 1 = .ok (.iload_n 2, 1) := by decide +kernel
theorem dX11_force_2 : decode cX11_force 2 = .ok (.invokestatic 95, 3) := by decide +kernel
theorem dX11_force_5 : decode cX11_force 5 = .ok (.ifCond .eq 10, 3) := by decide +kernel
theorem dX11_force_8 : decode cX11_force 8 = .ok (.iload_n 3, 1) := by decide +kernel
theorem dX11_force_9 : decode cX11_force 9 = .ok (.invokestatic 195, 3) := by decide +kernel
theorem dX11_force_12 : decode cX11_force 12 = .ok (.ifCond .ne 10, 3) := by decide +kernel
theorem dX11_force_15 : decode cX11_force 15 = .ok (.aload_n 0, 1) := by decide +kernel
theorem dX11_force_16 : decode cX11_force 16 = .ok (.bipush (-2), 2) := by decide +kernel
theorem dX11_force_18 : decode cX11_force 18 = .ok (.invokevirtual 77, 3) := by decide +kernel
theorem dX11_force_21 : decode cX11_force 21 = .ok (.ireturn, 1) := by decide +kernel
theorem dX11_force_22 : decode cX11_force 22 = .ok (.aload_n 0, 1) := by decide +kernel
theorem dX11_force_23 : decode cX11_force 23 = .ok (.getfield 12, 3) := by decide +kernel
theorem dX11_force_26 : decode cX11_force 26 = .ok (.iload_n 1, 1) := by decide +kernel
theorem dX11_force_27 : decode cX11_force 27 = .ok (.iload_n 2, 1) := by decide +kernel
theorem dX11_force_28 : decode cX11_force 28 = .ok (.iload_n 3, 1) := by decide +kernel
theorem dX11_force_29 : decode cX11_force 29 = .ok (.invokevirtual 198, 3) := by decide +kernel
theorem dX11_force_32 : decode cX11_force 32 = .ok (.ireturn, 1) := by decide +kernel
theorem dX11_whose_0 : decode cX11_whose 0 = .ok (.aload_n 0, 1) := by decide +kernel
theorem dX11_whose_1 : decode cX11_whose 1 = .ok (.getfield 19, 3) := by decide +kernel
theorem dX11_whose_4 : decode cX11_whose 4 = .ok (.iload_n 1, 1) := by decide +kernel
theorem dX11_whose_5 : decode cX11_whose 5 = .ok (.invokevirtual 155, 3) := by decide +kernel
theorem dX11_whose_8 : decode cX11_whose 8 = .ok (.ifCond .eq 14, 3) := by decide +kernel
theorem dX11_whose_11 : decode cX11_whose 11 = .ok (.aload_n 0, 1) := by decide +kernel
theorem dX11_whose_12 : decode cX11_whose 12 = .ok (.getfield 19, 3) := by decide +kernel
theorem dX11_whose_15 : decode cX11_whose 15 = .ok (.iload_n 1, 1) := by decide +kernel
theorem dX11_whose_16 : decode cX11_whose 16 = .ok (.invokevirtual 202, 3) := by decide +kernel
theorem dX11_whose_19 : decode cX11_whose 19 = .ok (.goto 9, 3) := by decide +kernel
theorem dX11_whose_22 : decode cX11_whose 22 = .ok (.aload_n 0, 1) := by decide +kernel
theorem dX11_whose_23 : decode cX11_whose 23 = .ok (.bipush (-2), 2) := by decide +kernel
theorem dX11_whose_25 : decode cX11_whose 25 = .ok (.invokevirtual 77, 3) := by decide +kernel
theorem dX11_whose_28 : decode cX11_whose 28 = .ok (.ireturn, 1) := by decide +kernel
theorem dX11_own_0 : decode cX11_own 0 = .ok (.aload_n 0, 1) := by decide +kernel
theorem dX11_own_1 : decode cX11_own 1 = .ok (.getfield 19, 3) := by decide +kernel
theorem dX11_own_4 : decode cX11_own 4 = .ok (.iload_n 1, 1) := by decide +kernel
theorem dX11_own_5 : decode cX11_own 5 = .ok (.invokevirtual 174, 3) := by decide +kernel
theorem dX11_own_8 : decode cX11_own 8 = .ok (.ifCond .eq 14, 3) := by decide +kernel
theorem dX11_own_11 : decode cX11_own 11 = .ok (.aload_n 0, 1) := by decide +kernel
theorem dX11_own_12 : decode cX11_own 12 = .ok (.getfield 19, 3) := by decide +kernel
theorem dX11_own_15 : decode cX11_own 15 = .ok (.iload_n 2, 1) := by decide +kernel
theorem dX11_own_16 : decode cX11_own 16 = .ok (.invokevirtual 155, 3) := by decide +kernel
theorem dX11_own_19 : decode cX11_own 19 = .ok (.ifCond .ne 10, 3) := by decide +kernel
theorem dX11_own_22 : decode cX11_own 22 = .ok (.aload_n 0, 1) := by decide +kernel
theorem dX11_own_23 : decode cX11_own 23 = .ok (.bipush (-2), 2) := by decide +kernel
theorem dX11_own_25 : decode cX11_own 25 = .ok (.invokevirtual 77, 3) := by decide +kernel
theorem dX11_own_28 : decode cX11_own 28 = .ok (.ireturn, 1) := by decide +kernel
theorem dX11_own_29 : decode cX11_own 29 = .ok (.iconst 0, 1) := by decide +kernel
theorem dX11_own_30 : decode cX11_own 30 = .ok (.istore_n 3, 1) := by decide +kernel
theorem dX11_own_31 : decode cX11_own 31 = .ok (.iconst 0, 1) := by decide +kernel
theorem dX11_own_32 : decode cX11_own 32 = .ok (.istore 4, 2) := by decide +kernel
theorem dX11_own_34 : decode cX11_own 34 = .ok (.iload 4, 2) := by decide +kernel
theorem dX11_own_36 : decode cX11_own 36 = .ok (.aload_n 0, 1) := by decide +kernel
theorem dX11_own_37 : decode cX11_own 37 = .ok (.getfield 19, 3) := by decide +kernel
theorem dX11_own_40 : decode cX11_own 40 = .ok (.invokevirtual 110, 3) := by decide +kernel
theorem dX11_own_43 : decode cX11_own 43 = .ok (.if_icmp .ge 28, 3) := by decide +kernel
theorem dX11_own_46 : decode cX11_own 46 = .ok (.iload 4, 2) := by decide +kernel
theorem dX11_own_48 : decode cX11_own 48 = .ok (.iload_n 1, 1) := by decide +kernel
theorem dX11_own_49 : decode cX11_own 49 = .ok (.if_icmp .eq 16, 3) := by decide +kernel
theorem dX11_own_52 : decode cX11_own 52 = .ok (.iload_n 3, 1) := by decide +kernel
theorem dX11_own_53 : decode cX11_own 53 = .ok (.aload_n 0, 1) := by decide +kernel
theorem dX11_own_54 : decode cX11_own 54 = .ok (.getfield 19, 3) := by decide +kernel
theorem dX11_own_57 : decode cX11_own 57 = .ok (.iload 4, 2) := by decide +kernel
theorem dX11_own_59 : decode cX11_own 59 = .ok (.iload_n 2, 1) := by decide +kernel
theorem dX11_own_60 : decode cX11_own 60 = .ok (.invokevirtual 205, 3) := by decide +kernel
theorem dX11_own_63 : decode cX11_own 63 = .ok (.ior, 1) := by decide +kernel
theorem dX11_own_64 : decode cX11_own 64 = .ok (.istore_n 3, 1) := by decide +kernel
theorem dX11_own_65 : decode cX11_own 65 = .ok (.iinc 4 1, 3) := by decide +kernel
theorem dX11_own_68 : decode cX11_own 68 = .ok (.goto (-34), 3) := by decide +kernel
theorem dX11_own_71 : decode cX11_own 71 = .ok (.aload_n 0, 1) := by decide +kernel
theorem dX11_own_72 : decode cX11_own 72 = .ok (.getfield 19, 3) := by decide +kernel
theorem dX11_own_75 : decode cX11_own 75 = .ok (.iload_n 1, 1) := by decide +kernel
theorem dX11_own_76 : decode cX11_own 76 = .ok (.iload_n 2, 1) := by decide +kernel
theorem dX11_own_77 : decode cX11_own 77 = .ok (.invokevirtual 205, 3) := by decide +kernel
theorem dX11_own_80 : decode cX11_own 80 = .ok (.iload_n 3, 1) := by decide +kernel
theorem dX11_own_81 : decode cX11_own 81 = .ok (.iconst (-1), 1) := by decide +kernel
theorem dX11_own_82 : decode cX11_own 82 = .ok (.ixor, 1) := by decide +kernel
theorem dX11_own_83 : decode cX11_own 83 = .ok (.iand, 1) := by decide +kernel
theorem dX11_own_84 : decode cX11_own 84 = .ok (.ireturn, 1) := by decide +kernel
set_option maxHeartbeats 4000000 in
set_option maxRecDepth 100000 in
theorem ctX11_bad (l : Launch) (E : VE) (a : Nat → Nat → Nat) (x1 : Int32) (t : Nat → St)  {Post : Int32 → (Nat → St) → Prop} (hw : wpX11_bad x1 t Post) (sz : Nat) : Met l yX11_bad (mW yX11_bad cX11_bad 2 (some .int)) rmX11_bad (CPre E [.ref (a 0 0), .int x1] sz (wBig E a t)) (CQi E Post (fun u => wBig E a u) (wBig E a t) sz) 0 0 (va_A (wBig E a t) sz) := by
  refine v_met (by decide) (Nat.le_of_ble_eq_true rfl) ?_
  intro pr e s m below meth c A hsz hA C
  subst hsz
  refine v_aload_n (pc := 0) C 0 rfl rfl dX11_bad_0 ?_
  refine v_dup (pc := 1) C rfl dX11_bad_1 ?_
  refine v_get (pc := 2) C cfX11 rfl 0 12 rfl (by decide) wfX11_68 rfl dX11_bad_2 ?_
  refine v_iconst (pc := 5) C 1 ki_1 dX11_bad_5 ?_
  refine v_iadd (pc := 6) C dX11_bad_6 ?_
  obtain ⟨t1, es⟩ : ∃ y : Nat → St, y = upS t 0 ((t 0).sI 12 (((t 0).I 12) + 1)) := ⟨_, rfl⟩
  have hw := hw t1 es
  refine v_put (pc := 7) C cfX11 rfl 0 12 (ty := .int) (w' := (wBig E a t1)) rfl (by subst es; rfl) (by decide) wfX11_68 rfl rfl rfl rfl (Nat.le_of_ble_eq_true rfl) dX11_bad_7 ?_
  refine v_iload_n (pc := 10) C 1 rfl rfl dX11_bad_10 ?_
  exact v_ireti (pc := 11) C t1 hA rfl hw dX11_bad_11
set_option maxHeartbeats 4000000 in
set_option maxRecDepth 100000 in
theorem vjX11_pad_11 (C : VC pr s m args meth c E A cX11_pad 3 (some .int) RX11) (hA : va_A w0 s.heap.size = A) (a : Nat → Nat → Nat)  {Post : Int32 → (Nat → St) → Prop} (t : Nat → St) (hw : wjX11_pad_11  Post t) : V pr l e rmX11_pad s m args below meth c E A 3 0 0 (MQ below (CQi E Post (fun u => wBig E a u) w0 s.heap.size) args s 0 0 A) (wBig E a t) 11 [(0, .ref (a 0 0))] [] := by
  refine v_aload_n (pc := 11) C 0 rfl rfl dX11_pad_11 ?_
  refine v_bipush (pc := 12) C (-2) kb_m2 dX11_pad_12 ?_
  refine v_goAi (pc := 14) C (wc' := (fun (u : (Nat → St)) => (wBig E a u))) (fun _ => rfl) (v_runVA (pc := 14) C [.int (-2)] [] (fun sz => ctX11_bad l E a (-2) t hw sz) mfX11_bad mvX11_bad wmX11_77 rfl ⟨Nat.le_of_ble_eq_true rfl, Nat.le_of_ble_eq_true rfl⟩ ⟨rfl, rfl⟩ 0 (ci := 11) (qc := (RX11, TX11, 15)) rfl rfl rfl rfl (Nat.le_of_ble_eq_true rfl) ⟨Nat.zero_le _, Nat.zero_le _⟩ dX11_pad_14) (fun r1 t2 hw => ?_)
  exact v_ireti (pc := 17) C t2 hA rfl hw dX11_pad_17
set_option maxHeartbeats 4000000 in
set_option maxRecDepth 100000 in
theorem ctX11_pad (l : Launch) (E : VE) (a : Nat → Nat → Nat) (x1 : Int32) (t : Nat → St)  {Post : Int32 → (Nat → St) → Prop} (hw : wpX11_pad x1 t Post) (sz : Nat) : Met l yX11_pad (mW yX11_pad cX11_pad 3 (some .int)) rmX11_pad (CPre E [.ref (a 0 0), .int x1] sz (wBig E a t)) (CQi E Post (fun u => wBig E a u) (wBig E a t) sz) 0 0 (va_A (wBig E a t) sz) := by
  refine v_met (by decide) (Nat.le_of_ble_eq_true rfl) ?_
  intro pr e s m below meth c A hsz hA C
  subst hsz
  refine v_iload_n (pc := 0) C 1 rfl rfl dX11_pad_0 ?_
  refine v_iconst (pc := 1) C 1 ki_1 dX11_pad_1 ?_
  refine v_icmp_lt (pc := 2) C 11 (by decide) dX11_pad_2 (fun hc => ?_) (fun hc => ?_)
  · have hw := hw.1 hc
    refine v_sub (lv' := [(0, .ref (a 0 0))]) [0] rfl ?_
    exact vjX11_pad_11 C hA a  t hw
  · have hw := hw.2 hc
    refine v_iload_n (pc := 5) C 1 rfl rfl dX11_pad_5 ?_
    refine v_bipush (pc := 6) C 6 kb_6 dX11_pad_6 ?_
    refine v_icmp_le (pc := 8) C 18 (by decide) dX11_pad_8 (fun hc => ?_) (fun hc => ?_)
    · have hw := hw.1 hc
      refine v_aload_n (pc := 18) C 0 rfl rfl dX11_pad_18 ?_
      refine v_get (pc := 19) C cfX11 rfl 0 1 rfl (by decide) wfX11_19 rfl dX11_pad_19 ?_
      refine v_getN (pc := 22) C cfX4 rfl 10 3 rfl (by decide) wfX11_81 rfl dX11_pad_22 ?_
      refine v_topi (fun x2_3 ex => ?_)
      have hw := hw x2_3 ex
      refine v_istore_n (pc := 25) C [(2, .int x2_3), (0, .ref (a 0 0)), (1, .int x1)] rfl rfl (by decide) dX11_pad_25 ?_
      refine v_aload_n (pc := 26) C 1 rfl rfl dX11_pad_26 ?_
      refine v_get (pc := 27) C cfX11 rfl 0 1 rfl (by decide) wfX11_19 rfl dX11_pad_27 ?_
      refine v_iload_n (pc := 30) C 2 rfl rfl dX11_pad_30 ?_
      refine v_goBv (pc := 31) C (bs := (bsBig E a t)) (cs := [bPad E (a 2) (t 2)]) (cs' := (fun (u : St) => [bPad E (a 2) u])) (bs' := (fun (u : St) => (bsBig E a (upS t 2 u)))) (w' := (fun (u : St) => (wBig E a (upS t 2 u)))) [2] (wBig_fl E a t) rfl (fun _ => rfl) (fun _ => rfl) (fun _ => (wBig_fl _ _ _).symm) (v_runVB (pc := 31) C [.int x1] [] (fun sz => ctX4_beginAnew l E (a 2) x1 (t 2) hw sz) [2] (wBig_fl E a t) rfl rfl mfX4_beginAnew mvX4_beginAnew wmX11_84 rfl ⟨Nat.le_of_ble_eq_true rfl, Nat.le_of_ble_eq_true rfl⟩ ⟨rfl, rfl⟩ 10 (ci := 4) (qc := (RX4, TX4, 12)) rfl rfl rfl rfl (Nat.le_of_ble_eq_true rfl) ⟨Nat.zero_le _, Nat.zero_le _⟩ dX11_pad_31) (fun p4 hw => ?_)
      obtain ⟨t5, et⟩ : ∃ y : Nat → St, y = upS t 2 p4 := ⟨_, rfl⟩
      have hw := hw t5 et
      refine v_w (w' := wBig E a t5) (by subst et; rfl) ?_
      refine v_iload_n (pc := 34) C 0 rfl rfl dX11_pad_34 ?_
      exact v_ireti (pc := 35) C t5 hA rfl hw dX11_pad_35
    · have hw := hw.2 hc
      refine v_sub (lv' := [(0, .ref (a 0 0))]) [0] rfl ?_
      exact vjX11_pad_11 C hA a  t hw
set_option maxHeartbeats 4000000 in
set_option maxRecDepth 100000 in
theorem ctX11_carbons (l : Launch) (E : VE) (a : Nat → Nat → Nat) (x1 : Int32) (t : Nat → St)  {Post : Int32 → (Nat → St) → Prop} (hw : wpX11_carbons x1 t Post) (sz : Nat) : Met l yX11_carbons (mW yX11_carbons cX11_carbons 3 (some .int)) rmX11_carbons (CPre E [.ref (a 0 0), .int x1] sz (wBig E a t)) (CQi E Post (fun u => wBig E a u) (wBig E a t) sz) 0 0 (va_A (wBig E a t) sz) := by
  refine v_met (by decide) (Nat.le_of_ble_eq_true rfl) ?_
  intro pr e s m below meth c A hsz hA C
  subst hsz
  refine v_aload_n (pc := 0) C 0 rfl rfl dX11_carbons_0 ?_
  refine v_get (pc := 1) C cfX11 rfl 0 1 rfl (by decide) wfX11_19 rfl dX11_carbons_1 ?_
  refine v_iload_n (pc := 4) C 1 rfl rfl dX11_carbons_4 ?_
  refine v_goBi (pc := 5) C (bs := (bsBig E a t)) (cs := [bPad E (a 2) (t 2)]) (cs' := (fun (_ : Unit) => [bPad E (a 2) (t 2)])) (bs' := (fun (_ : Unit) => (bsBig E a t))) (w' := (fun (_ : Unit) => (wBig E a t))) [2] (wBig_fl E a t) rfl (fun _ => rfl) (fun _ => rfl) (fun _ => (wBig_fl _ _ _).symm) (v_runVB (pc := 5) C [.int x1] [] (fun sz => ctX4_hasSheets l E (a 2) x1 (t 2) hw sz) [2] (wBig_fl E a t) rfl rfl mfX4_hasSheets mvX4_hasSheets wmX11_88 rfl ⟨Nat.le_of_ble_eq_true rfl, Nat.le_of_ble_eq_true rfl⟩ ⟨rfl, rfl⟩ 10 (ci := 4) (qc := (RX4, TX4, 12)) rfl rfl rfl rfl (Nat.le_of_ble_eq_true rfl) ⟨Nat.zero_le _, Nat.zero_le _⟩ dX11_carbons_5) (fun r1 _ hw => ?_)
  refine v_if_ne (pc := 8) C 18 (by decide) dX11_carbons_8 (fun hc => ?_) (fun hc => ?_)
  · have hw := hw.1 hc
    refine v_aload_n (pc := 18) C 0 rfl rfl dX11_carbons_18 ?_
    refine v_get (pc := 19) C cfX11 rfl 0 1 rfl (by decide) wfX11_19 rfl dX11_carbons_19 ?_
    refine v_getN (pc := 22) C cfX4 rfl 10 4 rfl (by decide) wfX11_92 rfl dX11_carbons_22 ?_
    refine v_topi (fun x2_2 ex => ?_)
    have hw := hw x2_2 ex
    refine v_istore_n (pc := 25) C [(2, .int x2_2), (0, .ref (a 0 0)), (1, .int x1)] rfl rfl (by decide) dX11_carbons_25 ?_
    refine v_aload_n (pc := 26) C 1 rfl rfl dX11_carbons_26 ?_
    refine v_get (pc := 27) C cfX11 rfl 0 1 rfl (by decide) wfX11_19 rfl dX11_carbons_27 ?_
    refine v_iload_n (pc := 30) C 2 rfl rfl dX11_carbons_30 ?_
    obtain ⟨t3, es⟩ : ∃ y : Nat → St, y = upS t 2 ((t 2).sI 4 x1) := ⟨_, rfl⟩
    have hw := hw t3 es
    refine v_putN (pc := 31) C cfX4 rfl 10 4 (ty := .int) (w' := (wBig E a t3)) rfl (by subst es; rfl) (by decide) wfX11_92 rfl rfl rfl rfl (Nat.le_of_ble_eq_true rfl) dX11_carbons_31 ?_
    refine v_iload_n (pc := 34) C 0 rfl rfl dX11_carbons_34 ?_
    exact v_ireti (pc := 35) C t3 hA rfl hw dX11_carbons_35
  · have hw := hw.2 hc
    refine v_aload_n (pc := 11) C 0 rfl rfl dX11_carbons_11 ?_
    refine v_bipush (pc := 12) C (-2) kb_m2 dX11_carbons_12 ?_
    refine v_goAi (pc := 14) C (wc' := (fun (u : (Nat → St)) => (wBig E a u))) (fun _ => rfl) (v_runVA (pc := 14) C [.int (-2)] [] (fun sz => ctX11_bad l E a (-2) t hw sz) mfX11_bad mvX11_bad wmX11_77 rfl ⟨Nat.le_of_ble_eq_true rfl, Nat.le_of_ble_eq_true rfl⟩ ⟨rfl, rfl⟩ 0 (ci := 11) (qc := (RX11, TX11, 15)) rfl rfl rfl rfl (Nat.le_of_ble_eq_true rfl) ⟨Nat.zero_le _, Nat.zero_le _⟩ dX11_carbons_14) (fun r4 t5 hw => ?_)
    exact v_ireti (pc := 17) C t5 hA rfl hw dX11_carbons_17
set_option maxHeartbeats 4000000 in
set_option maxRecDepth 100000 in
theorem ctX11_isPen (l : Launch) (E : VE)  (x0 : Int32) (x1 : Int32)   {Post : Int32 → Prop} (hw : wpX11_isPen x0 x1 Post) (sz : Nat) : Met l yX11_isPen (mW yX11_isPen cX11_isPen 2 (some .boolean)) rmX11_isPen (CPre E [.int x0, .int x1] sz (fl [])) (CQi E (fun (z : Int32) (_ : Unit) => Post z) (fun _ => (fl [])) (fl []) sz) 0 0 (va_A (fl []) sz) := by
  refine v_met (by decide) (Nat.le_of_ble_eq_true rfl) ?_
  intro pr e s m below meth c A hsz hA C
  subst hsz
  refine v_iload_n (pc := 0) C 0 rfl rfl dX11_isPen_0 ?_
  refine v_if_lt (pc := 1) C 25 (by decide) dX11_isPen_1 (fun hc => ?_) (fun hc => ?_)
  · have hw := hw.1 hc
    refine v_iconst (pc := 25) C 0 ki_0 dX11_isPen_25 ?_
    exact v_iretz (pc := 26) C rfl () hA rfl hw dX11_isPen_26
  · have hw := hw.2 hc
    refine v_iload_n (pc := 4) C 0 rfl rfl dX11_isPen_4 ?_
    refine v_bipush (pc := 5) C 6 kb_6 dX11_isPen_5 ?_
    refine v_icmp_ge (pc := 7) C 25 (by decide) dX11_isPen_7 (fun hc => ?_) (fun hc => ?_)
    · have hw := hw.1 hc
      refine v_iconst (pc := 25) C 0 ki_0 dX11_isPen_25 ?_
      exact v_iretz (pc := 26) C rfl () hA rfl hw dX11_isPen_26
    · have hw := hw.2 hc
      refine v_iload_n (pc := 10) C 1 rfl rfl dX11_isPen_10 ?_
      refine v_iconst (pc := 11) C 1 ki_1 dX11_isPen_11 ?_
      refine v_icmp_lt (pc := 12) C 25 (by decide) dX11_isPen_12 (fun hc => ?_) (fun hc => ?_)
      · have hw := hw.1 hc
        refine v_iconst (pc := 25) C 0 ki_0 dX11_isPen_25 ?_
        exact v_iretz (pc := 26) C rfl () hA rfl hw dX11_isPen_26
      · have hw := hw.2 hc
        refine v_iload_n (pc := 15) C 1 rfl rfl dX11_isPen_15 ?_
        refine v_bipush (pc := 16) C 9 kb_9 dX11_isPen_16 ?_
        refine v_icmp_gt (pc := 18) C 25 (by decide) dX11_isPen_18 (fun hc => ?_) (fun hc => ?_)
        · have hw := hw.1 hc
          refine v_iconst (pc := 25) C 0 ki_0 dX11_isPen_25 ?_
          exact v_iretz (pc := 26) C rfl () hA rfl hw dX11_isPen_26
        · have hw := hw.2 hc
          refine v_iconst (pc := 21) C 1 ki_1 dX11_isPen_21 ?_
          refine v_goto (pc := 22) C 26 (by decide) dX11_isPen_22 ?_
          exact v_iretz (pc := 26) C rfl () hA rfl hw dX11_isPen_26
set_option maxHeartbeats 4000000 in
set_option maxRecDepth 100000 in
theorem ctX11_isCells (l : Launch) (E : VE)  (x0 : Int32)   {Post : Int32 → Prop} (hw : wpX11_isCells x0 Post) (sz : Nat) : Met l yX11_isCells (mW yX11_isCells cX11_isCells 1 (some .boolean)) rmX11_isCells (CPre E [.int x0] sz (fl [])) (CQi E (fun (z : Int32) (_ : Unit) => Post z) (fun _ => (fl [])) (fl []) sz) 0 0 (va_A (fl []) sz) := by
  refine v_met (by decide) (Nat.le_of_ble_eq_true rfl) ?_
  intro pr e s m below meth c A hsz hA C
  subst hsz
  refine v_iload_n (pc := 0) C 0 rfl rfl dX11_isCells_0 ?_
  refine v_if_lt (pc := 1) C 15 (by decide) dX11_isCells_1 (fun hc => ?_) (fun hc => ?_)
  · have hw := hw.1 hc
    refine v_iconst (pc := 15) C 0 ki_0 dX11_isCells_15 ?_
    exact v_iretz (pc := 16) C rfl () hA rfl hw dX11_isCells_16
  · have hw := hw.2 hc
    refine v_iload_n (pc := 4) C 0 rfl rfl dX11_isCells_4 ?_
    refine v_sipush (pc := 5) C 4096 ks_4096 dX11_isCells_5 ?_
    refine v_icmp_ge (pc := 8) C 15 (by decide) dX11_isCells_8 (fun hc => ?_) (fun hc => ?_)
    · have hw := hw.1 hc
      refine v_iconst (pc := 15) C 0 ki_0 dX11_isCells_15 ?_
      exact v_iretz (pc := 16) C rfl () hA rfl hw dX11_isCells_16
    · have hw := hw.2 hc
      refine v_iconst (pc := 11) C 1 ki_1 dX11_isCells_11 ?_
      refine v_goto (pc := 12) C 16 (by decide) dX11_isCells_12 ?_
      exact v_iretz (pc := 16) C rfl () hA rfl hw dX11_isCells_16
set_option maxHeartbeats 4000000 in
set_option maxRecDepth 100000 in
theorem ctX11_no (l : Launch) (E : VE) (a : Nat → Nat → Nat)  (t : Nat → St)  {Post : Int32 → (Nat → St) → Prop} (hw : wpX11_no t Post) (sz : Nat) : Met l yX11_no (mW yX11_no cX11_no 1 (some .int)) rmX11_no (CPre E [.ref (a 0 0)] sz (wBig E a t)) (CQi E Post (fun u => wBig E a u) (wBig E a t) sz) 0 0 (va_A (wBig E a t) sz) := by
  refine v_met (by decide) (Nat.le_of_ble_eq_true rfl) ?_
  intro pr e s m below meth c A hsz hA C
  subst hsz
  refine v_aload_n (pc := 0) C 0 rfl rfl dX11_no_0 ?_
  refine v_dup (pc := 1) C rfl dX11_no_1 ?_
  refine v_get (pc := 2) C cfX11 rfl 0 13 rfl (by decide) wfX11_71 rfl dX11_no_2 ?_
  refine v_iconst (pc := 5) C 1 ki_1 dX11_no_5 ?_
  refine v_iadd (pc := 6) C dX11_no_6 ?_
  obtain ⟨t1, es⟩ : ∃ y : Nat → St, y = upS t 0 ((t 0).sI 13 (((t 0).I 13) + 1)) := ⟨_, rfl⟩
  have hw := hw t1 es
  refine v_put (pc := 7) C cfX11 rfl 0 13 (ty := .int) (w' := (wBig E a t1)) rfl (by subst es; rfl) (by decide) wfX11_71 rfl rfl rfl rfl (Nat.le_of_ble_eq_true rfl) dX11_no_7 ?_
  refine v_bipush (pc := 10) C (-3) kb_m3 dX11_no_10 ?_
  exact v_ireti (pc := 12) C t1 hA rfl hw dX11_no_12
set_option maxHeartbeats 4000000 in
set_option maxRecDepth 100000 in
theorem ctX11_full (l : Launch) (E : VE) (a : Nat → Nat → Nat)  (t : Nat → St)  {Post : Int32 → (Nat → St) → Prop} (hw : wpX11_full t Post) (sz : Nat) : Met l yX11_full (mW yX11_full cX11_full 1 (some .int)) rmX11_full (CPre E [.ref (a 0 0)] sz (wBig E a t)) (CQi E Post (fun u => wBig E a u) (wBig E a t) sz) 0 0 (va_A (wBig E a t) sz) := by
  refine v_met (by decide) (Nat.le_of_ble_eq_true rfl) ?_
  intro pr e s m below meth c A hsz hA C
  subst hsz
  refine v_aload_n (pc := 0) C 0 rfl rfl dX11_full_0 ?_
  refine v_dup (pc := 1) C rfl dX11_full_1 ?_
  refine v_get (pc := 2) C cfX11 rfl 0 14 rfl (by decide) wfX11_74 rfl dX11_full_2 ?_
  refine v_iconst (pc := 5) C 1 ki_1 dX11_full_5 ?_
  refine v_iadd (pc := 6) C dX11_full_6 ?_
  obtain ⟨t1, es⟩ : ∃ y : Nat → St, y = upS t 0 ((t 0).sI 14 (((t 0).I 14) + 1)) := ⟨_, rfl⟩
  have hw := hw t1 es
  refine v_put (pc := 7) C cfX11 rfl 0 14 (ty := .int) (w' := (wBig E a t1)) rfl (by subst es; rfl) (by decide) wfX11_74 rfl rfl rfl rfl (Nat.le_of_ble_eq_true rfl) dX11_full_7 ?_
  refine v_bipush (pc := 10) C (-4) kb_m4 dX11_full_10 ?_
  exact v_ireti (pc := 12) C t1 hA rfl hw dX11_full_12
set_option maxHeartbeats 4000000 in
set_option maxRecDepth 100000 in
theorem vjX11_write_15 (C : VC pr s m args meth c E A cX11_write 4 (some .int) RX11) (hA : va_A w0 s.heap.size = A) (a : Nat → Nat → Nat)  {Post : Int32 → (Nat → St) → Prop} (t : Nat → St) (hw : wjX11_write_15  Post t) : V pr l e rmX11_write s m args below meth c E A 4 0 0 (MQ below (CQi E Post (fun u => wBig E a u) w0 s.heap.size) args s 0 0 A) (wBig E a t) 15 [(0, .ref (a 0 0))] [] := by
  refine v_aload_n (pc := 15) C 0 rfl rfl dX11_write_15 ?_
  refine v_bipush (pc := 16) C (-2) kb_m2 dX11_write_16 ?_
  refine v_goAi (pc := 18) C (wc' := (fun (u : (Nat → St)) => (wBig E a u))) (fun _ => rfl) (v_runVA (pc := 18) C [.int (-2)] [] (fun sz => ctX11_bad l E a (-2) t hw sz) mfX11_bad mvX11_bad wmX11_77 rfl ⟨Nat.le_of_ble_eq_true rfl, Nat.le_of_ble_eq_true rfl⟩ ⟨rfl, rfl⟩ 0 (ci := 11) (qc := (RX11, TX11, 15)) rfl rfl rfl rfl (Nat.le_of_ble_eq_true rfl) ⟨Nat.zero_le _, Nat.zero_le _⟩ dX11_write_18) (fun r2 t3 hw => ?_)
  exact v_ireti (pc := 21) C t3 hA rfl hw dX11_write_21
set_option maxHeartbeats 4000000 in
set_option maxRecDepth 100000 in
theorem ctX11_write (l : Launch) (E : VE) (a : Nat → Nat → Nat) (x1 : Int32) (x2 : Int32) (x3 : Int32) (t : Nat → St)  {Post : Int32 → (Nat → St) → Prop} (hw : wpX11_write x1 x2 x3 t Post) (sz : Nat) : Met l yX11_write (mW yX11_write cX11_write 4 (some .int)) rmX11_write (CPre E [.ref (a 0 0), .int x1, .int x2, .int x3] sz (wBig E a t)) (CQi E Post (fun u => wBig E a u) (wBig E a t) sz) 0 0 (va_A (wBig E a t) sz) := by
  refine v_met (by decide) (Nat.le_of_ble_eq_true rfl) ?_
  intro pr e s m below meth c A hsz hA C
  subst hsz
  refine v_iload_n (pc := 0) C 1 rfl rfl dX11_write_0 ?_
  refine v_iload_n (pc := 1) C 2 rfl rfl dX11_write_1 ?_
  refine v_goBi (pc := 2) C (bs := (bsBig E a t)) (cs := []) (cs' := (fun (_ : Unit) => [])) (bs' := (fun (_ : Unit) => (bsBig E a t))) (w' := (fun (_ : Unit) => (wBig E a t))) [] (wBig_fl E a t) rfl (fun _ => rfl) (fun _ => rfl) (fun _ => (wBig_fl _ _ _).symm) (v_runSB (pc := 2) C [.int x1, .int x2] [] (fun sz => ctX11_isPen l E x1 x2 hw sz) [] (wBig_fl E a t) rfl rfl mfX11_isPen msX11_isPen wmX11_95 rfl ⟨Nat.le_of_ble_eq_true rfl, Nat.le_of_ble_eq_true rfl⟩ ⟨rfl, rfl⟩ rfl (Nat.le_of_ble_eq_true rfl) ⟨Nat.zero_le _, Nat.zero_le _⟩ dX11_write_2) (fun r1 _ hw => ?_)
  refine v_if_eq (pc := 5) C 15 (by decide) dX11_write_5 (fun hc => ?_) (fun hc => ?_)
  · have hw := hw.1 hc
    refine v_sub (lv' := [(0, .ref (a 0 0))]) [0] rfl ?_
    exact vjX11_write_15 C hA a  t hw
  · have hw := hw.2 hc
    refine v_iload_n (pc := 8) C 3 rfl rfl dX11_write_8 ?_
    refine v_goBi (pc := 9) C (bs := (bsBig E a t)) (cs := []) (cs' := (fun (_ : Unit) => [])) (bs' := (fun (_ : Unit) => (bsBig E a t))) (w' := (fun (_ : Unit) => (wBig E a t))) [] (wBig_fl E a t) rfl (fun _ => rfl) (fun _ => rfl) (fun _ => (wBig_fl _ _ _).symm) (v_runSB (pc := 9) C [.int x3] [] (fun sz => ctX11_isCells l E x3 hw sz) [] (wBig_fl E a t) rfl rfl mfX11_isCells msX11_isCells wmX11_99 rfl ⟨Nat.le_of_ble_eq_true rfl, Nat.le_of_ble_eq_true rfl⟩ ⟨rfl, rfl⟩ rfl (Nat.le_of_ble_eq_true rfl) ⟨Nat.zero_le _, Nat.zero_le _⟩ dX11_write_9) (fun r4 _ hw => ?_)
    refine v_if_ne (pc := 12) C 22 (by decide) dX11_write_12 (fun hc => ?_) (fun hc => ?_)
    · have hw := hw.1 hc
      refine v_aload_n (pc := 22) C 0 rfl rfl dX11_write_22 ?_
      refine v_get (pc := 23) C cfX11 rfl 0 1 rfl (by decide) wfX11_19 rfl dX11_write_23 ?_
      refine v_goBi (pc := 26) C (bs := (bsBig E a t)) (cs := [bPad E (a 2) (t 2)]) (cs' := (fun (_ : Unit) => [bPad E (a 2) (t 2)])) (bs' := (fun (_ : Unit) => (bsBig E a t))) (w' := (fun (_ : Unit) => (wBig E a t))) [2] (wBig_fl E a t) rfl (fun _ => rfl) (fun _ => rfl) (fun _ => (wBig_fl _ _ _).symm) (v_runVB (pc := 26) C [] [] (fun sz => ctX4_isUsedUp l E (a 2) (t 2) hw sz) [2] (wBig_fl E a t) rfl rfl mfX4_isUsedUp mvX4_isUsedUp wmX11_102 rfl ⟨Nat.le_of_ble_eq_true rfl, Nat.le_of_ble_eq_true rfl⟩ ⟨rfl, rfl⟩ 10 (ci := 4) (qc := (RX4, TX4, 12)) rfl rfl rfl rfl (Nat.le_of_ble_eq_true rfl) ⟨Nat.zero_le _, Nat.zero_le _⟩ dX11_write_26) (fun r5 _ hw => ?_)
      refine v_if_eq (pc := 29) C 37 (by decide) dX11_write_29 (fun hc => ?_) (fun hc => ?_)
      · have hw := hw.1 hc
        refine v_aload_n (pc := 37) C 0 rfl rfl dX11_write_37 ?_
        refine v_get (pc := 38) C cfX11 rfl 0 1 rfl (by decide) wfX11_19 rfl dX11_write_38 ?_
        refine v_goBi (pc := 41) C (bs := (bsBig E a t)) (cs := [bPad E (a 2) (t 2)]) (cs' := (fun (_ : Unit) => [bPad E (a 2) (t 2)])) (bs' := (fun (_ : Unit) => (bsBig E a t))) (w' := (fun (_ : Unit) => (wBig E a t))) [2] (wBig_fl E a t) rfl (fun _ => rfl) (fun _ => rfl) (fun _ => (wBig_fl _ _ _).symm) (v_runVB (pc := 41) C [] [] (fun sz => ctX4_noteCount l E (a 2) (t 2) hw sz) [2] (wBig_fl E a t) rfl rfl mfX4_noteCount mvX4_noteCount wmX11_110 rfl ⟨Nat.le_of_ble_eq_true rfl, Nat.le_of_ble_eq_true rfl⟩ ⟨rfl, rfl⟩ 10 (ci := 4) (qc := (RX4, TX4, 12)) rfl rfl rfl rfl (Nat.le_of_ble_eq_true rfl) ⟨Nat.zero_le _, Nat.zero_le _⟩ dX11_write_41) (fun r6 _ hw => ?_)
        refine v_bipush (pc := 44) C 10 kb_10 dX11_write_44 ?_
        refine v_icmp_lt (pc := 46) C 54 (by decide) dX11_write_46 (fun hc => ?_) (fun hc => ?_)
        · have hw := hw.1 hc
          refine v_aload_n (pc := 54) C 0 rfl rfl dX11_write_54 ?_
          refine v_get (pc := 55) C cfX11 rfl 0 1 rfl (by decide) wfX11_19 rfl dX11_write_55 ?_
          refine v_goBv (pc := 58) C (bs := (bsBig E a t)) (cs := [bPad E (a 2) (t 2)]) (cs' := (fun (u : St) => [bPad E (a 2) u])) (bs' := (fun (u : St) => (bsBig E a (upS t 2 u)))) (w' := (fun (u : St) => (wBig E a (upS t 2 u)))) [2] (wBig_fl E a t) rfl (fun _ => rfl) (fun _ => rfl) (fun _ => (wBig_fl _ _ _).symm) (v_runVB (pc := 58) C [] [] (fun sz => ctX4_keepForUndo l E (a 2) (t 2) hw sz) [2] (wBig_fl E a t) rfl rfl mfX4_keepForUndo mvX4_keepForUndo wmX11_116 rfl ⟨Nat.le_of_ble_eq_true rfl, Nat.le_of_ble_eq_true rfl⟩ ⟨rfl, rfl⟩ 10 (ci := 4) (qc := (RX4, TX4, 12)) rfl rfl rfl rfl (Nat.le_of_ble_eq_true rfl) ⟨Nat.zero_le _, Nat.zero_le _⟩ dX11_write_58) (fun p7 hw => ?_)
          obtain ⟨t8, et⟩ : ∃ y : Nat → St, y = upS t 2 p7 := ⟨_, rfl⟩
          have hw := hw t8 et
          refine v_w (w' := wBig E a t8) (by subst et; rfl) ?_
          refine v_aload_n (pc := 61) C 0 rfl rfl dX11_write_61 ?_
          refine v_get (pc := 62) C cfX11 rfl 0 1 rfl (by decide) wfX11_19 rfl dX11_write_62 ?_
          refine v_aload_n (pc := 65) C 0 rfl rfl dX11_write_65 ?_
          refine v_get (pc := 66) C cfX11 rfl 0 0 rfl (by decide) wfX11_12 rfl dX11_write_66 ?_
          refine v_iload_n (pc := 69) C 1 rfl rfl dX11_write_69 ?_
          refine v_iload_n (pc := 70) C 2 rfl rfl dX11_write_70 ?_
          refine v_iload_n (pc := 71) C 3 rfl rfl dX11_write_71 ?_
          refine v_goBi (pc := 72) C (bs := (bsBig E a t8)) (cs := [bPad E (a 2) (t8 2), bBox E (a 1)]) (cs' := (fun (u : St) => [bPad E (a 2) u, bBox E (a 1)])) (bs' := (fun (u : St) => (bsBig E a (upS t8 2 u)))) (w' := (fun (u : St) => (wBig E a (upS t8 2 u)))) [2, 1] (wBig_fl E a t8) rfl (fun _ => rfl) (fun _ => rfl) (fun _ => (wBig_fl _ _ _).symm) (v_runVB (pc := 72) C [.ref (a 1 0), .int x1, .int x2, .int x3] [] (fun sz => ctX4_putNote l E (a 2) (a 1) x1 x2 x3 (t8 2) hw sz) [2, 1] (wBig_fl E a t8) rfl rfl mfX4_putNote mvX4_putNote wmX11_119 rfl ⟨Nat.le_of_ble_eq_true rfl, Nat.le_of_ble_eq_true rfl⟩ ⟨rfl, rfl⟩ 10 (ci := 4) (qc := (RX4, TX4, 12)) rfl rfl rfl rfl (Nat.le_of_ble_eq_true rfl) ⟨Nat.zero_le _, Nat.zero_le _⟩ dX11_write_72) (fun r9 p10 hw => ?_)
          obtain ⟨t11, et⟩ : ∃ y : Nat → St, y = upS t8 2 p10 := ⟨_, rfl⟩
          have hw := hw t11 et
          refine v_w (w' := wBig E a t11) (by subst et; rfl) ?_
          exact v_ireti (pc := 75) C t11 hA rfl hw dX11_write_75
        · have hw := hw.2 hc
          refine v_aload_n (pc := 49) C 0 rfl rfl dX11_write_49 ?_
          refine v_goAi (pc := 50) C (wc' := (fun (u : (Nat → St)) => (wBig E a u))) (fun _ => rfl) (v_runVA (pc := 50) C [] [] (fun sz => ctX11_full l E a t hw sz) mfX11_full mvX11_full wmX11_113 rfl ⟨Nat.le_of_ble_eq_true rfl, Nat.le_of_ble_eq_true rfl⟩ ⟨rfl, rfl⟩ 0 (ci := 11) (qc := (RX11, TX11, 15)) rfl rfl rfl rfl (Nat.le_of_ble_eq_true rfl) ⟨Nat.zero_le _, Nat.zero_le _⟩ dX11_write_50) (fun r12 t13 hw => ?_)
          exact v_ireti (pc := 53) C t13 hA rfl hw dX11_write_53
      · have hw := hw.2 hc
        refine v_aload_n (pc := 32) C 0 rfl rfl dX11_write_32 ?_
        refine v_goAi (pc := 33) C (wc' := (fun (u : (Nat → St)) => (wBig E a u))) (fun _ => rfl) (v_runVA (pc := 33) C [] [] (fun sz => ctX11_no l E a t hw sz) mfX11_no mvX11_no wmX11_106 rfl ⟨Nat.le_of_ble_eq_true rfl, Nat.le_of_ble_eq_true rfl⟩ ⟨rfl, rfl⟩ 0 (ci := 11) (qc := (RX11, TX11, 15)) rfl rfl rfl rfl (Nat.le_of_ble_eq_true rfl) ⟨Nat.zero_le _, Nat.zero_le _⟩ dX11_write_33) (fun r14 t15 hw => ?_)
        exact v_ireti (pc := 36) C t15 hA rfl hw dX11_write_36
    · have hw := hw.2 hc
      refine v_sub (lv' := [(0, .ref (a 0 0))]) [0] rfl ?_
      exact vjX11_write_15 C hA a  t hw
set_option maxHeartbeats 4000000 in
set_option maxRecDepth 100000 in
theorem ctX11_tear (l : Launch) (E : VE) (a : Nat → Nat → Nat)  (t : Nat → St)  {Post : Int32 → (Nat → St) → Prop} (hw : wpX11_tear t Post) (sz : Nat) : Met l yX11_tear (mW yX11_tear cX11_tear 1 (some .int)) rmX11_tear (CPre E [.ref (a 0 0)] sz (wBig E a t)) (CQi E Post (fun u => wBig E a u) (wBig E a t) sz) 0 0 (va_A (wBig E a t) sz) := by
  refine v_met (by decide) (Nat.le_of_ble_eq_true rfl) ?_
  intro pr e s m below meth c A hsz hA C
  subst hsz
  refine v_aload_n (pc := 0) C 0 rfl rfl dX11_tear_0 ?_
  refine v_get (pc := 1) C cfX11 rfl 0 1 rfl (by decide) wfX11_19 rfl dX11_tear_1 ?_
  refine v_goBi (pc := 4) C (bs := (bsBig E a t)) (cs := [bPad E (a 2) (t 2)]) (cs' := (fun (_ : Unit) => [bPad E (a 2) (t 2)])) (bs' := (fun (_ : Unit) => (bsBig E a t))) (w' := (fun (_ : Unit) => (wBig E a t))) [2] (wBig_fl E a t) rfl (fun _ => rfl) (fun _ => rfl) (fun _ => (wBig_fl _ _ _).symm) (v_runVB (pc := 4) C [] [] (fun sz => ctX4_isUsedUp l E (a 2) (t 2) hw sz) [2] (wBig_fl E a t) rfl rfl mfX4_isUsedUp mvX4_isUsedUp wmX11_102 rfl ⟨Nat.le_of_ble_eq_true rfl, Nat.le_of_ble_eq_true rfl⟩ ⟨rfl, rfl⟩ 10 (ci := 4) (qc := (RX4, TX4, 12)) rfl rfl rfl rfl (Nat.le_of_ble_eq_true rfl) ⟨Nat.zero_le _, Nat.zero_le _⟩ dX11_tear_4) (fun r1 _ hw => ?_)
  refine v_if_eq (pc := 7) C 15 (by decide) dX11_tear_7 (fun hc => ?_) (fun hc => ?_)
  · have hw := hw.1 hc
    refine v_aload_n (pc := 15) C 0 rfl rfl dX11_tear_15 ?_
    refine v_get (pc := 16) C cfX11 rfl 0 1 rfl (by decide) wfX11_19 rfl dX11_tear_16 ?_
    refine v_goBv (pc := 19) C (bs := (bsBig E a t)) (cs := [bPad E (a 2) (t 2)]) (cs' := (fun (u : St) => [bPad E (a 2) u])) (bs' := (fun (u : St) => (bsBig E a (upS t 2 u)))) (w' := (fun (u : St) => (wBig E a (upS t 2 u)))) [2] (wBig_fl E a t) rfl (fun _ => rfl) (fun _ => rfl) (fun _ => (wBig_fl _ _ _).symm) (v_runVB (pc := 19) C [] [] (fun sz => ctX4_keepForUndo l E (a 2) (t 2) hw sz) [2] (wBig_fl E a t) rfl rfl mfX4_keepForUndo mvX4_keepForUndo wmX11_116 rfl ⟨Nat.le_of_ble_eq_true rfl, Nat.le_of_ble_eq_true rfl⟩ ⟨rfl, rfl⟩ 10 (ci := 4) (qc := (RX4, TX4, 12)) rfl rfl rfl rfl (Nat.le_of_ble_eq_true rfl) ⟨Nat.zero_le _, Nat.zero_le _⟩ dX11_tear_19) (fun p2 hw => ?_)
    obtain ⟨t3, et⟩ : ∃ y : Nat → St, y = upS t 2 p2 := ⟨_, rfl⟩
    have hw := hw t3 et
    refine v_w (w' := wBig E a t3) (by subst et; rfl) ?_
    refine v_aload_n (pc := 22) C 0 rfl rfl dX11_tear_22 ?_
    refine v_get (pc := 23) C cfX11 rfl 0 1 rfl (by decide) wfX11_19 rfl dX11_tear_23 ?_
    refine v_goBi (pc := 26) C (bs := (bsBig E a t3)) (cs := [bPad E (a 2) (t3 2)]) (cs' := (fun (u : St) => [bPad E (a 2) u])) (bs' := (fun (u : St) => (bsBig E a (upS t3 2 u)))) (w' := (fun (u : St) => (wBig E a (upS t3 2 u)))) [2] (wBig_fl E a t3) rfl (fun _ => rfl) (fun _ => rfl) (fun _ => (wBig_fl _ _ _).symm) (v_runVB (pc := 26) C [] [] (fun sz => ctX4_tearTop l E (a 2) (t3 2) hw sz) [2] (wBig_fl E a t3) rfl rfl mfX4_tearTop mvX4_tearTop wmX11_123 rfl ⟨Nat.le_of_ble_eq_true rfl, Nat.le_of_ble_eq_true rfl⟩ ⟨rfl, rfl⟩ 10 (ci := 4) (qc := (RX4, TX4, 12)) rfl rfl rfl rfl (Nat.le_of_ble_eq_true rfl) ⟨Nat.zero_le _, Nat.zero_le _⟩ dX11_tear_26) (fun r4 p5 hw => ?_)
    obtain ⟨t6, et⟩ : ∃ y : Nat → St, y = upS t3 2 p5 := ⟨_, rfl⟩
    have hw := hw t6 et
    refine v_w (w' := wBig E a t6) (by subst et; rfl) ?_
    exact v_ireti (pc := 29) C t6 hA rfl hw dX11_tear_29
  · have hw := hw.2 hc
    refine v_aload_n (pc := 10) C 0 rfl rfl dX11_tear_10 ?_
    refine v_goAi (pc := 11) C (wc' := (fun (u : (Nat → St)) => (wBig E a u))) (fun _ => rfl) (v_runVA (pc := 11) C [] [] (fun sz => ctX11_no l E a t hw sz) mfX11_no mvX11_no wmX11_106 rfl ⟨Nat.le_of_ble_eq_true rfl, Nat.le_of_ble_eq_true rfl⟩ ⟨rfl, rfl⟩ 0 (ci := 11) (qc := (RX11, TX11, 15)) rfl rfl rfl rfl (Nat.le_of_ble_eq_true rfl) ⟨Nat.zero_le _, Nat.zero_le _⟩ dX11_tear_11) (fun r7 t8 hw => ?_)
    exact v_ireti (pc := 14) C t8 hA rfl hw dX11_tear_14
set_option maxHeartbeats 4000000 in
set_option maxRecDepth 100000 in
theorem ctX11_undo (l : Launch) (E : VE) (a : Nat → Nat → Nat)  (t : Nat → St)  {Post : Int32 → (Nat → St) → Prop} (hw : wpX11_undo t Post) (sz : Nat) : Met l yX11_undo (mW yX11_undo cX11_undo 1 (some .int)) rmX11_undo (CPre E [.ref (a 0 0)] sz (wBig E a t)) (CQi E Post (fun u => wBig E a u) (wBig E a t) sz) 0 0 (va_A (wBig E a t) sz) := by
  refine v_met (by decide) (Nat.le_of_ble_eq_true rfl) ?_
  intro pr e s m below meth c A hsz hA C
  subst hsz
  refine v_aload_n (pc := 0) C 0 rfl rfl dX11_undo_0 ?_
  refine v_get (pc := 1) C cfX11 rfl 0 1 rfl (by decide) wfX11_19 rfl dX11_undo_1 ?_
  refine v_getN (pc := 4) C cfX4 rfl 10 2 rfl (by decide) wfX11_126 rfl dX11_undo_4 ?_
  refine v_if_gt (pc := 7) C 15 (by decide) dX11_undo_7 (fun hc => ?_) (fun hc => ?_)
  · have hw := hw.1 hc
    refine v_aload_n (pc := 15) C 0 rfl rfl dX11_undo_15 ?_
    refine v_get (pc := 16) C cfX11 rfl 0 1 rfl (by decide) wfX11_19 rfl dX11_undo_16 ?_
    refine v_goBv (pc := 19) C (bs := (bsBig E a t)) (cs := [bPad E (a 2) (t 2)]) (cs' := (fun (u : St) => [bPad E (a 2) u])) (bs' := (fun (u : St) => (bsBig E a (upS t 2 u)))) (w' := (fun (u : St) => (wBig E a (upS t 2 u)))) [2] (wBig_fl E a t) rfl (fun _ => rfl) (fun _ => rfl) (fun _ => (wBig_fl _ _ _).symm) (v_runVB (pc := 19) C [] [] (fun sz => ctX4_goBack l E (a 2) (t 2) hw sz) [2] (wBig_fl E a t) rfl rfl mfX4_goBack mvX4_goBack wmX11_129 rfl ⟨Nat.le_of_ble_eq_true rfl, Nat.le_of_ble_eq_true rfl⟩ ⟨rfl, rfl⟩ 10 (ci := 4) (qc := (RX4, TX4, 12)) rfl rfl rfl rfl (Nat.le_of_ble_eq_true rfl) ⟨Nat.zero_le _, Nat.zero_le _⟩ dX11_undo_19) (fun p1 hw => ?_)
    obtain ⟨t2, et⟩ : ∃ y : Nat → St, y = upS t 2 p1 := ⟨_, rfl⟩
    have hw := hw t2 et
    refine v_w (w' := wBig E a t2) (by subst et; rfl) ?_
    refine v_aload_n (pc := 22) C 0 rfl rfl dX11_undo_22 ?_
    refine v_get (pc := 23) C cfX11 rfl 0 1 rfl (by decide) wfX11_19 rfl dX11_undo_23 ?_
    refine v_goBi (pc := 26) C (bs := (bsBig E a t2)) (cs := [bPad E (a 2) (t2 2)]) (cs' := (fun (_ : Unit) => [bPad E (a 2) (t2 2)])) (bs' := (fun (_ : Unit) => (bsBig E a t2))) (w' := (fun (_ : Unit) => (wBig E a t2))) [2] (wBig_fl E a t2) rfl (fun _ => rfl) (fun _ => rfl) (fun _ => (wBig_fl _ _ _).symm) (v_runVB (pc := 26) C [] [] (fun sz => ctX4_noteCount l E (a 2) (t2 2) hw sz) [2] (wBig_fl E a t2) rfl rfl mfX4_noteCount mvX4_noteCount wmX11_110 rfl ⟨Nat.le_of_ble_eq_true rfl, Nat.le_of_ble_eq_true rfl⟩ ⟨rfl, rfl⟩ 10 (ci := 4) (qc := (RX4, TX4, 12)) rfl rfl rfl rfl (Nat.le_of_ble_eq_true rfl) ⟨Nat.zero_le _, Nat.zero_le _⟩ dX11_undo_26) (fun r3 _ hw => ?_)
    exact v_ireti (pc := 29) C t2 hA rfl hw dX11_undo_29
  · have hw := hw.2 hc
    refine v_aload_n (pc := 10) C 0 rfl rfl dX11_undo_10 ?_
    refine v_goAi (pc := 11) C (wc' := (fun (u : (Nat → St)) => (wBig E a u))) (fun _ => rfl) (v_runVA (pc := 11) C [] [] (fun sz => ctX11_no l E a t hw sz) mfX11_no mvX11_no wmX11_106 rfl ⟨Nat.le_of_ble_eq_true rfl, Nat.le_of_ble_eq_true rfl⟩ ⟨rfl, rfl⟩ 0 (ci := 11) (qc := (RX11, TX11, 15)) rfl rfl rfl rfl (Nat.le_of_ble_eq_true rfl) ⟨Nat.zero_le _, Nat.zero_le _⟩ dX11_undo_11) (fun r4 t5 hw => ?_)
    exact v_ireti (pc := 14) C t5 hA rfl hw dX11_undo_14
set_option maxHeartbeats 4000000 in
set_option maxRecDepth 100000 in
theorem ctX11_word (l : Launch) (E : VE) (a : Nat → Nat → Nat) (x1 : Int32) (t : Nat → St)  {Post : Int32 → (Nat → St) → Prop} (hw : wpX11_word x1 t Post) (sz : Nat) : Met l yX11_word (mW yX11_word cX11_word 2 (some .int)) rmX11_word (CPre E [.ref (a 0 0), .int x1] sz (wBig E a t)) (CQi E Post (fun u => wBig E a u) (wBig E a t) sz) 0 0 (va_A (wBig E a t) sz) := by
  refine v_met (by decide) (Nat.le_of_ble_eq_true rfl) ?_
  intro pr e s m below meth c A hsz hA C
  subst hsz
  refine v_iload_n (pc := 0) C 1 rfl rfl dX11_word_0 ?_
  refine v_goBi (pc := 1) C (bs := (bsBig E a t)) (cs := []) (cs' := (fun (_ : Unit) => [])) (bs' := (fun (_ : Unit) => (bsBig E a t))) (w' := (fun (_ : Unit) => (wBig E a t))) [] (wBig_fl E a t) rfl (fun _ => rfl) (fun _ => rfl) (fun _ => (wBig_fl _ _ _).symm) (v_runSB (pc := 1) C [.int x1] [] (fun sz => ctX11_isCells l E x1 hw sz) [] (wBig_fl E a t) rfl rfl mfX11_isCells msX11_isCells wmX11_99 rfl ⟨Nat.le_of_ble_eq_true rfl, Nat.le_of_ble_eq_true rfl⟩ ⟨rfl, rfl⟩ rfl (Nat.le_of_ble_eq_true rfl) ⟨Nat.zero_le _, Nat.zero_le _⟩ dX11_word_1) (fun r1 _ hw => ?_)
  refine v_if_ne (pc := 4) C 14 (by decide) dX11_word_4 (fun hc => ?_) (fun hc => ?_)
  · have hw := hw.1 hc
    refine v_aload_n (pc := 14) C 0 rfl rfl dX11_word_14 ?_
    refine v_get (pc := 15) C cfX11 rfl 0 1 rfl (by decide) wfX11_19 rfl dX11_word_15 ?_
    refine v_getN (pc := 18) C cfX4 rfl 10 11 rfl (by decide) wfX11_132 rfl dX11_word_18 ?_
    refine v_bipush (pc := 21) C 8 kb_8 dX11_word_21 ?_
    refine v_icmp_lt (pc := 23) C 31 (by decide) dX11_word_23 (fun hc => ?_) (fun hc => ?_)
    · have hw := hw.1 hc
      refine v_aload_n (pc := 31) C 0 rfl rfl dX11_word_31 ?_
      refine v_get (pc := 32) C cfX11 rfl 0 1 rfl (by decide) wfX11_19 rfl dX11_word_32 ?_
      refine v_getN (pc := 35) C cfX4 rfl 10 10 rfl (by decide) wfX11_135 rfl dX11_word_35 ?_
      refine v_aload_n (pc := 38) C 0 rfl rfl dX11_word_38 ?_
      refine v_get (pc := 39) C cfX11 rfl 0 1 rfl (by decide) wfX11_19 rfl dX11_word_39 ?_
      refine v_getN (pc := 42) C cfX4 rfl 10 11 rfl (by decide) wfX11_132 rfl dX11_word_42 ?_
      refine v_iload_n (pc := 45) C 1 rfl rfl dX11_word_45 ?_
      obtain ⟨hg, hw⟩ := hw
      obtain ⟨t2, es⟩ : ∃ y : Nat → St, y = upS t 2 ((t 2).sA 10 (upd ((t 2).A 10) ((t 2).I 11).toNatClampNeg x1)) := ⟨_, rfl⟩
      have hw := hw t2 es
      refine v_iast (pc := 46) C 18 (w' := (wBig E a t2)) rfl rfl (by subst es; rfl) hg dX11_word_46 ?_
      refine v_aload_n (pc := 47) C 0 rfl rfl dX11_word_47 ?_
      refine v_get (pc := 48) C cfX11 rfl 0 1 rfl (by decide) wfX11_19 rfl dX11_word_48 ?_
      refine v_dup (pc := 51) C rfl dX11_word_51 ?_
      refine v_getN (pc := 52) C cfX4 rfl 10 11 rfl (by decide) wfX11_132 rfl dX11_word_52 ?_
      refine v_iconst (pc := 55) C 1 ki_1 dX11_word_55 ?_
      refine v_iadd (pc := 56) C dX11_word_56 ?_
      obtain ⟨t3, es⟩ : ∃ y : Nat → St, y = upS t2 2 ((t2 2).sI 11 (((t2 2).I 11) + 1)) := ⟨_, rfl⟩
      have hw := hw t3 es
      refine v_putN (pc := 57) C cfX4 rfl 10 11 (ty := .int) (w' := (wBig E a t3)) rfl (by subst es; rfl) (by decide) wfX11_132 rfl rfl rfl rfl (Nat.le_of_ble_eq_true rfl) dX11_word_57 ?_
      refine v_aload_n (pc := 60) C 0 rfl rfl dX11_word_60 ?_
      refine v_get (pc := 61) C cfX11 rfl 0 1 rfl (by decide) wfX11_19 rfl dX11_word_61 ?_
      refine v_getN (pc := 64) C cfX4 rfl 10 11 rfl (by decide) wfX11_132 rfl dX11_word_64 ?_
      refine v_iconst (pc := 67) C 1 ki_1 dX11_word_67 ?_
      refine v_isub (pc := 68) C dX11_word_68 ?_
      exact v_ireti (pc := 69) C t3 hA rfl hw dX11_word_69
    · have hw := hw.2 hc
      refine v_aload_n (pc := 26) C 0 rfl rfl dX11_word_26 ?_
      refine v_goAi (pc := 27) C (wc' := (fun (u : (Nat → St)) => (wBig E a u))) (fun _ => rfl) (v_runVA (pc := 27) C [] [] (fun sz => ctX11_full l E a t hw sz) mfX11_full mvX11_full wmX11_113 rfl ⟨Nat.le_of_ble_eq_true rfl, Nat.le_of_ble_eq_true rfl⟩ ⟨rfl, rfl⟩ 0 (ci := 11) (qc := (RX11, TX11, 15)) rfl rfl rfl rfl (Nat.le_of_ble_eq_true rfl) ⟨Nat.zero_le _, Nat.zero_le _⟩ dX11_word_27) (fun r4 t5 hw => ?_)
      exact v_ireti (pc := 30) C t5 hA rfl hw dX11_word_30
  · have hw := hw.2 hc
    refine v_aload_n (pc := 7) C 0 rfl rfl dX11_word_7 ?_
    refine v_bipush (pc := 8) C (-2) kb_m2 dX11_word_8 ?_
    refine v_goAi (pc := 10) C (wc' := (fun (u : (Nat → St)) => (wBig E a u))) (fun _ => rfl) (v_runVA (pc := 10) C [.int (-2)] [] (fun sz => ctX11_bad l E a (-2) t hw sz) mfX11_bad mvX11_bad wmX11_77 rfl ⟨Nat.le_of_ble_eq_true rfl, Nat.le_of_ble_eq_true rfl⟩ ⟨rfl, rfl⟩ 0 (ci := 11) (qc := (RX11, TX11, 15)) rfl rfl rfl rfl (Nat.le_of_ble_eq_true rfl) ⟨Nat.zero_le _, Nat.zero_le _⟩ dX11_word_10) (fun r6 t7 hw => ?_)
    exact v_ireti (pc := 13) C t7 hA rfl hw dX11_word_13
set_option maxHeartbeats 4000000 in
set_option maxRecDepth 100000 in
theorem ctX11_forget (l : Launch) (E : VE) (a : Nat → Nat → Nat)  (t : Nat → St)  {Post : Int32 → (Nat → St) → Prop} (hw : wpX11_forget t Post) (sz : Nat) : Met l yX11_forget (mW yX11_forget cX11_forget 2 (some .int)) rmX11_forget (CPre E [.ref (a 0 0)] sz (wBig E a t)) (CQi E Post (fun u => wBig E a u) (wBig E a t) sz) 0 0 (va_A (wBig E a t) sz) := by
  refine v_met (by decide) (Nat.le_of_ble_eq_true rfl) ?_
  intro pr e s m below meth c A hsz hA C
  subst hsz
  refine v_aload_n (pc := 0) C 0 rfl rfl dX11_forget_0 ?_
  refine v_get (pc := 1) C cfX11 rfl 0 1 rfl (by decide) wfX11_19 rfl dX11_forget_1 ?_
  refine v_getN (pc := 4) C cfX4 rfl 10 11 rfl (by decide) wfX11_132 rfl dX11_forget_4 ?_
  refine v_topi (fun x1_1 ex => ?_)
  have hw := hw x1_1 ex
  refine v_istore_n (pc := 7) C [(1, .int x1_1), (0, .ref (a 0 0))] rfl rfl (by decide) dX11_forget_7 ?_
  refine v_aload_n (pc := 8) C 1 rfl rfl dX11_forget_8 ?_
  refine v_get (pc := 9) C cfX11 rfl 0 1 rfl (by decide) wfX11_19 rfl dX11_forget_9 ?_
  refine v_iconst (pc := 12) C 0 ki_0 dX11_forget_12 ?_
  obtain ⟨t2, es⟩ : ∃ y : Nat → St, y = upS t 2 ((t 2).sI 11 0) := ⟨_, rfl⟩
  have hw := hw t2 es
  refine v_putN (pc := 13) C cfX4 rfl 10 11 (ty := .int) (w' := (wBig E a t2)) rfl (by subst es; rfl) (by decide) wfX11_132 rfl rfl rfl rfl (Nat.le_of_ble_eq_true rfl) dX11_forget_13 ?_
  refine v_iload_n (pc := 16) C 0 rfl rfl dX11_forget_16 ?_
  exact v_ireti (pc := 17) C t2 hA rfl hw dX11_forget_17
set_option maxHeartbeats 4000000 in
set_option maxRecDepth 100000 in
theorem vjX11_type_10 (C : VC pr s m args meth c E A cX11_type 2 (some .int) RX11) (hA : va_A w0 s.heap.size = A) (a : Nat → Nat → Nat)  {Post : Int32 → (Nat → St) → Prop} (t : Nat → St) (hw : wjX11_type_10  Post t) : V pr l e rmX11_type s m args below meth c E A 2 0 0 (MQ below (CQi E Post (fun u => wBig E a u) w0 s.heap.size) args s 0 0 A) (wBig E a t) 10 [(0, .ref (a 0 0))] [] := by
  refine v_aload_n (pc := 10) C 0 rfl rfl dX11_type_10 ?_
  refine v_bipush (pc := 11) C (-2) kb_m2 dX11_type_11 ?_
  refine v_goAi (pc := 13) C (wc' := (fun (u : (Nat → St)) => (wBig E a u))) (fun _ => rfl) (v_runVA (pc := 13) C [.int (-2)] [] (fun sz => ctX11_bad l E a (-2) t hw sz) mfX11_bad mvX11_bad wmX11_77 rfl ⟨Nat.le_of_ble_eq_true rfl, Nat.le_of_ble_eq_true rfl⟩ ⟨rfl, rfl⟩ 0 (ci := 11) (qc := (RX11, TX11, 15)) rfl rfl rfl rfl (Nat.le_of_ble_eq_true rfl) ⟨Nat.zero_le _, Nat.zero_le _⟩ dX11_type_13) (fun r1 t2 hw => ?_)
  exact v_ireti (pc := 16) C t2 hA rfl hw dX11_type_16
set_option maxHeartbeats 4000000 in
set_option maxRecDepth 100000 in
theorem ctX11_type (l : Launch) (E : VE) (a : Nat → Nat → Nat) (x1 : Int32) (t : Nat → St)  {Post : Int32 → (Nat → St) → Prop} (hw : wpX11_type x1 t Post) (sz : Nat) : Met l yX11_type (mW yX11_type cX11_type 2 (some .int)) rmX11_type (CPre E [.ref (a 0 0), .int x1] sz (wBig E a t)) (CQi E Post (fun u => wBig E a u) (wBig E a t) sz) 0 0 (va_A (wBig E a t) sz) := by
  refine v_met (by decide) (Nat.le_of_ble_eq_true rfl) ?_
  intro pr e s m below meth c A hsz hA C
  subst hsz
  refine v_iload_n (pc := 0) C 1 rfl rfl dX11_type_0 ?_
  refine v_if_lt (pc := 1) C 10 (by decide) dX11_type_1 (fun hc => ?_) (fun hc => ?_)
  · have hw := hw.1 hc
    refine v_sub (lv' := [(0, .ref (a 0 0))]) [0] rfl ?_
    exact vjX11_type_10 C hA a  t hw
  · have hw := hw.2 hc
    refine v_iload_n (pc := 4) C 1 rfl rfl dX11_type_4 ?_
    refine v_bipush (pc := 5) C 127 kb_127 dX11_type_5 ?_
    refine v_icmp_le (pc := 7) C 17 (by decide) dX11_type_7 (fun hc => ?_) (fun hc => ?_)
    · have hw := hw.1 hc
      refine v_aload_n (pc := 17) C 0 rfl rfl dX11_type_17 ?_
      refine v_get (pc := 18) C cfX11 rfl 0 7 rfl (by decide) wfX11_49 rfl dX11_type_18 ?_
      refine v_getN (pc := 21) C cfX7 rfl 54 1 rfl (by decide) wfX11_138 rfl dX11_type_21 ?_
      refine v_sipush (pc := 24) C 150 ks_150 dX11_type_24 ?_
      refine v_icmp_lt (pc := 27) C 35 (by decide) dX11_type_27 (fun hc => ?_) (fun hc => ?_)
      · have hw := hw.1 hc
        refine v_aload_n (pc := 35) C 0 rfl rfl dX11_type_35 ?_
        refine v_get (pc := 36) C cfX11 rfl 0 7 rfl (by decide) wfX11_49 rfl dX11_type_36 ?_
        refine v_getN (pc := 39) C cfX7 rfl 54 0 rfl (by decide) wfX11_141 rfl dX11_type_39 ?_
        refine v_aload_n (pc := 42) C 0 rfl rfl dX11_type_42 ?_
        refine v_get (pc := 43) C cfX11 rfl 0 7 rfl (by decide) wfX11_49 rfl dX11_type_43 ?_
        refine v_getN (pc := 46) C cfX7 rfl 54 1 rfl (by decide) wfX11_138 rfl dX11_type_46 ?_
        refine v_iload_n (pc := 49) C 1 rfl rfl dX11_type_49 ?_
        obtain ⟨hg, hw⟩ := hw
        obtain ⟨t3, es⟩ : ∃ y : Nat → St, y = upS t 8 ((t 8).sA 0 (upd ((t 8).A 0) ((t 8).I 1).toNatClampNeg x1)) := ⟨_, rfl⟩
        have hw := hw t3 es
        refine v_iast (pc := 50) C 55 (w' := (wBig E a t3)) rfl rfl (by subst es; rfl) hg dX11_type_50 ?_
        refine v_aload_n (pc := 51) C 0 rfl rfl dX11_type_51 ?_
        refine v_get (pc := 52) C cfX11 rfl 0 7 rfl (by decide) wfX11_49 rfl dX11_type_52 ?_
        refine v_dup (pc := 55) C rfl dX11_type_55 ?_
        refine v_getN (pc := 56) C cfX7 rfl 54 1 rfl (by decide) wfX11_138 rfl dX11_type_56 ?_
        refine v_iconst (pc := 59) C 1 ki_1 dX11_type_59 ?_
        refine v_iadd (pc := 60) C dX11_type_60 ?_
        obtain ⟨t4, es⟩ : ∃ y : Nat → St, y = upS t3 8 ((t3 8).sI 1 (((t3 8).I 1) + 1)) := ⟨_, rfl⟩
        have hw := hw t4 es
        refine v_putN (pc := 61) C cfX7 rfl 54 1 (ty := .int) (w' := (wBig E a t4)) rfl (by subst es; rfl) (by decide) wfX11_138 rfl rfl rfl rfl (Nat.le_of_ble_eq_true rfl) dX11_type_61 ?_
        refine v_aload_n (pc := 64) C 0 rfl rfl dX11_type_64 ?_
        refine v_get (pc := 65) C cfX11 rfl 0 7 rfl (by decide) wfX11_49 rfl dX11_type_65 ?_
        refine v_getN (pc := 68) C cfX7 rfl 54 1 rfl (by decide) wfX11_138 rfl dX11_type_68 ?_
        exact v_ireti (pc := 71) C t4 hA rfl hw dX11_type_71
      · have hw := hw.2 hc
        refine v_aload_n (pc := 30) C 0 rfl rfl dX11_type_30 ?_
        refine v_goAi (pc := 31) C (wc' := (fun (u : (Nat → St)) => (wBig E a u))) (fun _ => rfl) (v_runVA (pc := 31) C [] [] (fun sz => ctX11_full l E a t hw sz) mfX11_full mvX11_full wmX11_113 rfl ⟨Nat.le_of_ble_eq_true rfl, Nat.le_of_ble_eq_true rfl⟩ ⟨rfl, rfl⟩ 0 (ci := 11) (qc := (RX11, TX11, 15)) rfl rfl rfl rfl (Nat.le_of_ble_eq_true rfl) ⟨Nat.zero_le _, Nat.zero_le _⟩ dX11_type_31) (fun r5 t6 hw => ?_)
        exact v_ireti (pc := 34) C t6 hA rfl hw dX11_type_34
    · have hw := hw.2 hc
      refine v_sub (lv' := [(0, .ref (a 0 0))]) [0] rfl ?_
      exact vjX11_type_10 C hA a  t hw
set_option maxHeartbeats 4000000 in
set_option maxRecDepth 100000 in
theorem ctX11_clear (l : Launch) (E : VE) (a : Nat → Nat → Nat)  (t : Nat → St)  {Post : Int32 → (Nat → St) → Prop} (hw : wpX11_clear t Post) (sz : Nat) : Met l yX11_clear (mW yX11_clear cX11_clear 2 (some .int)) rmX11_clear (CPre E [.ref (a 0 0)] sz (wBig E a t)) (CQi E Post (fun u => wBig E a u) (wBig E a t) sz) 0 0 (va_A (wBig E a t) sz) := by
  refine v_met (by decide) (Nat.le_of_ble_eq_true rfl) ?_
  intro pr e s m below meth c A hsz hA C
  subst hsz
  refine v_aload_n (pc := 0) C 0 rfl rfl dX11_clear_0 ?_
  refine v_get (pc := 1) C cfX11 rfl 0 7 rfl (by decide) wfX11_49 rfl dX11_clear_1 ?_
  refine v_getN (pc := 4) C cfX7 rfl 54 1 rfl (by decide) wfX11_138 rfl dX11_clear_4 ?_
  refine v_topi (fun x1_1 ex => ?_)
  have hw := hw x1_1 ex
  refine v_istore_n (pc := 7) C [(1, .int x1_1), (0, .ref (a 0 0))] rfl rfl (by decide) dX11_clear_7 ?_
  refine v_aload_n (pc := 8) C 1 rfl rfl dX11_clear_8 ?_
  refine v_get (pc := 9) C cfX11 rfl 0 7 rfl (by decide) wfX11_49 rfl dX11_clear_9 ?_
  refine v_iconst (pc := 12) C 0 ki_0 dX11_clear_12 ?_
  obtain ⟨t2, es⟩ : ∃ y : Nat → St, y = upS t 8 ((t 8).sI 1 0) := ⟨_, rfl⟩
  have hw := hw t2 es
  refine v_putN (pc := 13) C cfX7 rfl 54 1 (ty := .int) (w' := (wBig E a t2)) rfl (by subst es; rfl) (by decide) wfX11_138 rfl rfl rfl rfl (Nat.le_of_ble_eq_true rfl) dX11_clear_13 ?_
  refine v_iload_n (pc := 16) C 0 rfl rfl dX11_clear_16 ?_
  exact v_ireti (pc := 17) C t2 hA rfl hw dX11_clear_17
set_option maxHeartbeats 4000000 in
set_option maxRecDepth 100000 in
theorem ctX11_read (l : Launch) (E : VE) (a : Nat → Nat → Nat)  (t : Nat → St)  {Post : Int32 → (Nat → St) → Prop} (hw : wpX11_read t Post) (sz : Nat) : Met l yX11_read (mW yX11_read cX11_read 2 (some .int)) rmX11_read (CPre E [.ref (a 0 0)] sz (wBig E a t)) (CQi E Post (fun u => wBig E a u) (wBig E a t) sz) 0 0 (va_A (wBig E a t) sz) := by
  refine v_met (by decide) (Nat.le_of_ble_eq_true rfl) ?_
  intro pr e s m below meth c A hsz hA C
  subst hsz
  refine v_aload_n (pc := 0) C 0 rfl rfl dX11_read_0 ?_
  refine v_get (pc := 1) C cfX11 rfl 0 7 rfl (by decide) wfX11_49 rfl dX11_read_1 ?_
  refine v_aload_n (pc := 4) C 0 rfl rfl dX11_read_4 ?_
  refine v_get (pc := 5) C cfX11 rfl 0 2 rfl (by decide) wfX11_23 rfl dX11_read_5 ?_
  refine v_aload_n (pc := 8) C 0 rfl rfl dX11_read_8 ?_
  refine v_get (pc := 9) C cfX11 rfl 0 0 rfl (by decide) wfX11_12 rfl dX11_read_9 ?_
  refine v_goBi (pc := 12) C (bs := (bsBig E a t)) (cs := [bReader E (a 8) (t 8), bPad E (a 3) (t 3), bBox E (a 1)]) (cs' := (fun (u : (St × St)) => [bReader E (a 8) u.1, bPad E (a 3) u.2, bBox E (a 1)])) (bs' := (fun (u : (St × St)) => (bsBig E a (upS (upS t 8 u.1) 3 u.2)))) (w' := (fun (u : (St × St)) => (wBig E a (upS (upS t 8 u.1) 3 u.2)))) [8, 3, 1] (wBig_fl E a t) rfl (fun _ => rfl) (fun _ => rfl) (fun _ => (wBig_fl _ _ _).symm) (v_runVB (pc := 12) C [.ref (a 3 0), .ref (a 1 0)] [] (fun sz => ctX7_readInto l E (a 8) (a 3) (a 1) (t 8) (t 3) hw sz) [8, 3, 1] (wBig_fl E a t) rfl rfl mfX7_readInto mvX7_readInto wmX11_144 rfl ⟨Nat.le_of_ble_eq_true rfl, Nat.le_of_ble_eq_true rfl⟩ ⟨rfl, rfl⟩ 54 (ci := 7) (qc := (RX7, TX7, 8)) rfl rfl rfl rfl (Nat.le_of_ble_eq_true rfl) ⟨Nat.zero_le _, Nat.zero_le _⟩ dX11_read_12) (fun r1 u hw => ?_)
  obtain ⟨p2, p3⟩ := u
  have hw := hw p2 p3 rfl
  obtain ⟨t4, et⟩ : ∃ y : Nat → St, y = upS (upS t 8 p2) 3 p3 := ⟨_, rfl⟩
  have hw := hw t4 et
  refine v_w (w' := wBig E a t4) (by subst et; rfl) ?_
  refine v_istore_n (pc := 15) C [(1, .int r1), (0, .ref (a 0 0))] rfl rfl (by decide) dX11_read_15 ?_
  refine v_iload_n (pc := 16) C 0 rfl rfl dX11_read_16 ?_
  refine v_if_ge (pc := 17) C 31 (by decide) dX11_read_17 (fun hc => ?_) (fun hc => ?_)
  · have hw := hw.1 hc
    refine v_aload_n (pc := 31) C 1 rfl rfl dX11_read_31 ?_
    refine v_get (pc := 32) C cfX11 rfl 0 1 rfl (by decide) wfX11_19 rfl dX11_read_32 ?_
    refine v_aload_n (pc := 35) C 1 rfl rfl dX11_read_35 ?_
    refine v_get (pc := 36) C cfX11 rfl 0 2 rfl (by decide) wfX11_23 rfl dX11_read_36 ?_
    refine v_goBv (pc := 39) C (bs := (bsBig E a t4)) (cs := [bPad E (a 2) (t4 2), bPad E (a 3) (t4 3)]) (cs' := (fun (u : St) => [bPad E (a 2) u, bPad E (a 3) (t4 3)])) (bs' := (fun (u : St) => (bsBig E a (upS t4 2 u)))) (w' := (fun (u : St) => (wBig E a (upS t4 2 u)))) [2, 3] (wBig_fl E a t4) rfl (fun _ => rfl) (fun _ => rfl) (fun _ => (wBig_fl _ _ _).symm) (v_runVB (pc := 39) C [.ref (a 3 0)] [] (fun sz => ctX4_copyFrom l E (a 2) (a 3) (t4 2) (t4 3) hw sz) [2, 3] (wBig_fl E a t4) rfl rfl mfX4_copyFrom mvX4_copyFrom wmX11_151 rfl ⟨Nat.le_of_ble_eq_true rfl, Nat.le_of_ble_eq_true rfl⟩ ⟨rfl, rfl⟩ 10 (ci := 4) (qc := (RX4, TX4, 12)) rfl rfl rfl rfl (Nat.le_of_ble_eq_true rfl) ⟨Nat.zero_le _, Nat.zero_le _⟩ dX11_read_39) (fun p5 hw => ?_)
    obtain ⟨t6, et⟩ : ∃ y : Nat → St, y = upS t4 2 p5 := ⟨_, rfl⟩
    have hw := hw t6 et
    refine v_w (w' := wBig E a t6) (by subst et; rfl) ?_
    refine v_iload_n (pc := 42) C 0 rfl rfl dX11_read_42 ?_
    exact v_ireti (pc := 43) C t6 hA rfl hw dX11_read_43
  · have hw := hw.2 hc
    refine v_bipush (pc := 20) C (-10) kb_m10 dX11_read_20 ?_
    refine v_aload_n (pc := 22) C 1 rfl rfl dX11_read_22 ?_
    refine v_get (pc := 23) C cfX11 rfl 0 7 rfl (by decide) wfX11_49 rfl dX11_read_23 ?_
    refine v_goBi (pc := 26) C (bs := (bsBig E a t4)) (cs := [bReader E (a 8) (t4 8)]) (cs' := (fun (_ : Unit) => [bReader E (a 8) (t4 8)])) (bs' := (fun (_ : Unit) => (bsBig E a t4))) (w' := (fun (_ : Unit) => (wBig E a t4))) [8] (wBig_fl E a t4) rfl (fun _ => rfl) (fun _ => rfl) (fun _ => (wBig_fl _ _ _).symm) (v_runVB (pc := 26) C [] [.int (-10)] (fun sz => ctX7_fault l E (a 8) (t4 8) hw sz) [8] (wBig_fl E a t4) rfl rfl mfX7_fault mvX7_fault wmX11_148 rfl ⟨Nat.le_of_ble_eq_true rfl, Nat.le_of_ble_eq_true rfl⟩ ⟨rfl, rfl⟩ 54 (ci := 7) (qc := (RX7, TX7, 8)) rfl rfl rfl rfl (Nat.le_of_ble_eq_true rfl) ⟨Nat.zero_le _, Nat.zero_le _⟩ dX11_read_26) (fun r7 _ hw => ?_)
    refine v_isub (pc := 29) C dX11_read_29 ?_
    exact v_ireti (pc := 30) C t4 hA rfl hw dX11_read_30
set_option maxHeartbeats 4000000 in
set_option maxRecDepth 100000 in
theorem ctX11_of (l : Launch) (E : VE) (a : Nat → Nat → Nat) (x1 : Int32) (x2 : Int32) (t : Nat → St)  {Post : Int32 → (Nat → St) → Prop} (hw : wpX11_of x1 x2 t Post) (sz : Nat) : Met l yX11_of (mW yX11_of cX11_of 3 (some .int)) rmX11_of (CPre E [.ref (a 0 0), .int x1, .int x2] sz (wBig E a t)) (CQi E Post (fun u => wBig E a u) (wBig E a t) sz) 0 0 (va_A (wBig E a t) sz) := by
  refine v_met (by decide) (Nat.le_of_ble_eq_true rfl) ?_
  intro pr e s m below meth c A hsz hA C
  subst hsz
  refine v_aload_n (pc := 0) C 0 rfl rfl dX11_of_0 ?_
  refine v_get (pc := 1) C cfX11 rfl 0 1 rfl (by decide) wfX11_19 rfl dX11_of_1 ?_
  refine v_iload_n (pc := 4) C 1 rfl rfl dX11_of_4 ?_
  refine v_goBi (pc := 5) C (bs := (bsBig E a t)) (cs := [bPad E (a 2) (t 2)]) (cs' := (fun (_ : Unit) => [bPad E (a 2) (t 2)])) (bs' := (fun (_ : Unit) => (bsBig E a t))) (w' := (fun (_ : Unit) => (wBig E a t))) [2] (wBig_fl E a t) rfl (fun _ => rfl) (fun _ => rfl) (fun _ => (wBig_fl _ _ _).symm) (v_runVB (pc := 5) C [.int x1] [] (fun sz => ctX4_hasSheet l E (a 2) x1 (t 2) hw sz) [2] (wBig_fl E a t) rfl rfl mfX4_hasSheet mvX4_hasSheet wmX11_155 rfl ⟨Nat.le_of_ble_eq_true rfl, Nat.le_of_ble_eq_true rfl⟩ ⟨rfl, rfl⟩ 10 (ci := 4) (qc := (RX4, TX4, 12)) rfl rfl rfl rfl (Nat.le_of_ble_eq_true rfl) ⟨Nat.zero_le _, Nat.zero_le _⟩ dX11_of_5) (fun r1 _ hw => ?_)
  refine v_if_ne (pc := 8) C 18 (by decide) dX11_of_8 (fun hc => ?_) (fun hc => ?_)
  · have hw := hw.1 hc
    refine v_iload_n (pc := 18) C 2 rfl rfl dX11_of_18 ?_
    by_cases hc0 : x2 = 0
    · have hw := hw.1 hc0
      refine v_tblIn (pc := 19) C (off := 29) 48 dX11_of_19 (by rw [hc0]; decide) (by rw [hc0]; decide) (by rw [hc0]; decide) (by decide) ?_
      refine v_aload_n (pc := 48) C 0 rfl rfl dX11_of_48 ?_
      refine v_get (pc := 49) C cfX11 rfl 0 1 rfl (by decide) wfX11_19 rfl dX11_of_49 ?_
      refine v_iload_n (pc := 52) C 1 rfl rfl dX11_of_52 ?_
      refine v_goBi (pc := 53) C (bs := (bsBig E a t)) (cs := [bPad E (a 2) (t 2)]) (cs' := (fun (_ : Unit) => [bPad E (a 2) (t 2)])) (bs' := (fun (_ : Unit) => (bsBig E a t))) (w' := (fun (_ : Unit) => (wBig E a t))) [2] (wBig_fl E a t) rfl (fun _ => rfl) (fun _ => rfl) (fun _ => (wBig_fl _ _ _).symm) (v_runVB (pc := 53) C [.int x1] [] (fun sz => ctX4_inkOf l E (a 2) x1 (t 2) hw sz) [2] (wBig_fl E a t) rfl rfl mfX4_inkOf mvX4_inkOf wmX11_158 rfl ⟨Nat.le_of_ble_eq_true rfl, Nat.le_of_ble_eq_true rfl⟩ ⟨rfl, rfl⟩ 10 (ci := 4) (qc := (RX4, TX4, 12)) rfl rfl rfl rfl (Nat.le_of_ble_eq_true rfl) ⟨Nat.zero_le _, Nat.zero_le _⟩ dX11_of_53) (fun r2 _ hw => ?_)
      exact v_ireti (pc := 56) C t hA rfl hw dX11_of_56
    replace hw := hw.2
    by_cases hc1 : x2 = 1
    · have hw := hw.1 hc1
      refine v_tblIn (pc := 19) C (off := 38) 57 dX11_of_19 (by rw [hc1]; decide) (by rw [hc1]; decide) (by rw [hc1]; decide) (by decide) ?_
      refine v_aload_n (pc := 57) C 0 rfl rfl dX11_of_57 ?_
      refine v_get (pc := 58) C cfX11 rfl 0 1 rfl (by decide) wfX11_19 rfl dX11_of_58 ?_
      refine v_iload_n (pc := 61) C 1 rfl rfl dX11_of_61 ?_
      refine v_goBi (pc := 62) C (bs := (bsBig E a t)) (cs := [bPad E (a 2) (t 2)]) (cs' := (fun (_ : Unit) => [bPad E (a 2) (t 2)])) (bs' := (fun (_ : Unit) => (bsBig E a t))) (w' := (fun (_ : Unit) => (wBig E a t))) [2] (wBig_fl E a t) rfl (fun _ => rfl) (fun _ => rfl) (fun _ => (wBig_fl _ _ _).symm) (v_runVB (pc := 62) C [.int x1] [] (fun sz => ctX4_copyOf l E (a 2) x1 (t 2) hw sz) [2] (wBig_fl E a t) rfl rfl mfX4_copyOf mvX4_copyOf wmX11_161 rfl ⟨Nat.le_of_ble_eq_true rfl, Nat.le_of_ble_eq_true rfl⟩ ⟨rfl, rfl⟩ 10 (ci := 4) (qc := (RX4, TX4, 12)) rfl rfl rfl rfl (Nat.le_of_ble_eq_true rfl) ⟨Nat.zero_le _, Nat.zero_le _⟩ dX11_of_62) (fun r3 _ hw => ?_)
      exact v_ireti (pc := 65) C t hA rfl hw dX11_of_65
    replace hw := hw.2
    by_cases hc2 : x2 = 2
    · have hw := hw.1 hc2
      refine v_tblIn (pc := 19) C (off := 47) 66 dX11_of_19 (by rw [hc2]; decide) (by rw [hc2]; decide) (by rw [hc2]; decide) (by decide) ?_
      refine v_iload_n (pc := 66) C 1 rfl rfl dX11_of_66 ?_
      refine v_aload_n (pc := 67) C 0 rfl rfl dX11_of_67 ?_
      refine v_get (pc := 68) C cfX11 rfl 0 1 rfl (by decide) wfX11_19 rfl dX11_of_68 ?_
      refine v_goBi (pc := 71) C (bs := (bsBig E a t)) (cs := [bPad E (a 2) (t 2)]) (cs' := (fun (_ : Unit) => [bPad E (a 2) (t 2)])) (bs' := (fun (_ : Unit) => (bsBig E a t))) (w' := (fun (_ : Unit) => (wBig E a t))) [2] (wBig_fl E a t) rfl (fun _ => rfl) (fun _ => rfl) (fun _ => (wBig_fl _ _ _).symm) (v_runVB (pc := 71) C [] [.int x1] (fun sz => ctX4_top l E (a 2) (t 2) hw sz) [2] (wBig_fl E a t) rfl rfl mfX4_top mvX4_top wmX11_164 rfl ⟨Nat.le_of_ble_eq_true rfl, Nat.le_of_ble_eq_true rfl⟩ ⟨rfl, rfl⟩ 10 (ci := 4) (qc := (RX4, TX4, 12)) rfl rfl rfl rfl (Nat.le_of_ble_eq_true rfl) ⟨Nat.zero_le _, Nat.zero_le _⟩ dX11_of_71) (fun r4 _ hw => ?_)
      refine v_icmp_ge (pc := 74) C 81 (by decide) dX11_of_74 (fun hc => ?_) (fun hc => ?_)
      · have hw := hw.1 hc
        refine v_iload_n (pc := 81) C 1 rfl rfl dX11_of_81 ?_
        refine v_aload_n (pc := 82) C 0 rfl rfl dX11_of_82 ?_
        refine v_get (pc := 83) C cfX11 rfl 0 1 rfl (by decide) wfX11_19 rfl dX11_of_83 ?_
        refine v_goBi (pc := 86) C (bs := (bsBig E a t)) (cs := [bPad E (a 2) (t 2)]) (cs' := (fun (_ : Unit) => [bPad E (a 2) (t 2)])) (bs' := (fun (_ : Unit) => (bsBig E a t))) (w' := (fun (_ : Unit) => (wBig E a t))) [2] (wBig_fl E a t) rfl (fun _ => rfl) (fun _ => rfl) (fun _ => (wBig_fl _ _ _).symm) (v_runVB (pc := 86) C [] [.int x1] (fun sz => ctX4_top l E (a 2) (t 2) hw sz) [2] (wBig_fl E a t) rfl rfl mfX4_top mvX4_top wmX11_164 rfl ⟨Nat.le_of_ble_eq_true rfl, Nat.le_of_ble_eq_true rfl⟩ ⟨rfl, rfl⟩ 10 (ci := 4) (qc := (RX4, TX4, 12)) rfl rfl rfl rfl (Nat.le_of_ble_eq_true rfl) ⟨Nat.zero_le _, Nat.zero_le _⟩ dX11_of_86) (fun r5 _ hw => ?_)
        refine v_isub (pc := 89) C dX11_of_89 ?_
        exact v_ireti (pc := 90) C t hA rfl hw dX11_of_90
      · have hw := hw.2 hc
        refine v_iconst (pc := 77) C (-1) ki_m1 dX11_of_77 ?_
        refine v_goto (pc := 78) C 90 (by decide) dX11_of_78 ?_
        exact v_ireti (pc := 90) C t hA rfl hw dX11_of_90
    replace hw := hw.2
    by_cases hc3 : x2 = 3
    · have hw := hw.1 hc3
      refine v_tblIn (pc := 19) C (off := 72) 91 dX11_of_19 (by rw [hc3]; decide) (by rw [hc3]; decide) (by rw [hc3]; decide) (by decide) ?_
      refine v_aload_n (pc := 91) C 0 rfl rfl dX11_of_91 ?_
      refine v_get (pc := 92) C cfX11 rfl 0 1 rfl (by decide) wfX11_19 rfl dX11_of_92 ?_
      refine v_iload_n (pc := 95) C 1 rfl rfl dX11_of_95 ?_
      refine v_goBi (pc := 96) C (bs := (bsBig E a t)) (cs := [bPad E (a 2) (t 2)]) (cs' := (fun (_ : Unit) => [bPad E (a 2) (t 2)])) (bs' := (fun (_ : Unit) => (bsBig E a t))) (w' := (fun (_ : Unit) => (wBig E a t))) [2] (wBig_fl E a t) rfl (fun _ => rfl) (fun _ => rfl) (fun _ => (wBig_fl _ _ _).symm) (v_runVB (pc := 96) C [.int x1] [] (fun sz => ctX4_writtenOn l E (a 2) x1 (t 2) hw sz) [2] (wBig_fl E a t) rfl rfl mfX4_writtenOn mvX4_writtenOn wmX11_167 rfl ⟨Nat.le_of_ble_eq_true rfl, Nat.le_of_ble_eq_true rfl⟩ ⟨rfl, rfl⟩ 10 (ci := 4) (qc := (RX4, TX4, 12)) rfl rfl rfl rfl (Nat.le_of_ble_eq_true rfl) ⟨Nat.zero_le _, Nat.zero_le _⟩ dX11_of_96) (fun r6 _ hw => ?_)
      exact v_ireti (pc := 99) C t hA rfl hw dX11_of_99
    replace hw := hw.2
    replace hw := hw hc0 hc1 hc2 hc3
    refine v_tblOut (pc := 19) C 100 (by decide) dX11_of_19 (tblo (k := 3) (by decide) (fun j hj => by rcases (show j = 0 ∨ j = 1 ∨ j = 2 ∨ j = 3 by omega) with rfl | rfl | rfl | rfl <;> assumption)) ?_
    refine v_aload_n (pc := 100) C 0 rfl rfl dX11_of_100 ?_
    refine v_bipush (pc := 101) C (-10) kb_m10 dX11_of_101 ?_
    refine v_goAi (pc := 103) C (wc' := (fun (u : (Nat → St)) => (wBig E a u))) (fun _ => rfl) (v_runVA (pc := 103) C [.int (-10)] [] (fun sz => ctX11_bad l E a (-10) t hw sz) mfX11_bad mvX11_bad wmX11_77 rfl ⟨Nat.le_of_ble_eq_true rfl, Nat.le_of_ble_eq_true rfl⟩ ⟨rfl, rfl⟩ 0 (ci := 11) (qc := (RX11, TX11, 15)) rfl rfl rfl rfl (Nat.le_of_ble_eq_true rfl) ⟨Nat.zero_le _, Nat.zero_le _⟩ dX11_of_103) (fun r7 t8 hw => ?_)
    exact v_ireti (pc := 106) C t8 hA rfl hw dX11_of_106
  · have hw := hw.2 hc
    refine v_aload_n (pc := 11) C 0 rfl rfl dX11_of_11 ?_
    refine v_bipush (pc := 12) C (-10) kb_m10 dX11_of_12 ?_
    refine v_goAi (pc := 14) C (wc' := (fun (u : (Nat → St)) => (wBig E a u))) (fun _ => rfl) (v_runVA (pc := 14) C [.int (-10)] [] (fun sz => ctX11_bad l E a (-10) t hw sz) mfX11_bad mvX11_bad wmX11_77 rfl ⟨Nat.le_of_ble_eq_true rfl, Nat.le_of_ble_eq_true rfl⟩ ⟨rfl, rfl⟩ 0 (ci := 11) (qc := (RX11, TX11, 15)) rfl rfl rfl rfl (Nat.le_of_ble_eq_true rfl) ⟨Nat.zero_le _, Nat.zero_le _⟩ dX11_of_14) (fun r9 t10 hw => ?_)
    exact v_ireti (pc := 17) C t10 hA rfl hw dX11_of_17
set_option maxHeartbeats 4000000 in
set_option maxRecDepth 100000 in
theorem vjX11_dent_21 (C : VC pr s m args meth c E A cX11_dent 3 (some .int) RX11) (hA : va_A w0 s.heap.size = A) (a : Nat → Nat → Nat)  {Post : Int32 → (Nat → St) → Prop} (t : Nat → St) (hw : wjX11_dent_21  Post t) : V pr l e rmX11_dent s m args below meth c E A 3 0 0 (MQ below (CQi E Post (fun u => wBig E a u) w0 s.heap.size) args s 0 0 A) (wBig E a t) 21 [(0, .ref (a 0 0))] [] := by
  refine v_aload_n (pc := 21) C 0 rfl rfl dX11_dent_21 ?_
  refine v_bipush (pc := 22) C (-2) kb_m2 dX11_dent_22 ?_
  refine v_goAi (pc := 24) C (wc' := (fun (u : (Nat → St)) => (wBig E a u))) (fun _ => rfl) (v_runVA (pc := 24) C [.int (-2)] [] (fun sz => ctX11_bad l E a (-2) t hw sz) mfX11_bad mvX11_bad wmX11_77 rfl ⟨Nat.le_of_ble_eq_true rfl, Nat.le_of_ble_eq_true rfl⟩ ⟨rfl, rfl⟩ 0 (ci := 11) (qc := (RX11, TX11, 15)) rfl rfl rfl rfl (Nat.le_of_ble_eq_true rfl) ⟨Nat.zero_le _, Nat.zero_le _⟩ dX11_dent_24) (fun r2 t3 hw => ?_)
  exact v_ireti (pc := 27) C t3 hA rfl hw dX11_dent_27
set_option maxHeartbeats 4000000 in
set_option maxRecDepth 100000 in
theorem ctX11_dent (l : Launch) (E : VE) (a : Nat → Nat → Nat) (x1 : Int32) (x2 : Int32) (t : Nat → St)  {Post : Int32 → (Nat → St) → Prop} (hw : wpX11_dent x1 x2 t Post) (sz : Nat) : Met l yX11_dent (mW yX11_dent cX11_dent 3 (some .int)) rmX11_dent (CPre E [.ref (a 0 0), .int x1, .int x2] sz (wBig E a t)) (CQi E Post (fun u => wBig E a u) (wBig E a t) sz) 0 0 (va_A (wBig E a t) sz) := by
  refine v_met (by decide) (Nat.le_of_ble_eq_true rfl) ?_
  intro pr e s m below meth c A hsz hA C
  subst hsz
  refine v_aload_n (pc := 0) C 0 rfl rfl dX11_dent_0 ?_
  refine v_get (pc := 1) C cfX11 rfl 0 1 rfl (by decide) wfX11_19 rfl dX11_dent_1 ?_
  refine v_iload_n (pc := 4) C 1 rfl rfl dX11_dent_4 ?_
  refine v_goBi (pc := 5) C (bs := (bsBig E a t)) (cs := [bPad E (a 2) (t 2)]) (cs' := (fun (_ : Unit) => [bPad E (a 2) (t 2)])) (bs' := (fun (_ : Unit) => (bsBig E a t))) (w' := (fun (_ : Unit) => (wBig E a t))) [2] (wBig_fl E a t) rfl (fun _ => rfl) (fun _ => rfl) (fun _ => (wBig_fl _ _ _).symm) (v_runVB (pc := 5) C [.int x1] [] (fun sz => ctX4_hasSheet l E (a 2) x1 (t 2) hw sz) [2] (wBig_fl E a t) rfl rfl mfX4_hasSheet mvX4_hasSheet wmX11_155 rfl ⟨Nat.le_of_ble_eq_true rfl, Nat.le_of_ble_eq_true rfl⟩ ⟨rfl, rfl⟩ 10 (ci := 4) (qc := (RX4, TX4, 12)) rfl rfl rfl rfl (Nat.le_of_ble_eq_true rfl) ⟨Nat.zero_le _, Nat.zero_le _⟩ dX11_dent_5) (fun r1 _ hw => ?_)
  refine v_if_eq (pc := 8) C 21 (by decide) dX11_dent_8 (fun hc => ?_) (fun hc => ?_)
  · have hw := hw.1 hc
    refine v_sub (lv' := [(0, .ref (a 0 0))]) [0] rfl ?_
    exact vjX11_dent_21 C hA a  t hw
  · have hw := hw.2 hc
    refine v_iload_n (pc := 11) C 2 rfl rfl dX11_dent_11 ?_
    refine v_if_lt (pc := 12) C 21 (by decide) dX11_dent_12 (fun hc => ?_) (fun hc => ?_)
    · have hw := hw.1 hc
      refine v_sub (lv' := [(0, .ref (a 0 0))]) [0] rfl ?_
      exact vjX11_dent_21 C hA a  t hw
    · have hw := hw.2 hc
      refine v_iload_n (pc := 15) C 2 rfl rfl dX11_dent_15 ?_
      refine v_bipush (pc := 16) C 12 kb_12 dX11_dent_16 ?_
      refine v_icmp_lt (pc := 18) C 28 (by decide) dX11_dent_18 (fun hc => ?_) (fun hc => ?_)
      · have hw := hw.1 hc
        refine v_aload_n (pc := 28) C 0 rfl rfl dX11_dent_28 ?_
        refine v_get (pc := 29) C cfX11 rfl 0 1 rfl (by decide) wfX11_19 rfl dX11_dent_29 ?_
        refine v_iload_n (pc := 32) C 1 rfl rfl dX11_dent_32 ?_
        refine v_iload_n (pc := 33) C 2 rfl rfl dX11_dent_33 ?_
        refine v_goBi (pc := 34) C (bs := (bsBig E a t)) (cs := [bPad E (a 2) (t 2)]) (cs' := (fun (_ : Unit) => [bPad E (a 2) (t 2)])) (bs' := (fun (_ : Unit) => (bsBig E a t))) (w' := (fun (_ : Unit) => (wBig E a t))) [2] (wBig_fl E a t) rfl (fun _ => rfl) (fun _ => rfl) (fun _ => (wBig_fl _ _ _).symm) (v_runVB (pc := 34) C [.int x1, .int x2] [] (fun sz => ctX4_dentOf l E (a 2) x1 x2 (t 2) hw sz) [2] (wBig_fl E a t) rfl rfl mfX4_dentOf mvX4_dentOf wmX11_170 rfl ⟨Nat.le_of_ble_eq_true rfl, Nat.le_of_ble_eq_true rfl⟩ ⟨rfl, rfl⟩ 10 (ci := 4) (qc := (RX4, TX4, 12)) rfl rfl rfl rfl (Nat.le_of_ble_eq_true rfl) ⟨Nat.zero_le _, Nat.zero_le _⟩ dX11_dent_34) (fun r4 _ hw => ?_)
        exact v_ireti (pc := 37) C t hA rfl hw dX11_dent_37
      · have hw := hw.2 hc
        refine v_sub (lv' := [(0, .ref (a 0 0))]) [0] rfl ?_
        exact vjX11_dent_21 C hA a  t hw
set_option maxHeartbeats 4000000 in
set_option maxRecDepth 100000 in
theorem ctX11_about (l : Launch) (E : VE) (a : Nat → Nat → Nat) (x1 : Int32) (x2 : Int32) (t : Nat → St)  {Post : Int32 → (Nat → St) → Prop} (hw : wpX11_about x1 x2 t Post) (sz : Nat) : Met l yX11_about (mW yX11_about cX11_about 3 (some .int)) rmX11_about (CPre E [.ref (a 0 0), .int x1, .int x2] sz (wBig E a t)) (CQi E Post (fun u => wBig E a u) (wBig E a t) sz) 0 0 (va_A (wBig E a t) sz) := by
  refine v_met (by decide) (Nat.le_of_ble_eq_true rfl) ?_
  intro pr e s m below meth c A hsz hA C
  subst hsz
  refine v_aload_n (pc := 0) C 0 rfl rfl dX11_about_0 ?_
  refine v_get (pc := 1) C cfX11 rfl 0 1 rfl (by decide) wfX11_19 rfl dX11_about_1 ?_
  refine v_iload_n (pc := 4) C 1 rfl rfl dX11_about_4 ?_
  refine v_goBi (pc := 5) C (bs := (bsBig E a t)) (cs := [bPad E (a 2) (t 2)]) (cs' := (fun (_ : Unit) => [bPad E (a 2) (t 2)])) (bs' := (fun (_ : Unit) => (bsBig E a t))) (w' := (fun (_ : Unit) => (wBig E a t))) [2] (wBig_fl E a t) rfl (fun _ => rfl) (fun _ => rfl) (fun _ => (wBig_fl _ _ _).symm) (v_runVB (pc := 5) C [.int x1] [] (fun sz => ctX4_hasNote l E (a 2) x1 (t 2) hw sz) [2] (wBig_fl E a t) rfl rfl mfX4_hasNote mvX4_hasNote wmX11_174 rfl ⟨Nat.le_of_ble_eq_true rfl, Nat.le_of_ble_eq_true rfl⟩ ⟨rfl, rfl⟩ 10 (ci := 4) (qc := (RX4, TX4, 12)) rfl rfl rfl rfl (Nat.le_of_ble_eq_true rfl) ⟨Nat.zero_le _, Nat.zero_le _⟩ dX11_about_5) (fun r1 _ hw => ?_)
  refine v_if_ne (pc := 8) C 18 (by decide) dX11_about_8 (fun hc => ?_) (fun hc => ?_)
  · have hw := hw.1 hc
    refine v_iload_n (pc := 18) C 2 rfl rfl dX11_about_18 ?_
    by_cases hc0 : x2 = 0
    · have hw := hw.1 hc0
      refine v_tblIn (pc := 19) C (off := 37) 56 dX11_about_19 (by rw [hc0]; decide) (by rw [hc0]; decide) (by rw [hc0]; decide) (by decide) ?_
      refine v_aload_n (pc := 56) C 0 rfl rfl dX11_about_56 ?_
      refine v_get (pc := 57) C cfX11 rfl 0 1 rfl (by decide) wfX11_19 rfl dX11_about_57 ?_
      refine v_getN (pc := 60) C cfX4 rfl 10 5 rfl (by decide) wfX11_177 rfl dX11_about_60 ?_
      refine v_iload_n (pc := 63) C 1 rfl rfl dX11_about_63 ?_
      obtain ⟨hg, hw⟩ := hw
      refine v_iald (pc := 64) C 13 rfl hg rfl dX11_about_64 ?_
      exact v_ireti (pc := 65) C t hA rfl hw dX11_about_65
    replace hw := hw.2
    by_cases hc1 : x2 = 1
    · have hw := hw.1 hc1
      refine v_tblIn (pc := 19) C (off := 47) 66 dX11_about_19 (by rw [hc1]; decide) (by rw [hc1]; decide) (by rw [hc1]; decide) (by decide) ?_
      refine v_aload_n (pc := 66) C 0 rfl rfl dX11_about_66 ?_
      refine v_get (pc := 67) C cfX11 rfl 0 1 rfl (by decide) wfX11_19 rfl dX11_about_67 ?_
      refine v_getN (pc := 70) C cfX4 rfl 10 6 rfl (by decide) wfX11_180 rfl dX11_about_70 ?_
      refine v_iload_n (pc := 73) C 1 rfl rfl dX11_about_73 ?_
      obtain ⟨hg, hw⟩ := hw
      refine v_iald (pc := 74) C 14 rfl hg rfl dX11_about_74 ?_
      exact v_ireti (pc := 75) C t hA rfl hw dX11_about_75
    replace hw := hw.2
    by_cases hc2 : x2 = 2
    · have hw := hw.1 hc2
      refine v_tblIn (pc := 19) C (off := 57) 76 dX11_about_19 (by rw [hc2]; decide) (by rw [hc2]; decide) (by rw [hc2]; decide) (by decide) ?_
      refine v_aload_n (pc := 76) C 0 rfl rfl dX11_about_76 ?_
      refine v_get (pc := 77) C cfX11 rfl 0 1 rfl (by decide) wfX11_19 rfl dX11_about_77 ?_
      refine v_getN (pc := 80) C cfX4 rfl 10 7 rfl (by decide) wfX11_183 rfl dX11_about_80 ?_
      refine v_iload_n (pc := 83) C 1 rfl rfl dX11_about_83 ?_
      obtain ⟨hg, hw⟩ := hw
      refine v_iald (pc := 84) C 15 rfl hg rfl dX11_about_84 ?_
      exact v_ireti (pc := 85) C t hA rfl hw dX11_about_85
    replace hw := hw.2
    by_cases hc3 : x2 = 3
    · have hw := hw.1 hc3
      refine v_tblIn (pc := 19) C (off := 67) 86 dX11_about_19 (by rw [hc3]; decide) (by rw [hc3]; decide) (by rw [hc3]; decide) (by decide) ?_
      refine v_aload_n (pc := 86) C 0 rfl rfl dX11_about_86 ?_
      refine v_get (pc := 87) C cfX11 rfl 0 1 rfl (by decide) wfX11_19 rfl dX11_about_87 ?_
      refine v_getN (pc := 90) C cfX4 rfl 10 8 rfl (by decide) wfX11_186 rfl dX11_about_90 ?_
      refine v_iload_n (pc := 93) C 1 rfl rfl dX11_about_93 ?_
      obtain ⟨hg, hw⟩ := hw
      refine v_iald (pc := 94) C 16 rfl hg rfl dX11_about_94 ?_
      exact v_ireti (pc := 95) C t hA rfl hw dX11_about_95
    replace hw := hw.2
    by_cases hc4 : x2 = 4
    · have hw := hw.1 hc4
      refine v_tblIn (pc := 19) C (off := 77) 96 dX11_about_19 (by rw [hc4]; decide) (by rw [hc4]; decide) (by rw [hc4]; decide) (by decide) ?_
      refine v_aload_n (pc := 96) C 0 rfl rfl dX11_about_96 ?_
      refine v_get (pc := 97) C cfX11 rfl 0 1 rfl (by decide) wfX11_19 rfl dX11_about_97 ?_
      refine v_iload_n (pc := 100) C 1 rfl rfl dX11_about_100 ?_
      refine v_aload_n (pc := 101) C 0 rfl rfl dX11_about_101 ?_
      refine v_get (pc := 102) C cfX11 rfl 0 1 rfl (by decide) wfX11_19 rfl dX11_about_102 ?_
      refine v_getN (pc := 105) C cfX4 rfl 10 8 rfl (by decide) wfX11_186 rfl dX11_about_105 ?_
      refine v_iload_n (pc := 108) C 1 rfl rfl dX11_about_108 ?_
      obtain ⟨hg, hw⟩ := hw
      refine v_iald (pc := 109) C 16 rfl hg rfl dX11_about_109 ?_
      refine v_goBi (pc := 110) C (bs := (bsBig E a t)) (cs := [bPad E (a 2) (t 2)]) (cs' := (fun (_ : Unit) => [bPad E (a 2) (t 2)])) (bs' := (fun (_ : Unit) => (bsBig E a t))) (w' := (fun (_ : Unit) => (wBig E a t))) [2] (wBig_fl E a t) rfl (fun _ => rfl) (fun _ => rfl) (fun _ => (wBig_fl _ _ _).symm) (v_runVB (pc := 110) C [.int x1, .int (((t 2).A 8) x1.toNatClampNeg)] [] (fun sz => ctX4_forceOn l E (a 2) x1 (((t 2).A 8) x1.toNatClampNeg) (t 2) hw sz) [2] (wBig_fl E a t) rfl rfl mfX4_forceOn mvX4_forceOn wmX11_189 rfl ⟨Nat.le_of_ble_eq_true rfl, Nat.le_of_ble_eq_true rfl⟩ ⟨rfl, rfl⟩ 10 (ci := 4) (qc := (RX4, TX4, 12)) rfl rfl rfl rfl (Nat.le_of_ble_eq_true rfl) ⟨Nat.zero_le _, Nat.zero_le _⟩ dX11_about_110) (fun r2 _ hw => ?_)
      exact v_ireti (pc := 113) C t hA rfl hw dX11_about_113
    replace hw := hw.2
    by_cases hc5 : x2 = 5
    · have hw := hw.1 hc5
      refine v_tblIn (pc := 19) C (off := 95) 114 dX11_about_19 (by rw [hc5]; decide) (by rw [hc5]; decide) (by rw [hc5]; decide) (by decide) ?_
      refine v_aload_n (pc := 114) C 0 rfl rfl dX11_about_114 ?_
      refine v_get (pc := 115) C cfX11 rfl 0 0 rfl (by decide) wfX11_12 rfl dX11_about_115 ?_
      refine v_aload_n (pc := 118) C 0 rfl rfl dX11_about_118 ?_
      refine v_get (pc := 119) C cfX11 rfl 0 1 rfl (by decide) wfX11_19 rfl dX11_about_119 ?_
      refine v_getN (pc := 122) C cfX4 rfl 10 5 rfl (by decide) wfX11_177 rfl dX11_about_122 ?_
      refine v_iload_n (pc := 125) C 1 rfl rfl dX11_about_125 ?_
      obtain ⟨hg, hw⟩ := hw
      refine v_iald (pc := 126) C 13 rfl hg rfl dX11_about_126 ?_
      refine v_goBi (pc := 127) C (bs := (bsBig E a t)) (cs := [bBox E (a 1)]) (cs' := (fun (_ : Unit) => [bBox E (a 1)])) (bs' := (fun (_ : Unit) => (bsBig E a t))) (w' := (fun (_ : Unit) => (wBig E a t))) [1] (wBig_fl E a t) rfl (fun _ => rfl) (fun _ => rfl) (fun _ => (wBig_fl _ _ _).symm) (v_runVB (pc := 127) C [.int (((t 2).A 5) x1.toNatClampNeg)] [] (fun sz => ctX5_hasInk l E (a 1) (((t 2).A 5) x1.toNatClampNeg) hw sz) [1] (wBig_fl E a t) rfl rfl mfX5_hasInk mvX5_hasInk wmX11_192 rfl ⟨Nat.le_of_ble_eq_true rfl, Nat.le_of_ble_eq_true rfl⟩ ⟨rfl, rfl⟩ 2 (ci := 5) (qc := (RX5, TX5, 1)) rfl rfl rfl rfl (Nat.le_of_ble_eq_true rfl) ⟨Nat.zero_le _, Nat.zero_le _⟩ dX11_about_127) (fun r3 _ hw => ?_)
      refine v_if_eq (pc := 130) C 137 (by decide) dX11_about_130 (fun hc => ?_) (fun hc => ?_)
      · have hw := hw.1 hc
        refine v_iconst (pc := 137) C 0 ki_0 dX11_about_137 ?_
        exact v_ireti (pc := 138) C t hA rfl hw dX11_about_138
      · have hw := hw.2 hc
        refine v_iconst (pc := 133) C 1 ki_1 dX11_about_133 ?_
        refine v_goto (pc := 134) C 138 (by decide) dX11_about_134 ?_
        exact v_ireti (pc := 138) C t hA rfl hw dX11_about_138
    replace hw := hw.2
    replace hw := hw hc0 hc1 hc2 hc3 hc4 hc5
    refine v_tblOut (pc := 19) C 139 (by decide) dX11_about_19 (tblo (k := 5) (by decide) (fun j hj => by rcases (show j = 0 ∨ j = 1 ∨ j = 2 ∨ j = 3 ∨ j = 4 ∨ j = 5 by omega) with rfl | rfl | rfl | rfl | rfl | rfl <;> assumption)) ?_
    refine v_aload_n (pc := 139) C 0 rfl rfl dX11_about_139 ?_
    refine v_bipush (pc := 140) C (-2) kb_m2 dX11_about_140 ?_
    refine v_goAi (pc := 142) C (wc' := (fun (u : (Nat → St)) => (wBig E a u))) (fun _ => rfl) (v_runVA (pc := 142) C [.int (-2)] [] (fun sz => ctX11_bad l E a (-2) t hw sz) mfX11_bad mvX11_bad wmX11_77 rfl ⟨Nat.le_of_ble_eq_true rfl, Nat.le_of_ble_eq_true rfl⟩ ⟨rfl, rfl⟩ 0 (ci := 11) (qc := (RX11, TX11, 15)) rfl rfl rfl rfl (Nat.le_of_ble_eq_true rfl) ⟨Nat.zero_le _, Nat.zero_le _⟩ dX11_about_142) (fun r4 t5 hw => ?_)
    exact v_ireti (pc := 145) C t5 hA rfl hw dX11_about_145
  · have hw := hw.2 hc
    refine v_aload_n (pc := 11) C 0 rfl rfl dX11_about_11 ?_
    refine v_bipush (pc := 12) C (-2) kb_m2 dX11_about_12 ?_
    refine v_goAi (pc := 14) C (wc' := (fun (u : (Nat → St)) => (wBig E a u))) (fun _ => rfl) (v_runVA (pc := 14) C [.int (-2)] [] (fun sz => ctX11_bad l E a (-2) t hw sz) mfX11_bad mvX11_bad wmX11_77 rfl ⟨Nat.le_of_ble_eq_true rfl, Nat.le_of_ble_eq_true rfl⟩ ⟨rfl, rfl⟩ 0 (ci := 11) (qc := (RX11, TX11, 15)) rfl rfl rfl rfl (Nat.le_of_ble_eq_true rfl) ⟨Nat.zero_le _, Nat.zero_le _⟩ dX11_about_14) (fun r6 t7 hw => ?_)
    exact v_ireti (pc := 17) C t7 hA rfl hw dX11_about_17
set_option maxHeartbeats 4000000 in
set_option maxRecDepth 100000 in
theorem ctX11_isDepth (l : Launch) (E : VE)  (x0 : Int32)   {Post : Int32 → Prop} (hw : wpX11_isDepth x0 Post) (sz : Nat) : Met l yX11_isDepth (mW yX11_isDepth cX11_isDepth 1 (some .boolean)) rmX11_isDepth (CPre E [.int x0] sz (fl [])) (CQi E (fun (z : Int32) (_ : Unit) => Post z) (fun _ => (fl [])) (fl []) sz) 0 0 (va_A (fl []) sz) := by
  refine v_met (by decide) (Nat.le_of_ble_eq_true rfl) ?_
  intro pr e s m below meth c A hsz hA C
  subst hsz
  refine v_iload_n (pc := 0) C 0 rfl rfl dX11_isDepth_0 ?_
  refine v_if_lt (pc := 1) C 14 (by decide) dX11_isDepth_1 (fun hc => ?_) (fun hc => ?_)
  · have hw := hw.1 hc
    refine v_iconst (pc := 14) C 0 ki_0 dX11_isDepth_14 ?_
    exact v_iretz (pc := 15) C rfl () hA rfl hw dX11_isDepth_15
  · have hw := hw.2 hc
    refine v_iload_n (pc := 4) C 0 rfl rfl dX11_isDepth_4 ?_
    refine v_bipush (pc := 5) C 6 kb_6 dX11_isDepth_5 ?_
    refine v_icmp_ge (pc := 7) C 14 (by decide) dX11_isDepth_7 (fun hc => ?_) (fun hc => ?_)
    · have hw := hw.1 hc
      refine v_iconst (pc := 14) C 0 ki_0 dX11_isDepth_14 ?_
      exact v_iretz (pc := 15) C rfl () hA rfl hw dX11_isDepth_15
    · have hw := hw.2 hc
      refine v_iconst (pc := 10) C 1 ki_1 dX11_isDepth_10 ?_
      refine v_goto (pc := 11) C 15 (by decide) dX11_isDepth_11 ?_
      exact v_iretz (pc := 15) C rfl () hA rfl hw dX11_isDepth_15
set_option maxHeartbeats 4000000 in
set_option maxRecDepth 100000 in
theorem vjX11_force_15 (C : VC pr s m args meth c E A cX11_force 4 (some .int) RX11) (hA : va_A w0 s.heap.size = A) (a : Nat → Nat → Nat)  {Post : Int32 → (Nat → St) → Prop} (t : Nat → St) (hw : wjX11_force_15  Post t) : V pr l e rmX11_force s m args below meth c E A 4 0 0 (MQ below (CQi E Post (fun u => wBig E a u) w0 s.heap.size) args s 0 0 A) (wBig E a t) 15 [(0, .ref (a 0 0))] [] := by
  refine v_aload_n (pc := 15) C 0 rfl rfl dX11_force_15 ?_
  refine v_bipush (pc := 16) C (-2) kb_m2 dX11_force_16 ?_
  refine v_goAi (pc := 18) C (wc' := (fun (u : (Nat → St)) => (wBig E a u))) (fun _ => rfl) (v_runVA (pc := 18) C [.int (-2)] [] (fun sz => ctX11_bad l E a (-2) t hw sz) mfX11_bad mvX11_bad wmX11_77 rfl ⟨Nat.le_of_ble_eq_true rfl, Nat.le_of_ble_eq_true rfl⟩ ⟨rfl, rfl⟩ 0 (ci := 11) (qc := (RX11, TX11, 15)) rfl rfl rfl rfl (Nat.le_of_ble_eq_true rfl) ⟨Nat.zero_le _, Nat.zero_le _⟩ dX11_force_18) (fun r2 t3 hw => ?_)
  exact v_ireti (pc := 21) C t3 hA rfl hw dX11_force_21
set_option maxHeartbeats 4000000 in
set_option maxRecDepth 100000 in
theorem ctX11_force (l : Launch) (E : VE) (a : Nat → Nat → Nat) (x1 : Int32) (x2 : Int32) (x3 : Int32) (t : Nat → St)  {Post : Int32 → (Nat → St) → Prop} (hw : wpX11_force x1 x2 x3 t Post) (sz : Nat) : Met l yX11_force (mW yX11_force cX11_force 4 (some .int)) rmX11_force (CPre E [.ref (a 0 0), .int x1, .int x2, .int x3] sz (wBig E a t)) (CQi E Post (fun u => wBig E a u) (wBig E a t) sz) 0 0 (va_A (wBig E a t) sz) := by
  refine v_met (by decide) (Nat.le_of_ble_eq_true rfl) ?_
  intro pr e s m below meth c A hsz hA C
  subst hsz
  refine v_iload_n (pc := 0) C 1 rfl rfl dX11_force_0 ?_
  refine v_iload_n (pc := 1) C 2 rfl rfl dX11_force_1 ?_
  refine v_goBi (pc := 2) C (bs := (bsBig E a t)) (cs := []) (cs' := (fun (_ : Unit) => [])) (bs' := (fun (_ : Unit) => (bsBig E a t))) (w' := (fun (_ : Unit) => (wBig E a t))) [] (wBig_fl E a t) rfl (fun _ => rfl) (fun _ => rfl) (fun _ => (wBig_fl _ _ _).symm) (v_runSB (pc := 2) C [.int x1, .int x2] [] (fun sz => ctX11_isPen l E x1 x2 hw sz) [] (wBig_fl E a t) rfl rfl mfX11_isPen msX11_isPen wmX11_95 rfl ⟨Nat.le_of_ble_eq_true rfl, Nat.le_of_ble_eq_true rfl⟩ ⟨rfl, rfl⟩ rfl (Nat.le_of_ble_eq_true rfl) ⟨Nat.zero_le _, Nat.zero_le _⟩ dX11_force_2) (fun r1 _ hw => ?_)
  refine v_if_eq (pc := 5) C 15 (by decide) dX11_force_5 (fun hc => ?_) (fun hc => ?_)
  · have hw := hw.1 hc
    refine v_sub (lv' := [(0, .ref (a 0 0))]) [0] rfl ?_
    exact vjX11_force_15 C hA a  t hw
  · have hw := hw.2 hc
    refine v_iload_n (pc := 8) C 3 rfl rfl dX11_force_8 ?_
    refine v_goBi (pc := 9) C (bs := (bsBig E a t)) (cs := []) (cs' := (fun (_ : Unit) => [])) (bs' := (fun (_ : Unit) => (bsBig E a t))) (w' := (fun (_ : Unit) => (wBig E a t))) [] (wBig_fl E a t) rfl (fun _ => rfl) (fun _ => rfl) (fun _ => (wBig_fl _ _ _).symm) (v_runSB (pc := 9) C [.int x3] [] (fun sz => ctX11_isDepth l E x3 hw sz) [] (wBig_fl E a t) rfl rfl mfX11_isDepth msX11_isDepth wmX11_195 rfl ⟨Nat.le_of_ble_eq_true rfl, Nat.le_of_ble_eq_true rfl⟩ ⟨rfl, rfl⟩ rfl (Nat.le_of_ble_eq_true rfl) ⟨Nat.zero_le _, Nat.zero_le _⟩ dX11_force_9) (fun r4 _ hw => ?_)
    refine v_if_ne (pc := 12) C 22 (by decide) dX11_force_12 (fun hc => ?_) (fun hc => ?_)
    · have hw := hw.1 hc
      refine v_aload_n (pc := 22) C 0 rfl rfl dX11_force_22 ?_
      refine v_get (pc := 23) C cfX11 rfl 0 0 rfl (by decide) wfX11_12 rfl dX11_force_23 ?_
      refine v_iload_n (pc := 26) C 1 rfl rfl dX11_force_26 ?_
      refine v_iload_n (pc := 27) C 2 rfl rfl dX11_force_27 ?_
      refine v_iload_n (pc := 28) C 3 rfl rfl dX11_force_28 ?_
      refine v_goBi (pc := 29) C (bs := (bsBig E a t)) (cs := [bBox E (a 1)]) (cs' := (fun (_ : Unit) => [bBox E (a 1)])) (bs' := (fun (_ : Unit) => (bsBig E a t))) (w' := (fun (_ : Unit) => (wBig E a t))) [1] (wBig_fl E a t) rfl (fun _ => rfl) (fun _ => rfl) (fun _ => (wBig_fl _ _ _).symm) (v_runVB (pc := 29) C [.int x1, .int x2, .int x3] [] (fun sz => ctX5_forceOf l E (a 1) x1 x2 x3 hw sz) [1] (wBig_fl E a t) rfl rfl mfX5_forceOf mvX5_forceOf wmX11_198 rfl ⟨Nat.le_of_ble_eq_true rfl, Nat.le_of_ble_eq_true rfl⟩ ⟨rfl, rfl⟩ 2 (ci := 5) (qc := (RX5, TX5, 1)) rfl rfl rfl rfl (Nat.le_of_ble_eq_true rfl) ⟨Nat.zero_le _, Nat.zero_le _⟩ dX11_force_29) (fun r5 _ hw => ?_)
      exact v_ireti (pc := 32) C t hA rfl hw dX11_force_32
    · have hw := hw.2 hc
      refine v_sub (lv' := [(0, .ref (a 0 0))]) [0] rfl ?_
      exact vjX11_force_15 C hA a  t hw
set_option maxHeartbeats 4000000 in
set_option maxRecDepth 100000 in
theorem ctX11_whose (l : Launch) (E : VE) (a : Nat → Nat → Nat) (x1 : Int32) (t : Nat → St)  {Post : Int32 → (Nat → St) → Prop} (hw : wpX11_whose x1 t Post) (sz : Nat) : Met l yX11_whose (mW yX11_whose cX11_whose 2 (some .int)) rmX11_whose (CPre E [.ref (a 0 0), .int x1] sz (wBig E a t)) (CQi E Post (fun u => wBig E a u) (wBig E a t) sz) 0 0 (va_A (wBig E a t) sz) := by
  refine v_met (by decide) (Nat.le_of_ble_eq_true rfl) ?_
  intro pr e s m below meth c A hsz hA C
  subst hsz
  refine v_aload_n (pc := 0) C 0 rfl rfl dX11_whose_0 ?_
  refine v_get (pc := 1) C cfX11 rfl 0 1 rfl (by decide) wfX11_19 rfl dX11_whose_1 ?_
  refine v_iload_n (pc := 4) C 1 rfl rfl dX11_whose_4 ?_
  refine v_goBi (pc := 5) C (bs := (bsBig E a t)) (cs := [bPad E (a 2) (t 2)]) (cs' := (fun (_ : Unit) => [bPad E (a 2) (t 2)])) (bs' := (fun (_ : Unit) => (bsBig E a t))) (w' := (fun (_ : Unit) => (wBig E a t))) [2] (wBig_fl E a t) rfl (fun _ => rfl) (fun _ => rfl) (fun _ => (wBig_fl _ _ _).symm) (v_runVB (pc := 5) C [.int x1] [] (fun sz => ctX4_hasSheet l E (a 2) x1 (t 2) hw sz) [2] (wBig_fl E a t) rfl rfl mfX4_hasSheet mvX4_hasSheet wmX11_155 rfl ⟨Nat.le_of_ble_eq_true rfl, Nat.le_of_ble_eq_true rfl⟩ ⟨rfl, rfl⟩ 10 (ci := 4) (qc := (RX4, TX4, 12)) rfl rfl rfl rfl (Nat.le_of_ble_eq_true rfl) ⟨Nat.zero_le _, Nat.zero_le _⟩ dX11_whose_5) (fun r1 _ hw => ?_)
  refine v_if_eq (pc := 8) C 22 (by decide) dX11_whose_8 (fun hc => ?_) (fun hc => ?_)
  · have hw := hw.1 hc
    refine v_aload_n (pc := 22) C 0 rfl rfl dX11_whose_22 ?_
    refine v_bipush (pc := 23) C (-2) kb_m2 dX11_whose_23 ?_
    refine v_goAi (pc := 25) C (wc' := (fun (u : (Nat → St)) => (wBig E a u))) (fun _ => rfl) (v_runVA (pc := 25) C [.int (-2)] [] (fun sz => ctX11_bad l E a (-2) t hw sz) mfX11_bad mvX11_bad wmX11_77 rfl ⟨Nat.le_of_ble_eq_true rfl, Nat.le_of_ble_eq_true rfl⟩ ⟨rfl, rfl⟩ 0 (ci := 11) (qc := (RX11, TX11, 15)) rfl rfl rfl rfl (Nat.le_of_ble_eq_true rfl) ⟨Nat.zero_le _, Nat.zero_le _⟩ dX11_whose_25) (fun r2 t3 hw => ?_)
    exact v_ireti (pc := 28) C t3 hA rfl hw dX11_whose_28
  · have hw := hw.2 hc
    refine v_aload_n (pc := 11) C 0 rfl rfl dX11_whose_11 ?_
    refine v_get (pc := 12) C cfX11 rfl 0 1 rfl (by decide) wfX11_19 rfl dX11_whose_12 ?_
    refine v_iload_n (pc := 15) C 1 rfl rfl dX11_whose_15 ?_
    refine v_goBi (pc := 16) C (bs := (bsBig E a t)) (cs := [bPad E (a 2) (t 2)]) (cs' := (fun (_ : Unit) => [bPad E (a 2) (t 2)])) (bs' := (fun (_ : Unit) => (bsBig E a t))) (w' := (fun (_ : Unit) => (wBig E a t))) [2] (wBig_fl E a t) rfl (fun _ => rfl) (fun _ => rfl) (fun _ => (wBig_fl _ _ _).symm) (v_runVB (pc := 16) C [.int x1] [] (fun sz => ctX4_dentedBy l E (a 2) x1 (t 2) hw sz) [2] (wBig_fl E a t) rfl rfl mfX4_dentedBy mvX4_dentedBy wmX11_202 rfl ⟨Nat.le_of_ble_eq_true rfl, Nat.le_of_ble_eq_true rfl⟩ ⟨rfl, rfl⟩ 10 (ci := 4) (qc := (RX4, TX4, 12)) rfl rfl rfl rfl (Nat.le_of_ble_eq_true rfl) ⟨Nat.zero_le _, Nat.zero_le _⟩ dX11_whose_16) (fun r4 _ hw => ?_)
    refine v_goto (pc := 19) C 28 (by decide) dX11_whose_19 ?_
    exact v_ireti (pc := 28) C t hA rfl hw dX11_whose_28
set_option maxHeartbeats 4000000 in
set_option maxRecDepth 100000 in
theorem vjX11_own_22 (C : VC pr s m args meth c E A cX11_own 5 (some .int) RX11) (hA : va_A w0 s.heap.size = A) (a : Nat → Nat → Nat)  {Post : Int32 → (Nat → St) → Prop} (t : Nat → St) (hw : wjX11_own_22  Post t) : V pr l e rmX11_own s m args below meth c E A 5 0 0 (MQ below (CQi E Post (fun u => wBig E a u) w0 s.heap.size) args s 0 0 A) (wBig E a t) 22 [(0, .ref (a 0 0))] [] := by
  refine v_aload_n (pc := 22) C 0 rfl rfl dX11_own_22 ?_
  refine v_bipush (pc := 23) C (-2) kb_m2 dX11_own_23 ?_
  refine v_goAi (pc := 25) C (wc' := (fun (u : (Nat → St)) => (wBig E a u))) (fun _ => rfl) (v_runVA (pc := 25) C [.int (-2)] [] (fun sz => ctX11_bad l E a (-2) t hw sz) mfX11_bad mvX11_bad wmX11_77 rfl ⟨Nat.le_of_ble_eq_true rfl, Nat.le_of_ble_eq_true rfl⟩ ⟨rfl, rfl⟩ 0 (ci := 11) (qc := (RX11, TX11, 15)) rfl rfl rfl rfl (Nat.le_of_ble_eq_true rfl) ⟨Nat.zero_le _, Nat.zero_le _⟩ dX11_own_25) (fun r2 t3 hw => ?_)
  exact v_ireti (pc := 28) C t3 hA rfl hw dX11_own_28
set_option maxHeartbeats 4000000 in
set_option maxRecDepth 100000 in
theorem vlX11_own_34 (C : VC pr s m args meth c E A cX11_own 5 (some .int) RX11) (hA : va_A w0 s.heap.size = A) (a : Nat → Nat → Nat)  {Post : Int32 → (Nat → St) → Prop} {KX : Int32 → Int32 → Int32 → (Nat → St) → Prop} (hX : ∀ (x1 : Int32) (x2 : Int32) (x3 : Int32) (t : Nat → St), KX x1 x2 x3 t → V pr l e rmX11_own s m args below meth c E A 5 0 0 (MQ below (CQi E Post (fun u => wBig E a u) w0 s.heap.size) args s 0 0 A) (wBig E a t) 71 [(0, .ref (a 0 0)), (1, .int x1), (2, .int x2), (3, .int x3)] []) : ∀ (n : Nat) (x1 : Int32) (x2 : Int32) (x3 : Int32) (x4 : Int32) (t : Nat → St), wLX11_own_34  Post KX n (x1, x2, x3, x4, t) → V pr l e rmX11_own s m args below meth c E A 5 0 0 (MQ below (CQi E Post (fun u => wBig E a u) w0 s.heap.size) args s 0 0 A) (wBig E a t) 34 [(0, .ref (a 0 0)), (1, .int x1), (2, .int x2), (3, .int x3), (4, .int x4)] [] := by
  intro n
  induction n with
  | zero => intro x1 x2 x3 x4 t hw; exact absurd hw id
  | succ n hself =>
    intro x1 x2 x3 x4 t hw
    have hw : wlX11_own_34  Post KX (wLX11_own_34  Post KX n) x1 x2 x3 x4 t := hw
    refine v_iload (pc := 34) C 4 rfl dX11_own_34 ?_
    refine v_aload_n (pc := 36) C 0 rfl rfl dX11_own_36 ?_
    refine v_get (pc := 37) C cfX11 rfl 0 1 rfl (by decide) wfX11_19 rfl dX11_own_37 ?_
    refine v_goBi (pc := 40) C (bs := (bsBig E a t)) (cs := [bPad E (a 2) (t 2)]) (cs' := (fun (_ : Unit) => [bPad E (a 2) (t 2)])) (bs' := (fun (_ : Unit) => (bsBig E a t))) (w' := (fun (_ : Unit) => (wBig E a t))) [2] (wBig_fl E a t) rfl (fun _ => rfl) (fun _ => rfl) (fun _ => (wBig_fl _ _ _).symm) (v_runVB (pc := 40) C [] [.int x4] (fun sz => ctX4_noteCount l E (a 2) (t 2) hw sz) [2] (wBig_fl E a t) rfl rfl mfX4_noteCount mvX4_noteCount wmX11_110 rfl ⟨Nat.le_of_ble_eq_true rfl, Nat.le_of_ble_eq_true rfl⟩ ⟨rfl, rfl⟩ 10 (ci := 4) (qc := (RX4, TX4, 12)) rfl rfl rfl rfl (Nat.le_of_ble_eq_true rfl) ⟨Nat.zero_le _, Nat.zero_le _⟩ dX11_own_40) (fun r5 _ hw => ?_)
    refine v_icmp_ge (pc := 43) C 71 (by decide) dX11_own_43 (fun hc => ?_) (fun hc => ?_)
    · have hw := hw.1 hc
      refine v_sub (lv' := [(0, .ref (a 0 0)), (1, .int x1), (2, .int x2), (3, .int x3)]) [0, 1, 2, 3] rfl ?_
      exact hX x1 x2 x3 t hw
    · have hw := hw.2 hc
      refine v_iload (pc := 46) C 4 rfl dX11_own_46 ?_
      refine v_iload_n (pc := 48) C 1 rfl rfl dX11_own_48 ?_
      refine v_icmp_eq (pc := 49) C 65 (by decide) dX11_own_49 (fun hc => ?_) (fun hc => ?_)
      · have hw := hw.1 hc
        obtain ⟨x4_6, ex⟩ : ∃ y : Int32, y = x4 + 1 := ⟨_, rfl⟩
        have hw := hw x4_6 ex
        refine v_iinc (pc := 65) C 4 rfl (by rw [ex, ki_1]) [(4, .int x4_6), (0, .ref (a 0 0)), (1, .int x1), (2, .int x2), (3, .int x3)] rfl (by decide) dX11_own_65 ?_
        refine v_goto (pc := 68) C 34 (by decide) dX11_own_68 ?_
        refine v_sub (lv' := [(0, .ref (a 0 0)), (1, .int x1), (2, .int x2), (3, .int x3), (4, .int x4_6)]) [1, 2, 3, 4, 0] rfl ?_
        exact hself x1 x2 x3 x4_6 t hw
      · have hw := hw.2 hc
        refine v_iload_n (pc := 52) C 3 rfl rfl dX11_own_52 ?_
        refine v_aload_n (pc := 53) C 0 rfl rfl dX11_own_53 ?_
        refine v_get (pc := 54) C cfX11 rfl 0 1 rfl (by decide) wfX11_19 rfl dX11_own_54 ?_
        refine v_iload (pc := 57) C 4 rfl dX11_own_57 ?_
        refine v_iload_n (pc := 59) C 2 rfl rfl dX11_own_59 ?_
        refine v_goBi (pc := 60) C (bs := (bsBig E a t)) (cs := [bPad E (a 2) (t 2)]) (cs' := (fun (_ : Unit) => [bPad E (a 2) (t 2)])) (bs' := (fun (_ : Unit) => (bsBig E a t))) (w' := (fun (_ : Unit) => (wBig E a t))) [2] (wBig_fl E a t) rfl (fun _ => rfl) (fun _ => rfl) (fun _ => (wBig_fl _ _ _).symm) (v_runVB (pc := 60) C [.int x4, .int x2] [.int x3] (fun sz => ctX4_cellsDented l E (a 2) x4 x2 (t 2) hw sz) [2] (wBig_fl E a t) rfl rfl mfX4_cellsDented mvX4_cellsDented wmX11_205 rfl ⟨Nat.le_of_ble_eq_true rfl, Nat.le_of_ble_eq_true rfl⟩ ⟨rfl, rfl⟩ 10 (ci := 4) (qc := (RX4, TX4, 12)) rfl rfl rfl rfl (Nat.le_of_ble_eq_true rfl) ⟨Nat.zero_le _, Nat.zero_le _⟩ dX11_own_60) (fun r7 _ hw => ?_)
        refine v_ior (pc := 63) C dX11_own_63 ?_
        refine v_topi (fun x3_8 ex => ?_)
        have hw := hw x3_8 ex
        refine v_istore_n (pc := 64) C [(3, .int x3_8), (0, .ref (a 0 0)), (1, .int x1), (2, .int x2), (4, .int x4)] rfl rfl (by decide) dX11_own_64 ?_
        obtain ⟨x4_9, ex⟩ : ∃ y : Int32, y = x4 + 1 := ⟨_, rfl⟩
        have hw := hw x4_9 ex
        refine v_iinc (pc := 65) C 4 rfl (by rw [ex, ki_1]) [(4, .int x4_9), (3, .int x3_8), (0, .ref (a 0 0)), (1, .int x1), (2, .int x2)] rfl (by decide) dX11_own_65 ?_
        refine v_goto (pc := 68) C 34 (by decide) dX11_own_68 ?_
        refine v_sub (lv' := [(0, .ref (a 0 0)), (1, .int x1), (2, .int x2), (3, .int x3_8), (4, .int x4_9)]) [2, 3, 4, 1, 0] rfl ?_
        exact hself x1 x2 x3_8 x4_9 t hw
set_option maxHeartbeats 4000000 in
set_option maxRecDepth 100000 in
theorem ctX11_own (l : Launch) (E : VE) (a : Nat → Nat → Nat) (x1 : Int32) (x2 : Int32) (t : Nat → St)  {Post : Int32 → (Nat → St) → Prop} (hw : wpX11_own x1 x2 t Post) (sz : Nat) : Met l yX11_own (mW yX11_own cX11_own 5 (some .int)) rmX11_own (CPre E [.ref (a 0 0), .int x1, .int x2] sz (wBig E a t)) (CQi E Post (fun u => wBig E a u) (wBig E a t) sz) 0 0 (va_A (wBig E a t) sz) := by
  refine v_met (by decide) (Nat.le_of_ble_eq_true rfl) ?_
  intro pr e s m below meth c A hsz hA C
  subst hsz
  refine v_aload_n (pc := 0) C 0 rfl rfl dX11_own_0 ?_
  refine v_get (pc := 1) C cfX11 rfl 0 1 rfl (by decide) wfX11_19 rfl dX11_own_1 ?_
  refine v_iload_n (pc := 4) C 1 rfl rfl dX11_own_4 ?_
  refine v_goBi (pc := 5) C (bs := (bsBig E a t)) (cs := [bPad E (a 2) (t 2)]) (cs' := (fun (_ : Unit) => [bPad E (a 2) (t 2)])) (bs' := (fun (_ : Unit) => (bsBig E a t))) (w' := (fun (_ : Unit) => (wBig E a t))) [2] (wBig_fl E a t) rfl (fun _ => rfl) (fun _ => rfl) (fun _ => (wBig_fl _ _ _).symm) (v_runVB (pc := 5) C [.int x1] [] (fun sz => ctX4_hasNote l E (a 2) x1 (t 2) hw sz) [2] (wBig_fl E a t) rfl rfl mfX4_hasNote mvX4_hasNote wmX11_174 rfl ⟨Nat.le_of_ble_eq_true rfl, Nat.le_of_ble_eq_true rfl⟩ ⟨rfl, rfl⟩ 10 (ci := 4) (qc := (RX4, TX4, 12)) rfl rfl rfl rfl (Nat.le_of_ble_eq_true rfl) ⟨Nat.zero_le _, Nat.zero_le _⟩ dX11_own_5) (fun r1 _ hw => ?_)
  refine v_if_eq (pc := 8) C 22 (by decide) dX11_own_8 (fun hc => ?_) (fun hc => ?_)
  · have hw := hw.1 hc
    refine v_sub (lv' := [(0, .ref (a 0 0))]) [0] rfl ?_
    exact vjX11_own_22 C hA a  t hw
  · have hw := hw.2 hc
    refine v_aload_n (pc := 11) C 0 rfl rfl dX11_own_11 ?_
    refine v_get (pc := 12) C cfX11 rfl 0 1 rfl (by decide) wfX11_19 rfl dX11_own_12 ?_
    refine v_iload_n (pc := 15) C 2 rfl rfl dX11_own_15 ?_
    refine v_goBi (pc := 16) C (bs := (bsBig E a t)) (cs := [bPad E (a 2) (t 2)]) (cs' := (fun (_ : Unit) => [bPad E (a 2) (t 2)])) (bs' := (fun (_ : Unit) => (bsBig E a t))) (w' := (fun (_ : Unit) => (wBig E a t))) [2] (wBig_fl E a t) rfl (fun _ => rfl) (fun _ => rfl) (fun _ => (wBig_fl _ _ _).symm) (v_runVB (pc := 16) C [.int x2] [] (fun sz => ctX4_hasSheet l E (a 2) x2 (t 2) hw sz) [2] (wBig_fl E a t) rfl rfl mfX4_hasSheet mvX4_hasSheet wmX11_155 rfl ⟨Nat.le_of_ble_eq_true rfl, Nat.le_of_ble_eq_true rfl⟩ ⟨rfl, rfl⟩ 10 (ci := 4) (qc := (RX4, TX4, 12)) rfl rfl rfl rfl (Nat.le_of_ble_eq_true rfl) ⟨Nat.zero_le _, Nat.zero_le _⟩ dX11_own_16) (fun r4 _ hw => ?_)
    refine v_if_ne (pc := 19) C 29 (by decide) dX11_own_19 (fun hc => ?_) (fun hc => ?_)
    · have hw := hw.1 hc
      refine v_iconst (pc := 29) C 0 ki_0 dX11_own_29 ?_
      refine v_istore_n (pc := 30) C [(3, .int 0), (0, .ref (a 0 0)), (1, .int x1), (2, .int x2)] rfl rfl (by decide) dX11_own_30 ?_
      refine v_iconst (pc := 31) C 0 ki_0 dX11_own_31 ?_
      refine v_istore (pc := 32) C [(4, .int 0), (3, .int 0), (0, .ref (a 0 0)), (1, .int x1), (2, .int x2)] rfl (by decide) dX11_own_32 ?_
      obtain ⟨n, hw⟩ := hw
      refine v_sub (lv' := [(0, .ref (a 0 0)), (1, .int x1), (2, .int x2), (3, .int 0), (4, .int 0)]) [2, 3, 4, 1, 0] rfl ?_
      refine vlX11_own_34 C hA a  (fun y10 y11 y12 t13 hw => ?_) n x1 x2 0 0 t hw
      refine v_aload_n (pc := 71) C 0 rfl rfl dX11_own_71 ?_
      refine v_get (pc := 72) C cfX11 rfl 0 1 rfl (by decide) wfX11_19 rfl dX11_own_72 ?_
      refine v_iload_n (pc := 75) C 1 rfl rfl dX11_own_75 ?_
      refine v_iload_n (pc := 76) C 2 rfl rfl dX11_own_76 ?_
      refine v_goBi (pc := 77) C (bs := (bsBig E a t13)) (cs := [bPad E (a 2) (t13 2)]) (cs' := (fun (_ : Unit) => [bPad E (a 2) (t13 2)])) (bs' := (fun (_ : Unit) => (bsBig E a t13))) (w' := (fun (_ : Unit) => (wBig E a t13))) [2] (wBig_fl E a t13) rfl (fun _ => rfl) (fun _ => rfl) (fun _ => (wBig_fl _ _ _).symm) (v_runVB (pc := 77) C [.int y10, .int y11] [] (fun sz => ctX4_cellsDented l E (a 2) y10 y11 (t13 2) hw sz) [2] (wBig_fl E a t13) rfl rfl mfX4_cellsDented mvX4_cellsDented wmX11_205 rfl ⟨Nat.le_of_ble_eq_true rfl, Nat.le_of_ble_eq_true rfl⟩ ⟨rfl, rfl⟩ 10 (ci := 4) (qc := (RX4, TX4, 12)) rfl rfl rfl rfl (Nat.le_of_ble_eq_true rfl) ⟨Nat.zero_le _, Nat.zero_le _⟩ dX11_own_77) (fun r14 _ hw => ?_)
      refine v_iload_n (pc := 80) C 3 rfl rfl dX11_own_80 ?_
      refine v_iconst (pc := 81) C (-1) ki_m1 dX11_own_81 ?_
      refine v_ixor (pc := 82) C dX11_own_82 ?_
      refine v_iand (pc := 83) C dX11_own_83 ?_
      exact v_ireti (pc := 84) C t13 hA rfl hw dX11_own_84
    · have hw := hw.2 hc
      refine v_sub (lv' := [(0, .ref (a 0 0))]) [0] rfl ?_
      exact vjX11_own_22 C hA a  t hw
end

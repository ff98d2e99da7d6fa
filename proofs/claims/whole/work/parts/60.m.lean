section
variable {pr : Program} {l : Launch} {e : Env} {s : State} {m : MethodId} {args : Array Value} {below : List Frame} {meth : Method} {c : Code} {E : VE} {A : Nat → Prop} {w0 : va_W}
theorem dX12_bad_0 : decode cX12_bad 0 = .ok (.aload_n 0, 1) := by decide +kernel
theorem dX12_bad_1 : decode cX12_bad 1 = .ok (.iconst 0, 1) := by decide +kernel
theorem dX12_bad_2 : decode cX12_bad 2 = .ok (.bipush (-2), 2) := by decide +kernel
theorem dX12_bad_4 : decode cX12_bad 4 = .ok (.invokevirtual 52, 3) := by decide +kernel
theorem dX12_bad_7 : decode cX12_bad 7 = .ok (.ireturn, 1) := by decide +kernel
theorem dX12_badLess_0 : decode cX12_badLess 0 = .ok (.aload_n 0, 1) := by decide +kernel
theorem dX12_badLess_1 : decode cX12_badLess 1 = .ok (.iconst 0, 1) := by decide +kernel
theorem dX12_badLess_2 : decode cX12_badLess 2 = .ok (.bipush (-10), 2) := by decide +kernel
theorem dX12_badLess_4 : decode cX12_badLess 4 = .ok (.invokevirtual 52, 3) := by decide +kernel
theorem dX12_badLess_7 : decode cX12_badLess 7 = .ok (.ireturn, 1) := by decide +kernel
theorem dX12_isSheet_0 : decode cX12_isSheet 0 = .ok (.iload_n 1, 1) := by decide +kernel
theorem dX12_isSheet_1 : decode cX12_isSheet 1 = .ok (.i2l, 1) := by decide +kernel
theorem dX12_isSheet_2 : decode cX12_isSheet 2 = .ok (.lconst 0, 1) := by decide +kernel
theorem dX12_isSheet_3 : decode cX12_isSheet 3 = .ok (.aload_n 0, 1) := by decide +kernel
theorem dX12_isSheet_4 : decode cX12_isSheet 4 = .ok (.getfield 7, 3) := by decide +kernel
theorem dX12_isSheet_7 : decode cX12_isSheet 7 = .ok (.iconst 1, 1) := by decide +kernel
theorem dX12_isSheet_8 : decode cX12_isSheet 8 = .ok (.isub, 1) := by decide +kernel
theorem dX12_isSheet_9 : decode cX12_isSheet 9 = .ok (.i2l, 1) := by decide +kernel
theorem dX12_isSheet_10 : decode cX12_isSheet 10 = .ok (.invokestatic 56, 3) := by decide +kernel
theorem dX12_isSheet_13 : decode cX12_isSheet 13 = .ok (.ireturn, 1) := by decide +kernel
theorem dX12_areNotes_0 : decode cX12_areNotes 0 = .ok (.iload_n 1, 1) := by decide +kernel
theorem dX12_areNotes_1 : decode cX12_areNotes 1 = .ok (.i2l, 1) := by decide +kernel
theorem dX12_areNotes_2 : decode cX12_areNotes 2 = .ok (.lconst 0, 1) := by decide +kernel
theorem dX12_areNotes_3 : decode cX12_areNotes 3 = .ok (.iconst 1, 1) := by decide +kernel
theorem dX12_areNotes_4 : decode cX12_areNotes 4 = .ok (.aload_n 0, 1) := by decide +kernel
theorem dX12_areNotes_5 : decode cX12_areNotes 5 = .ok (.getfield 17, 3) := by decide +kernel
theorem dX12_areNotes_8 : decode cX12_areNotes 8 = .ok (.bipush 124, 2) := by decide +kernel
theorem dX12_areNotes_10 : decode cX12_areNotes 10 = .ok (.iaload, 1) := by decide +kernel
theorem dX12_areNotes_11 : decode cX12_areNotes 11 = .ok (.ishl, 1) := by decide +kernel
theorem dX12_areNotes_12 : decode cX12_areNotes 12 = .ok (.iconst 1, 1) := by decide +kernel
theorem dX12_areNotes_13 : decode cX12_areNotes 13 = .ok (.isub, 1) := by decide +kernel
theorem dX12_areNotes_14 : decode cX12_areNotes 14 = .ok (.i2l, 1) := by decide +kernel
theorem dX12_areNotes_15 : decode cX12_areNotes 15 = .ok (.invokestatic 56, 3) := by decide +kernel
theorem dX12_areNotes_18 : decode cX12_areNotes 18 = .ok (.ireturn, 1) := by decide +kernel
theorem dX12_isPen_0 : decode cX12_isPen 0 = .ok (.iload_n 0, 1) := by decide +kernel
theorem dX12_isPen_1 : decode cX12_isPen 1 = .ok (.i2l, 1) := by decide +kernel
theorem dX12_isPen_2 : decode cX12_isPen 2 = .ok (.lconst 0, 1) := by decide +kernel
theorem dX12_isPen_3 : decode cX12_isPen 3 = .ok (.ldc2_w 60, 3) := by decide +kernel
theorem dX12_isPen_6 : decode cX12_isPen 6 = .ok (.invokestatic 56, 3) := by decide +kernel
theorem dX12_isPen_9 : decode cX12_isPen 9 = .ok (.ifCond .eq 19, 3) := by decide +kernel
theorem dX12_isPen_12 : decode cX12_isPen 12 = .ok (.iload_n 1, 1) := by decide +kernel
theorem dX12_isPen_13 : decode cX12_isPen 13 = .ok (.i2l, 1) := by decide +kernel
theorem dX12_isPen_14 : decode cX12_isPen 14 = .ok (.lconst 1, 1) := by decide +kernel
theorem dX12_isPen_15 : decode cX12_isPen 15 = .ok (.ldc2_w 62, 3) := by decide +kernel
theorem dX12_isPen_18 : decode cX12_isPen 18 = .ok (.invokestatic 56, 3) := by decide +kernel
theorem dX12_isPen_21 : decode cX12_isPen 21 = .ok (.ifCond .eq 7, 3) := by decide +kernel
theorem dX12_isPen_24 : decode cX12_isPen 24 = .ok (.iconst 1, 1) := by decide +kernel
theorem dX12_isPen_25 : decode cX12_isPen 25 = .ok (.goto 4, 3) := by decide +kernel
theorem dX12_isPen_28 : decode cX12_isPen 28 = .ok (.iconst 0, 1) := by decide +kernel
theorem dX12_isPen_29 : decode cX12_isPen 29 = .ok (.ireturn, 1) := by decide +kernel
theorem dX12_pencil_0 : decode cX12_pencil 0 = .ok (.iload_n 0, 1) := by decide +kernel
theorem dX12_pencil_1 : decode cX12_pencil 1 = .ok (.iload_n 1, 1) := by decide +kernel
theorem dX12_pencil_2 : decode cX12_pencil 2 = .ok (.isub, 1) := by decide +kernel
theorem dX12_pencil_3 : decode cX12_pencil 3 = .ok (.istore_n 2, 1) := by decide +kernel
theorem dX12_pencil_4 : decode cX12_pencil 4 = .ok (.iload_n 2, 1) := by decide +kernel
theorem dX12_pencil_5 : decode cX12_pencil 5 = .ok (.ifCond .ge 7, 3) := by decide +kernel
theorem dX12_pencil_8 : decode cX12_pencil 8 = .ok (.iconst 0, 1) := by decide +kernel
theorem dX12_pencil_9 : decode cX12_pencil 9 = .ok (.goto 15, 3) := by decide +kernel
theorem dX12_pencil_12 : decode cX12_pencil 12 = .ok (.iload_n 2, 1) := by decide +kernel
theorem dX12_pencil_13 : decode cX12_pencil 13 = .ok (.bipush 9, 2) := by decide +kernel
theorem dX12_pencil_15 : decode cX12_pencil 15 = .ok (.if_icmp .le 8, 3) := by decide +kernel
theorem dX12_pencil_18 : decode cX12_pencil 18 = .ok (.bipush 9, 2) := by decide +kernel
theorem dX12_pencil_20 : decode cX12_pencil 20 = .ok (.goto 4, 3) := by decide +kernel
theorem dX12_pencil_23 : decode cX12_pencil 23 = .ok (.iload_n 2, 1) := by decide +kernel
theorem dX12_pencil_24 : decode cX12_pencil 24 = .ok (.ireturn, 1) := by decide +kernel
theorem dX12_forceOf_0 : decode cX12_forceOf 0 = .ok (.iload_n 0, 1) := by decide +kernel
theorem dX12_forceOf_1 : decode cX12_forceOf 1 = .ok (.ifCond .ne 9, 3) := by decide +kernel
theorem dX12_forceOf_4 : decode cX12_forceOf 4 = .ok (.iload_n 1, 1) := by decide +kernel
theorem dX12_forceOf_5 : decode cX12_forceOf 5 = .ok (.iload_n 2, 1) := by decide +kernel
theorem dX12_forceOf_6 : decode cX12_forceOf 6 = .ok (.invokestatic 64, 3) := by decide +kernel
theorem dX12_forceOf_9 : decode cX12_forceOf 9 = .ok (.ireturn, 1) := by decide +kernel
theorem dX12_forceOf_10 : decode cX12_forceOf 10 = .ok (.iload_n 0, 1) := by decide +kernel
theorem dX12_forceOf_11 : decode cX12_forceOf 11 = .ok (.iconst 1, 1) := by decide +kernel
theorem dX12_forceOf_12 : decode cX12_forceOf 12 = .ok (.if_icmp .eq 8, 3) := by decide +kernel
theorem dX12_forceOf_15 : decode cX12_forceOf 15 = .ok (.iload_n 0, 1) := by decide +kernel
theorem dX12_forceOf_16 : decode cX12_forceOf 16 = .ok (.iconst 3, 1) := by decide +kernel
theorem dX12_forceOf_17 : decode cX12_forceOf 17 = .ok (.if_icmp .ne 11, 3) := by decide +kernel
theorem dX12_forceOf_20 : decode cX12_forceOf 20 = .ok (.iload_n 1, 1) := by decide +kernel
theorem dX12_forceOf_21 : decode cX12_forceOf 21 = .ok (.iconst 1, 1) := by decide +kernel
theorem dX12_forceOf_22 : decode cX12_forceOf 22 = .ok (.iadd, 1) := by decide +kernel
theorem dX12_forceOf_23 : decode cX12_forceOf 23 = .ok (.iload_n 2, 1) := by decide +kernel
theorem dX12_forceOf_24 : decode cX12_forceOf 24 = .ok (.invokestatic 64, 3) := by decide +kernel
theorem dX12_forceOf_27 : decode cX12_forceOf 27 = .ok (.ireturn, 1) := by decide +kernel
theorem dX12_forceOf_28 : decode cX12_forceOf 28 = .ok (.iload_n 0, 1) := by decide +kernel
theorem dX12_forceOf_29 : decode cX12_forceOf 29 = .ok (.iconst 5, 1) := by decide +kernel
theorem dX12_forceOf_30 : decode cX12_forceOf 30 = .ok (.if_icmp .ne 13, 3) := by decide +kernel
theorem dX12_forceOf_33 : decode cX12_forceOf 33 = .ok (.iload_n 1, 1) := by decide +kernel
theorem dX12_forceOf_34 : decode cX12_forceOf 34 = .ok (.iconst 1, 1) := by decide +kernel
theorem dX12_forceOf_35 : decode cX12_forceOf 35 = .ok (.iadd, 1) := by decide +kernel
theorem dX12_forceOf_36 : decode cX12_forceOf 36 = .ok (.iload_n 2, 1) := by decide +kernel
theorem dX12_forceOf_37 : decode cX12_forceOf 37 = .ok (.iconst 2, 1) := by decide +kernel
theorem dX12_forceOf_38 : decode cX12_forceOf 38 = .ok (.idiv, 1) := by decide +kernel
theorem dX12_forceOf_39 : decode cX12_forceOf 39 = .ok (.invokestatic 64, 3) := by decide +kernel
theorem dX12_forceOf_42 : decode cX12_forceOf 42 = .ok (.ireturn, 1) := by decide +kernel
theorem dX12_forceOf_43 : decode cX12_forceOf 43 = .ok (.iload_n 0, 1) := by decide +kernel
theorem dX12_forceOf_44 : decode cX12_forceOf 44 = .ok (.iconst 4, 1) := by decide +kernel
theorem dX12_forceOf_45 : decode cX12_forceOf 45 = .ok (.if_icmp .ne 12, 3) := by decide +kernel
theorem dX12_forceOf_48 : decode cX12_forceOf 48 = .ok (.iload_n 2, 1) := by decide +kernel
theorem dX12_forceOf_49 : decode cX12_forceOf 49 = .ok (.iconst 1, 1) := by decide +kernel
theorem dX12_forceOf_50 : decode cX12_forceOf 50 = .ok (.if_icmp .le 7, 3) := by decide +kernel
theorem dX12_forceOf_53 : decode cX12_forceOf 53 = .ok (.iconst 0, 1) := by decide +kernel
theorem dX12_forceOf_54 : decode cX12_forceOf 54 = .ok (.goto 10, 3) := by decide +kernel
theorem dX12_forceOf_57 : decode cX12_forceOf 57 = .ok (.iload_n 1, 1) := by decide +kernel
theorem dX12_forceOf_58 : decode cX12_forceOf 58 = .ok (.iload_n 2, 1) := by decide +kernel
theorem dX12_forceOf_59 : decode cX12_forceOf 59 = .ok (.invokestatic 64, 3) := by decide +kernel
theorem dX12_forceOf_62 : decode cX12_forceOf 62 = .ok (.iconst 2, 1) := by decide +kernel
theorem dX12_forceOf_63 : decode cX12_forceOf 63 = .ok (.idiv, 1) := by decide +kernel
theorem dX12_forceOf_64 : decode cX12_forceOf 64 = .ok (.ireturn, 1) := by decide +kernel
theorem dX12_hasInk_0 : decode cX12_hasInk 0 = .ok (.iload_n 0, 1) := by decide +kernel
theorem dX12_hasInk_1 : decode cX12_hasInk 1 = .ok (.iconst 3, 1) := by decide +kernel
theorem dX12_hasInk_2 : decode cX12_hasInk 2 = .ok (.if_icmp .eq 12, 3) := by decide +kernel
theorem dX12_hasInk_5 : decode cX12_hasInk 5 = .ok (.iload_n 0, 1) := by decide +kernel
theorem dX12_hasInk_6 : decode cX12_hasInk 6 = .ok (.iconst 5, 1) := by decide +kernel
theorem dX12_hasInk_7 : decode cX12_hasInk 7 = .ok (.if_icmp .eq 7, 3) := by decide +kernel
theorem dX12_hasInk_10 : decode cX12_hasInk 10 = .ok (.iconst 1, 1) := by decide +kernel
theorem dX12_hasInk_11 : decode cX12_hasInk 11 = .ok (.goto 4, 3) := by decide +kernel
theorem dX12_hasInk_14 : decode cX12_hasInk 14 = .ok (.iconst 0, 1) := by decide +kernel
theorem dX12_hasInk_15 : decode cX12_hasInk 15 = .ok (.ireturn, 1) := by decide +kernel
theorem dX12_empty_0 : decode cX12_empty 0 = .ok (.iconst 0, 1) := by decide +kernel
theorem dX12_empty_1 : decode cX12_empty 1 = .ok (.istore_n 1, 1) := by decide +kernel
theorem dX12_empty_2 : decode cX12_empty 2 = .ok (.iload_n 1, 1) := by decide +kernel
theorem dX12_empty_3 : decode cX12_empty 3 = .ok (.bipush 126, 2) := by decide +kernel
theorem dX12_empty_5 : decode cX12_empty 5 = .ok (.if_icmp .ge 16, 3) := by decide +kernel
theorem dX12_empty_8 : decode cX12_empty 8 = .ok (.aload_n 0, 1) := by decide +kernel
theorem dX12_empty_9 : decode cX12_empty 9 = .ok (.getfield 17, 3) := by decide +kernel
theorem dX12_empty_12 : decode cX12_empty 12 = .ok (.iload_n 1, 1) := by decide +kernel
theorem dX12_empty_13 : decode cX12_empty 13 = .ok (.iconst 0, 1) := by decide +kernel
theorem dX12_empty_14 : decode cX12_empty 14 = .ok (.iastore, 1) := by decide +kernel
theorem dX12_empty_15 : decode cX12_empty 15 = .ok (.iinc 1 1, 3) := by decide +kernel
theorem dX12_empty_18 : decode cX12_empty 18 = .ok (.goto (-16), 3) := by decide +kernel
theorem dX12_empty_21 : decode cX12_empty 21 = .ok (.aload_n 0, 1) := by decide +kernel
theorem dX12_empty_22 : decode cX12_empty 22 = .ok (.iconst 0, 1) := by decide +kernel
theorem dX12_empty_23 : decode cX12_empty 23 = .ok (.putfield 67, 3) := by decide +kernel
theorem dX12_empty_26 : decode cX12_empty 26 = .ok (.aload_n 0, 1) := by decide +kernel
theorem dX12_empty_27 : decode cX12_empty 27 = .ok (.iconst 0, 1) := by decide +kernel
theorem dX12_empty_28 : decode cX12_empty 28 = .ok (.putfield 70, 3) := by decide +kernel
theorem dX12_empty_31 : decode cX12_empty 31 = .ok (.return_, 1) := by decide +kernel
theorem dX12_pad_0 : decode cX12_pad 0 = .ok (.iload_n 1, 1) := by decide +kernel
theorem dX12_pad_1 : decode cX12_pad 1 = .ok (.i2l, 1) := by decide +kernel
theorem dX12_pad_2 : decode cX12_pad 2 = .ok (.lconst 1, 1) := by decide +kernel
theorem dX12_pad_3 : decode cX12_pad 3 = .ok (.ldc2_w 73, 3) := by decide +kernel
theorem dX12_pad_6 : decode cX12_pad 6 = .ok (.invokestatic 56, 3) := by decide +kernel
theorem dX12_pad_9 : decode cX12_pad 9 = .ok (.ifCond .ne 8, 3) := by decide +kernel
theorem dX12_pad_12 : decode cX12_pad 12 = .ok (.aload_n 0, 1) := by decide +kernel
theorem dX12_pad_13 : decode cX12_pad 13 = .ok (.invokevirtual 75, 3) := by decide +kernel
theorem dX12_pad_16 : decode cX12_pad 16 = .ok (.ireturn, 1) := by decide +kernel
theorem dX12_pad_17 : decode cX12_pad 17 = .ok (.aload_n 0, 1) := by decide +kernel
theorem dX12_pad_18 : decode cX12_pad 18 = .ok (.getfield 7, 3) := by decide +kernel
theorem dX12_pad_21 : decode cX12_pad 21 = .ok (.istore_n 2, 1) := by decide +kernel
theorem dX12_pad_22 : decode cX12_pad 22 = .ok (.aload_n 0, 1) := by decide +kernel
theorem dX12_pad_23 : decode cX12_pad 23 = .ok (.iload_n 1, 1) := by decide +kernel
theorem dX12_pad_24 : decode cX12_pad 24 = .ok (.putfield 7, 3) := by decide +kernel
theorem dX12_pad_27 : decode cX12_pad 27 = .ok (.aload_n 0, 1) := by decide +kernel
theorem dX12_pad_28 : decode cX12_pad 28 = .ok (.iconst 0, 1) := by decide +kernel
theorem dX12_pad_29 : decode cX12_pad 29 = .ok (.putfield 79, 3) := by decide +kernel
theorem dX12_pad_32 : decode cX12_pad 32 = .ok (.aload_n 0, 1) := by decide +kernel
theorem dX12_pad_33 : decode cX12_pad 33 = .ok (.invokevirtual 82, 3) := by decide +kernel
theorem dX12_pad_36 : decode cX12_pad 36 = .ok (.iload_n 2, 1) := by decide +kernel
theorem dX12_pad_37 : decode cX12_pad 37 = .ok (.ireturn, 1) := by decide +kernel
theorem dX12_carbons_0 : decode cX12_carbons 0 = .ok (.iload_n 1, 1) := by decide +kernel
theorem dX12_carbons_1 : decode cX12_carbons 1 = .ok (.i2l, 1) := by decide +kernel
theorem dX12_carbons_2 : decode cX12_carbons 2 = .ok (.lconst 0, 1) := by decide +kernel
theorem dX12_carbons_3 : decode cX12_carbons 3 = .ok (.iconst 1, 1) := by decide +kernel
theorem dX12_carbons_4 : decode cX12_carbons 4 = .ok (.aload_n 0, 1) := by decide +kernel
theorem dX12_carbons_5 : decode cX12_carbons 5 = .ok (.getfield 7, 3) := by decide +kernel
theorem dX12_carbons_8 : decode cX12_carbons 8 = .ok (.ishl, 1) := by decide +kernel
theorem dX12_carbons_9 : decode cX12_carbons 9 = .ok (.iconst 1, 1) := by decide +kernel
theorem dX12_carbons_10 : decode cX12_carbons 10 = .ok (.isub, 1) := by decide +kernel
theorem dX12_carbons_11 : decode cX12_carbons 11 = .ok (.i2l, 1) := by decide +kernel
theorem dX12_carbons_12 : decode cX12_carbons 12 = .ok (.invokestatic 56, 3) := by decide +kernel
theorem dX12_carbons_15 : decode cX12_carbons 15 = .ok (.ifCond .ne 8, 3) := by decide +kernel
theorem dX12_carbons_18 : decode cX12_carbons 18 = .ok (.aload_n 0, 1) := by decide +kernel
theorem dX12_carbons_19 : decode cX12_carbons 19 = .ok (.invokevirtual 75, 3) := by decide +kernel
theorem dX12_carbons_22 : decode cX12_carbons 22 = .ok (.ireturn, 1) := by decide +kernel
theorem dX12_carbons_23 : decode cX12_carbons 23 = .ok (.aload_n 0, 1) := by decide +kernel
theorem dX12_carbons_24 : decode cX12_carbons 24 = .ok (.getfield 67, 3) := by decide +kernel
theorem dX12_carbons_27 : decode cX12_carbons 27 = .ok (.istore_n 2, 1) := by decide +kernel
theorem dX12_carbons_28 : decode cX12_carbons 28 = .ok (.aload_n 0, 1) := by decide +kernel
theorem dX12_carbons_29 : decode cX12_carbons 29 = .ok (.iload_n 1, 1) := by decide +kernel
theorem dX12_carbons_30 : decode cX12_carbons 30 = .ok (.putfield 67, 3) := by decide +kernel
theorem dX12_carbons_33 : decode cX12_carbons 33 = .ok (.iload_n 2, 1) := by decide +kernel
theorem dX12_carbons_34 : decode cX12_carbons 34 = .ok (.ireturn, 1) := by decide +kernel
theorem dX12_note_0 : decode cX12_note 0 = .ok (.aload_n 0, 1) := by decide +kernel
theorem dX12_note_1 : decode cX12_note 1 = .ok (.getfield 70, 3) := by decide +kernel
theorem dX12_note_4 : decode cX12_note 4 = .ok (.bipush 8, 2) := by decide +kernel
theorem dX12_note_6 : decode cX12_note 6 = .ok (.if_icmp .ne 43, 3) := by decide +kernel
theorem dX12_note_9 : decode cX12_note 9 = .ok (.iconst 0, 1) := by decide +kernel
theorem dX12_note_10 : decode cX12_note 10 = .ok (.istore_n 1, 1) := by decide +kernel
theorem dX12_note_11 : decode cX12_note 11 = .ok (.iload_n 1, 1) := by decide +kernel
theorem dX12_note_12 : decode cX12_note 12 = .ok (.sipush 882, 3) := by decide +kernel
theorem dX12_note_15 : decode cX12_note 15 = .ok (.if_icmp .ge 24, 3) := by decide +kernel
theorem dX12_note_18 : decode cX12_note 18 = .ok (.aload_n 0, 1) := by decide +kernel
theorem dX12_note_19 : decode cX12_note 19 = .ok (.getfield 20, 3) := by decide +kernel
theorem dX12_note_22 : decode cX12_note 22 = .ok (.iload_n 1, 1) := by decide +kernel
theorem dX12_note_23 : decode cX12_note 23 = .ok (.aload_n 0, 1) := by decide +kernel
theorem dX12_note_24 : decode cX12_note 24 = .ok (.getfield 20, 3) := by decide +kernel
theorem dX12_note_27 : decode cX12_note 27 = .ok (.iload_n 1, 1) := by decide +kernel
theorem dX12_note_28 : decode cX12_note 28 = .ok (.bipush 126, 2) := by decide +kernel
theorem dX12_note_30 : decode cX12_note 30 = .ok (.iadd, 1) := by decide +kernel
theorem dX12_note_31 : decode cX12_note 31 = .ok (.iaload, 1) := by decide +kernel
theorem dX12_note_32 : decode cX12_note 32 = .ok (.iastore, 1) := by decide +kernel
theorem dX12_note_33 : decode cX12_note 33 = .ok (.iinc 1 1, 3) := by decide +kernel
theorem dX12_note_36 : decode cX12_note 36 = .ok (.goto (-25), 3) := by decide +kernel
theorem dX12_note_39 : decode cX12_note 39 = .ok (.aload_n 0, 1) := by decide +kernel
theorem dX12_note_40 : decode cX12_note 40 = .ok (.dup, 1) := by decide +kernel
theorem dX12_note_41 : decode cX12_note 41 = .ok (.getfield 70, 3) := by decide +kernel
theorem dX12_note_44 : decode cX12_note 44 = .ok (.iconst 1, 1) := by decide +kernel
theorem dX12_note_45 : decode cX12_note 45 = .ok (.isub, 1) := by decide +kernel
theorem dX12_note_46 : decode cX12_note 46 = .ok (.putfield 70, 3) := by decide +kernel
theorem dX12_note_49 : decode cX12_note 49 = .ok (.iconst 0, 1) := by decide +kernel
theorem dX12_note_50 : decode cX12_note 50 = .ok (.istore_n 1, 1) := by decide +kernel
theorem dX12_note_51 : decode cX12_note 51 = .ok (.iload_n 1, 1) := by decide +kernel
theorem dX12_note_52 : decode cX12_note 52 = .ok (.bipush 126, 2) := by decide +kernel
theorem dX12_note_54 : decode cX12_note 54 = .ok (.if_icmp .ge 29, 3) := by decide +kernel
theorem dX12_note_57 : decode cX12_note 57 = .ok (.aload_n 0, 1) := by decide +kernel
theorem dX12_note_58 : decode cX12_note 58 = .ok (.getfield 20, 3) := by decide +kernel
theorem dX12_note_61 : decode cX12_note 61 = .ok (.bipush 126, 2) := by decide +kernel
theorem dX12_note_63 : decode cX12_note 63 = .ok (.aload_n 0, 1) := by decide +kernel
theorem dX12_note_64 : decode cX12_note 64 = .ok (.getfield 70, 3) := by decide +kernel
theorem dX12_note_67 : decode cX12_note 67 = .ok (.imul, 1) := by decide +kernel
theorem dX12_note_68 : decode cX12_note 68 = .ok (.iload_n 1, 1) := by decide +kernel
theorem dX12_note_69 : decode cX12_note 69 = .ok (.iadd, 1) := by decide +kernel
theorem dX12_note_70 : decode cX12_note 70 = .ok (.aload_n 0, 1) := by decide +kernel
theorem dX12_note_71 : decode cX12_note 71 = .ok (.getfield 17, 3) := by decide +kernel
theorem dX12_note_74 : decode cX12_note 74 = .ok (.iload_n 1, 1) := by decide +kernel
theorem dX12_note_75 : decode cX12_note 75 = .ok (.iaload, 1) := by decide +kernel
theorem dX12_note_76 : decode cX12_note 76 = .ok (.iastore, 1) := by decide +kernel
theorem dX12_note_77 : decode cX12_note 77 = .ok (.iinc 1 1, 3) := by decide +kernel
theorem dX12_note_80 : decode cX12_note 80 = .ok (.goto (-29), 3) := by decide +kernel
theorem dX12_note_83 : decode cX12_note 83 = .ok (.aload_n 0, 1) := by decide +kernel
theorem dX12_note_84 : decode cX12_note 84 = .ok (.dup, 1) := by decide +kernel
theorem dX12_note_85 : decode cX12_note 85 = .ok (.getfield 70, 3) := by decide +kernel
theorem dX12_note_88 : decode cX12_note 88 = .ok (.iconst 1, 1) := by decide +kernel
theorem dX12_note_89 : decode cX12_note 89 = .ok (.iadd, 1) := by decide +kernel
theorem dX12_note_90 : decode cX12_note 90 = .ok (.putfield 70, 3) := by decide +kernel
theorem dX12_note_93 : decode cX12_note 93 = .ok (.return_, 1) := by decide +kernel
theorem dX12_dentAll_0 : decode cX12_dentAll 0 = .ok (.aload_n 0, 1) := by decide +kernel
theorem dX12_dentAll_1 : decode cX12_dentAll 1 = .ok (.getfield 17, 3) := by decide +kernel
theorem dX12_dentAll_4 : decode cX12_dentAll 4 = .ok (.bipush 125, 2) := by decide +kernel
theorem dX12_dentAll_6 : decode cX12_dentAll 6 = .ok (.iaload, 1) := by decide +kernel
theorem dX12_dentAll_7 : decode cX12_dentAll 7 = .ok (.istore 4, 2) := by decide +kernel
theorem dX12_dentAll_9 : decode cX12_dentAll 9 = .ok (.iload_n 1, 1) := by decide +kernel
theorem dX12_dentAll_10 : decode cX12_dentAll 10 = .ok (.invokestatic 85, 3) := by decide +kernel
theorem dX12_dentAll_13 : decode cX12_dentAll 13 = .ok (.ifCond .eq 16, 3) := by decide +kernel
theorem dX12_dentAll_16 : decode cX12_dentAll 16 = .ok (.aload_n 0, 1) := by decide +kernel
theorem dX12_dentAll_17 : decode cX12_dentAll 17 = .ok (.getfield 17, 3) := by decide +kernel
theorem dX12_dentAll_20 : decode cX12_dentAll 20 = .ok (.iconst 0, 1) := by decide +kernel
theorem dX12_dentAll_21 : decode cX12_dentAll 21 = .ok (.iload 4, 2) := by decide +kernel
theorem dX12_dentAll_23 : decode cX12_dentAll 23 = .ok (.iadd, 1) := by decide +kernel
theorem dX12_dentAll_24 : decode cX12_dentAll 24 = .ok (.dup2, 1) := by decide +kernel
theorem dX12_dentAll_25 : decode cX12_dentAll 25 = .ok (.iaload, 1) := by decide +kernel
theorem dX12_dentAll_26 : decode cX12_dentAll 26 = .ok (.iload_n 3, 1) := by decide +kernel
theorem dX12_dentAll_27 : decode cX12_dentAll 27 = .ok (.ior, 1) := by decide +kernel
theorem dX12_dentAll_28 : decode cX12_dentAll 28 = .ok (.iastore, 1) := by decide +kernel
theorem dX12_dentAll_29 : decode cX12_dentAll 29 = .ok (.iload 4, 2) := by decide +kernel
theorem dX12_dentAll_31 : decode cX12_dentAll 31 = .ok (.istore 5, 2) := by decide +kernel
theorem dX12_dentAll_33 : decode cX12_dentAll 33 = .ok (.iload 5, 2) := by decide +kernel
theorem dX12_dentAll_35 : decode cX12_dentAll 35 = .ok (.aload_n 0, 1) := by decide +kernel
theorem dX12_dentAll_36 : decode cX12_dentAll 36 = .ok (.getfield 7, 3) := by decide +kernel
theorem dX12_dentAll_39 : decode cX12_dentAll 39 = .ok (.if_icmp .ge 131, 3) := by decide +kernel
theorem dX12_dentAll_42 : decode cX12_dentAll 42 = .ok (.iload_n 1, 1) := by decide +kernel
theorem dX12_dentAll_43 : decode cX12_dentAll 43 = .ok (.iload_n 2, 1) := by decide +kernel
theorem dX12_dentAll_44 : decode cX12_dentAll 44 = .ok (.iload 5, 2) := by decide +kernel
theorem dX12_dentAll_46 : decode cX12_dentAll 46 = .ok (.iload 4, 2) := by decide +kernel
theorem dX12_dentAll_48 : decode cX12_dentAll 48 = .ok (.isub, 1) := by decide +kernel
theorem dX12_dentAll_49 : decode cX12_dentAll 49 = .ok (.invokestatic 89, 3) := by decide +kernel
theorem dX12_dentAll_52 : decode cX12_dentAll 52 = .ok (.istore 6, 2) := by decide +kernel
theorem dX12_dentAll_54 : decode cX12_dentAll 54 = .ok (.iconst 0, 1) := by decide +kernel
theorem dX12_dentAll_55 : decode cX12_dentAll 55 = .ok (.istore 7, 2) := by decide +kernel
theorem dX12_dentAll_57 : decode cX12_dentAll 57 = .ok (.iload 7, 2) := by decide +kernel
theorem dX12_dentAll_59 : decode cX12_dentAll 59 = .ok (.bipush 12, 2) := by decide +kernel
theorem dX12_dentAll_61 : decode cX12_dentAll 61 = .ok (.if_icmp .ge 62, 3) := by decide +kernel
theorem dX12_dentAll_64 : decode cX12_dentAll 64 = .ok (.bipush 12, 2) := by decide +kernel
theorem dX12_dentAll_66 : decode cX12_dentAll 66 = .ok (.bipush 12, 2) := by decide +kernel
theorem dX12_dentAll_68 : decode cX12_dentAll 68 = .ok (.iload 5, 2) := by decide +kernel
theorem dX12_dentAll_70 : decode cX12_dentAll 70 = .ok (.imul, 1) := by decide +kernel
theorem dX12_dentAll_71 : decode cX12_dentAll 71 = .ok (.iadd, 1) := by decide +kernel
theorem dX12_dentAll_72 : decode cX12_dentAll 72 = .ok (.iload 7, 2) := by decide +kernel
theorem dX12_dentAll_74 : decode cX12_dentAll 74 = .ok (.iadd, 1) := by decide +kernel
theorem dX12_dentAll_75 : decode cX12_dentAll 75 = .ok (.istore 8, 2) := by decide +kernel
theorem dX12_dentAll_77 : decode cX12_dentAll 77 = .ok (.aload_n 0, 1) := by decide +kernel
theorem dX12_dentAll_78 : decode cX12_dentAll 78 = .ok (.getfield 17, 3) := by decide +kernel
theorem dX12_dentAll_81 : decode cX12_dentAll 81 = .ok (.iload 8, 2) := by decide +kernel
theorem dX12_dentAll_83 : decode cX12_dentAll 83 = .ok (.iload_n 3, 1) := by decide +kernel
theorem dX12_dentAll_84 : decode cX12_dentAll 84 = .ok (.iload 7, 2) := by decide +kernel
theorem dX12_dentAll_86 : decode cX12_dentAll 86 = .ok (.invokestatic 93, 3) := by decide +kernel
theorem dX12_dentAll_89 : decode cX12_dentAll 89 = .ok (.ifCond .eq 20, 3) := by decide +kernel
theorem dX12_dentAll_92 : decode cX12_dentAll 92 = .ok (.iload 6, 2) := by decide +kernel
theorem dX12_dentAll_94 : decode cX12_dentAll 94 = .ok (.aload_n 0, 1) := by decide +kernel
theorem dX12_dentAll_95 : decode cX12_dentAll 95 = .ok (.getfield 17, 3) := by decide +kernel
theorem dX12_dentAll_98 : decode cX12_dentAll 98 = .ok (.iload 8, 2) := by decide +kernel
theorem dX12_dentAll_100 : decode cX12_dentAll 100 = .ok (.iaload, 1) := by decide +kernel
theorem dX12_dentAll_101 : decode cX12_dentAll 101 = .ok (.if_icmp .le 8, 3) := by decide +kernel
theorem dX12_dentAll_104 : decode cX12_dentAll 104 = .ok (.iload 6, 2) := by decide +kernel
theorem dX12_dentAll_106 : decode cX12_dentAll 106 = .ok (.goto 10, 3) := by decide +kernel
theorem dX12_dentAll_109 : decode cX12_dentAll 109 = .ok (.aload_n 0, 1) := by decide +kernel
theorem dX12_dentAll_110 : decode cX12_dentAll 110 = .ok (.getfield 17, 3) := by decide +kernel
theorem dX12_dentAll_113 : decode cX12_dentAll 113 = .ok (.iload 8, 2) := by decide +kernel
theorem dX12_dentAll_115 : decode cX12_dentAll 115 = .ok (.iaload, 1) := by decide +kernel
theorem dX12_dentAll_116 : decode cX12_dentAll 116 = .ok (.iastore, 1) := by decide +kernel
theorem dX12_dentAll_117 : decode cX12_dentAll 117 = .ok (.iinc 7 1, 3) := by decide +kernel
theorem dX12_dentAll_120 : decode cX12_dentAll 120 = .ok (.goto (-63), 3) := by decide +kernel
theorem dX12_dentAll_123 : decode cX12_dentAll 123 = .ok (.iload 5, 2) := by decide +kernel
theorem dX12_dentAll_125 : decode cX12_dentAll 125 = .ok (.iload 4, 2) := by decide +kernel
theorem dX12_dentAll_127 : decode cX12_dentAll 127 = .ok (.if_icmp .le 37, 3) := by decide +kernel
theorem dX12_dentAll_130 : decode cX12_dentAll 130 = .ok (.aload_n 0, 1) := by decide +kernel
theorem dX12_dentAll_131 : decode cX12_dentAll 131 = .ok (.getfield 67, 3) := by decide +kernel
theorem dX12_dentAll_134 : decode cX12_dentAll 134 = .ok (.iload 5, 2) := by decide +kernel
theorem dX12_dentAll_136 : decode cX12_dentAll 136 = .ok (.iconst 1, 1) := by decide +kernel
theorem dX12_dentAll_137 : decode cX12_dentAll 137 = .ok (.isub, 1) := by decide +kernel
theorem dX12_dentAll_138 : decode cX12_dentAll 138 = .ok (.invokestatic 93, 3) := by decide +kernel
theorem dX12_dentAll_141 : decode cX12_dentAll 141 = .ok (.ifCond .eq 23, 3) := by decide +kernel
theorem dX12_dentAll_144 : decode cX12_dentAll 144 = .ok (.iload 6, 2) := by decide +kernel
theorem dX12_dentAll_146 : decode cX12_dentAll 146 = .ok (.iconst 2, 1) := by decide +kernel
theorem dX12_dentAll_147 : decode cX12_dentAll 147 = .ok (.if_icmp .lt 17, 3) := by decide +kernel
theorem dX12_dentAll_150 : decode cX12_dentAll 150 = .ok (.aload_n 0, 1) := by decide +kernel
theorem dX12_dentAll_151 : decode cX12_dentAll 151 = .ok (.getfield 17, 3) := by decide +kernel
theorem dX12_dentAll_154 : decode cX12_dentAll 154 = .ok (.bipush 6, 2) := by decide +kernel
theorem dX12_dentAll_156 : decode cX12_dentAll 156 = .ok (.iload 5, 2) := by decide +kernel
theorem dX12_dentAll_158 : decode cX12_dentAll 158 = .ok (.iadd, 1) := by decide +kernel
theorem dX12_dentAll_159 : decode cX12_dentAll 159 = .ok (.dup2, 1) := by decide +kernel
theorem dX12_dentAll_160 : decode cX12_dentAll 160 = .ok (.iaload, 1) := by decide +kernel
theorem dX12_dentAll_161 : decode cX12_dentAll 161 = .ok (.iload_n 3, 1) := by decide +kernel
theorem dX12_dentAll_162 : decode cX12_dentAll 162 = .ok (.ior, 1) := by decide +kernel
theorem dX12_dentAll_163 : decode cX12_dentAll 163 = .ok (.iastore, 1) := by decide +kernel
theorem dX12_dentAll_164 : decode cX12_dentAll 164 = .ok (.iinc 5 1, 3) := by decide +kernel
theorem dX12_dentAll_167 : decode cX12_dentAll 167 = .ok (.goto (-134), 3) := by decide +kernel
theorem dX12_dentAll_170 : decode cX12_dentAll 170 = .ok (.return_, 1) := by decide +kernel
theorem dX12_writeNow_0 : decode cX12_writeNow 0 = .ok (.aload_n 0, 1) := by decide +kernel
theorem dX12_writeNow_1 : decode cX12_writeNow 1 = .ok (.iload_n 1, 1) := by decide +kernel
theorem dX12_writeNow_2 : decode cX12_writeNow 2 = .ok (.iload_n 2, 1) := by decide +kernel
theorem dX12_writeNow_3 : decode cX12_writeNow 3 = .ok (.iload_n 3, 1) := by decide +kernel
theorem dX12_writeNow_4 : decode cX12_writeNow 4 = .ok (.invokevirtual 97, 3) := by decide +kernel
theorem dX12_writeNow_7 : decode cX12_writeNow 7 = .ok (.bipush 84, 2) := by decide +kernel
theorem dX12_writeNow_9 : decode cX12_writeNow 9 = .ok (.iconst 4, 1) := by decide +kernel
theorem dX12_writeNow_10 : decode cX12_writeNow 10 = .ok (.aload_n 0, 1) := by decide +kernel
theorem dX12_writeNow_11 : decode cX12_writeNow 11 = .ok (.getfield 17, 3) := by decide +kernel
theorem dX12_writeNow_14 : decode cX12_writeNow 14 = .ok (.bipush 124, 2) := by decide +kernel
theorem dX12_writeNow_16 : decode cX12_writeNow 16 = .ok (.iaload, 1) := by decide +kernel
theorem dX12_writeNow_17 : decode cX12_writeNow 17 = .ok (.imul, 1) := by decide +kernel
theorem dX12_writeNow_18 : decode cX12_writeNow 18 = .ok (.iadd, 1) := by decide +kernel
theorem dX12_writeNow_19 : decode cX12_writeNow 19 = .ok (.istore 4, 2) := by decide +kernel
theorem dX12_writeNow_21 : decode cX12_writeNow 21 = .ok (.aload_n 0, 1) := by decide +kernel
theorem dX12_writeNow_22 : decode cX12_writeNow 22 = .ok (.getfield 17, 3) := by decide +kernel
theorem dX12_writeNow_25 : decode cX12_writeNow 25 = .ok (.iload 4, 2) := by decide +kernel
theorem dX12_writeNow_27 : decode cX12_writeNow 27 = .ok (.iload_n 1, 1) := by decide +kernel
theorem dX12_writeNow_28 : decode cX12_writeNow 28 = .ok (.iastore, 1) := by decide +kernel
theorem dX12_writeNow_29 : decode cX12_writeNow 29 = .ok (.aload_n 0, 1) := by decide +kernel
theorem dX12_writeNow_30 : decode cX12_writeNow 30 = .ok (.getfield 17, 3) := by decide +kernel
theorem dX12_writeNow_33 : decode cX12_writeNow 33 = .ok (.iload 4, 2) := by decide +kernel
theorem dX12_writeNow_35 : decode cX12_writeNow 35 = .ok (.iconst 1, 1) := by decide +kernel
theorem dX12_writeNow_36 : decode cX12_writeNow 36 = .ok (.iadd, 1) := by decide +kernel
theorem dX12_writeNow_37 : decode cX12_writeNow 37 = .ok (.iload_n 2, 1) := by decide +kernel
theorem dX12_writeNow_38 : decode cX12_writeNow 38 = .ok (.iastore, 1) := by decide +kernel
theorem dX12_writeNow_39 : decode cX12_writeNow 39 = .ok (.aload_n 0, 1) := by decide +kernel
theorem dX12_writeNow_40 : decode cX12_writeNow 40 = .ok (.getfield 17, 3) := by decide +kernel
theorem dX12_writeNow_43 : decode cX12_writeNow 43 = .ok (.iload 4, 2) := by decide +kernel
theorem dX12_writeNow_45 : decode cX12_writeNow 45 = .ok (.iconst 2, 1) := by decide +kernel
theorem dX12_writeNow_46 : decode cX12_writeNow 46 = .ok (.iadd, 1) := by decide +kernel
theorem dX12_writeNow_47 : decode cX12_writeNow 47 = .ok (.iload_n 3, 1) := by decide +kernel
theorem dX12_writeNow_48 : decode cX12_writeNow 48 = .ok (.iastore, 1) := by decide +kernel
theorem dX12_writeNow_49 : decode cX12_writeNow 49 = .ok (.aload_n 0, 1) := by decide +kernel
theorem dX12_writeNow_50 : decode cX12_writeNow 50 = .ok (.getfield 17, 3) := by decide +kernel
theorem dX12_writeNow_53 : decode cX12_writeNow 53 = .ok (.iload 4, 2) := by decide +kernel
theorem dX12_writeNow_55 : decode cX12_writeNow 55 = .ok (.iconst 3, 1) := by decide +kernel
theorem dX12_writeNow_56 : decode cX12_writeNow 56 = .ok (.iadd, 1) := by decide +kernel
theorem dX12_writeNow_57 : decode cX12_writeNow 57 = .ok (.aload_n 0, 1) := by decide +kernel
theorem dX12_writeNow_58 : decode cX12_writeNow 58 = .ok (.getfield 17, 3) := by decide +kernel
theorem dX12_writeNow_61 : decode cX12_writeNow 61 = .ok (.bipush 125, 2) := by decide +kernel
theorem dX12_writeNow_63 : decode cX12_writeNow 63 = .ok (.iaload, 1) := by decide +kernel
theorem dX12_writeNow_64 : decode cX12_writeNow 64 = .ok (.iastore, 1) := by decide +kernel
theorem dX12_writeNow_65 : decode cX12_writeNow 65 = .ok (.aload_n 0, 1) := by decide +kernel
theorem dX12_writeNow_66 : decode cX12_writeNow 66 = .ok (.getfield 17, 3) := by decide +kernel
theorem dX12_writeNow_69 : decode cX12_writeNow 69 = .ok (.bipush 124, 2) := by decide +kernel
theorem dX12_writeNow_71 : decode cX12_writeNow 71 = .ok (.dup2, 1) := by decide +kernel
theorem dX12_writeNow_72 : decode cX12_writeNow 72 = .ok (.iaload, 1) := by decide +kernel
theorem dX12_writeNow_73 : decode cX12_writeNow 73 = .ok (.iconst 1, 1) := by decide +kernel
theorem dX12_writeNow_74 : decode cX12_writeNow 74 = .ok (.iadd, 1) := by decide +kernel
theorem dX12_writeNow_75 : decode cX12_writeNow 75 = .ok (.iastore, 1) := by decide +kernel
theorem dX12_writeNow_76 : decode cX12_writeNow 76 = .ok (.return_, 1) := by decide +kernel
theorem dX12_write_0 : decode cX12_write 0 = .ok (.iload_n 1, 1) := by decide +kernel
theorem dX12_write_1 : decode cX12_write 1 = .ok (.iload_n 2, 1) := by decide +kernel
theorem dX12_write_2 : decode cX12_write 2 = .ok (.invokestatic 101, 3) := by decide +kernel
theorem dX12_write_5 : decode cX12_write 5 = .ok (.ifCond .eq 15, 3) := by decide +kernel
theorem dX12_write_8 : decode cX12_write 8 = .ok (.iload_n 3, 1) := by decide +kernel
theorem dX12_write_9 : decode cX12_write 9 = .ok (.i2l, 1) := by decide +kernel
theorem dX12_write_10 : decode cX12_write 10 = .ok (.lconst 0, 1) := by decide +kernel
theorem dX12_write_11 : decode cX12_write 11 = .ok (.ldc2_w 104, 3) := by decide +kernel
theorem dX12_write_14 : decode cX12_write 14 = .ok (.invokestatic 56, 3) := by decide +kernel
theorem dX12_write_17 : decode cX12_write 17 = .ok (.ifCond .ne 8, 3) := by decide +kernel
theorem dX12_write_20 : decode cX12_write 20 = .ok (.aload_n 0, 1) := by decide +kernel
theorem dX12_write_21 : decode cX12_write 21 = .ok (.invokevirtual 75, 3) := by decide +kernel
theorem dX12_write_24 : decode cX12_write 24 = .ok (.ireturn, 1) := by decide +kernel
theorem dX12_write_25 : decode cX12_write 25 = .ok (.aload_n 0, 1) := by decide +kernel
theorem dX12_write_26 : decode cX12_write 26 = .ok (.getfield 17, 3) := by decide +kernel
theorem dX12_write_29 : decode cX12_write 29 = .ok (.bipush 125, 2) := by decide +kernel
theorem dX12_write_31 : decode cX12_write 31 = .ok (.iaload, 1) := by decide +kernel
theorem dX12_write_32 : decode cX12_write 32 = .ok (.aload_n 0, 1) := by decide +kernel
theorem dX12_write_33 : decode cX12_write 33 = .ok (.getfield 7, 3) := by decide +kernel
theorem dX12_write_36 : decode cX12_write 36 = .ok (.if_icmp .ne 11, 3) := by decide +kernel
theorem dX12_write_39 : decode cX12_write 39 = .ok (.aload_n 0, 1) := by decide +kernel
theorem dX12_write_40 : decode cX12_write 40 = .ok (.iconst 1, 1) := by decide +kernel
theorem dX12_write_41 : decode cX12_write 41 = .ok (.bipush (-3), 2) := by decide +kernel
theorem dX12_write_43 : decode cX12_write 43 = .ok (.invokevirtual 52, 3) := by decide +kernel
theorem dX12_write_46 : decode cX12_write 46 = .ok (.ireturn, 1) := by decide +kernel
theorem dX12_write_47 : decode cX12_write 47 = .ok (.aload_n 0, 1) := by decide +kernel
theorem dX12_write_48 : decode cX12_write 48 = .ok (.getfield 17, 3) := by decide +kernel
theorem dX12_write_51 : decode cX12_write 51 = .ok (.bipush 124, 2) := by decide +kernel
theorem dX12_write_53 : decode cX12_write 53 = .ok (.iaload, 1) := by decide +kernel
theorem dX12_write_54 : decode cX12_write 54 = .ok (.bipush 10, 2) := by decide +kernel
theorem dX12_write_56 : decode cX12_write 56 = .ok (.if_icmp .ne 11, 3) := by decide +kernel
theorem dX12_write_59 : decode cX12_write 59 = .ok (.aload_n 0, 1) := by decide +kernel
theorem dX12_write_60 : decode cX12_write 60 = .ok (.iconst 2, 1) := by decide +kernel
theorem dX12_write_61 : decode cX12_write 61 = .ok (.bipush (-4), 2) := by decide +kernel
theorem dX12_write_63 : decode cX12_write 63 = .ok (.invokevirtual 52, 3) := by decide +kernel
theorem dX12_write_66 : decode cX12_write 66 = .ok (.ireturn, 1) := by decide +kernel
theorem dX12_write_67 : decode cX12_write 67 = .ok (.aload_n 0, 1) := by decide +kernel
theorem dX12_write_68 : decode cX12_write 68 = .ok (.invokevirtual 106, 3) := by decide +kernel
theorem dX12_write_71 : decode cX12_write 71 = .ok (.aload_n 0, 1) := by decide +kernel
theorem dX12_write_72 : decode cX12_write 72 = .ok (.iload_n 1, 1) := by decide +kernel
theorem dX12_write_73 : decode cX12_write 73 = .ok (.iload_n 2, 1) := by decide +kernel
theorem dX12_write_74 : decode cX12_write 74 = .ok (.iload_n 3, 1) := by decide +kernel
theorem dX12_write_75 : decode cX12_write 75 = .ok (.invokevirtual 109, 3) := by decide +kernel
theorem dX12_write_78 : decode cX12_write 78 = .ok (.aload_n 0, 1) := by decide +kernel
theorem dX12_write_79 : decode cX12_write 79 = .ok (.getfield 17, 3) := by decide +kernel
theorem dX12_write_82 : decode cX12_write 82 = .ok (.bipush 124, 2) := by decide +kernel
theorem dX12_write_84 : decode cX12_write 84 = .ok (.iaload, 1) := by decide +kernel
theorem dX12_write_85 : decode cX12_write 85 = .ok (.iconst 1, 1) := by decide +kernel
theorem dX12_write_86 : decode cX12_write 86 = .ok (.isub, 1) := by decide +kernel
theorem dX12_write_87 : decode cX12_write 87 = .ok (.ireturn, 1) := by decide +kernel
theorem dX12_tear_0 : decode cX12_tear 0 = .ok (.aload_n 0, 1) := by decide +kernel
theorem dX12_tear_1 : decode cX12_tear 1 = .ok (.getfield 17, 3) := by decide +kernel
theorem dX12_tear_4 : decode cX12_tear 4 = .ok (.bipush 125, 2) := by decide +kernel
theorem dX12_tear_6 : decode cX12_tear 6 = .ok (.iaload, 1) := by decide +kernel
theorem dX12_tear_7 : decode cX12_tear 7 = .ok (.aload_n 0, 1) := by decide +kernel
theorem dX12_tear_8 : decode cX12_tear 8 = .ok (.getfield 7, 3) := by decide +kernel
theorem dX12_tear_11 : decode cX12_tear 11 = .ok (.if_icmp .ne 11, 3) := by decide +kernel
theorem dX12_tear_14 : decode cX12_tear 14 = .ok (.aload_n 0, 1) := by decide +kernel
theorem dX12_tear_15 : decode cX12_tear 15 = .ok (.iconst 1, 1) := by decide +kernel
theorem dX12_tear_16 : decode cX12_tear 16 = .ok (.bipush (-3), 2) := by decide +kernel
theorem dX12_tear_18 : decode cX12_tear 18 = .ok (.invokevirtual 52, 3) := by decide +kernel
theorem dX12_tear_21 : decode cX12_tear 21 = .ok (.ireturn, 1) := by decide +kernel
theorem dX12_tear_22 : decode cX12_tear 22 = .ok (.aload_n 0, 1) := by decide +kernel
theorem dX12_tear_23 : decode cX12_tear 23 = .ok (.invokevirtual 106, 3) := by decide +kernel
theorem dX12_tear_26 : decode cX12_tear 26 = .ok (.aload_n 0, 1) := by decide +kernel
theorem dX12_tear_27 : decode cX12_tear 27 = .ok (.getfield 17, 3) := by decide +kernel
theorem dX12_tear_30 : decode cX12_tear 30 = .ok (.bipush 125, 2) := by decide +kernel
theorem dX12_tear_32 : decode cX12_tear 32 = .ok (.dup2, 1) := by decide +kernel
theorem dX12_tear_33 : decode cX12_tear 33 = .ok (.iaload, 1) := by decide +kernel
theorem dX12_tear_34 : decode cX12_tear 34 = .ok (.iconst 1, 1) := by decide +kernel
theorem dX12_tear_35 : decode cX12_tear 35 = .ok (.iadd, 1) := by decide +kernel
theorem dX12_tear_36 : decode cX12_tear 36 = .ok (.iastore, 1) := by decide +kernel
theorem dX12_tear_37 : decode cX12_tear 37 = .ok (.aload_n 0, 1) := by decide +kernel
theorem dX12_tear_38 : decode cX12_tear 38 = .ok (.getfield 17, 3) := by decide +kernel
theorem dX12_tear_41 : decode cX12_tear 41 = .ok (.bipush 125, 2) := by decide +kernel
theorem dX12_tear_43 : decode cX12_tear 43 = .ok (.iaload, 1) := by decide +kernel
theorem dX12_tear_44 : decode cX12_tear 44 = .ok (.iconst 1, 1) := by decide +kernel
theorem dX12_tear_45 : decode cX12_tear 45 = .ok (.isub, 1) := by decide +kernel
theorem dX12_tear_46 : decode cX12_tear 46 = .ok (.ireturn, 1) := by decide +kernel
set_option maxHeartbeats 4000000 in
set_option maxRecDepth 100000 in
theorem ctX12_bad (l : Launch) (E : VE) (a : Nat → Nat)  (p : St)  {Post : Int32 → St → Prop} (hw : wpX12_bad p Post) (sz : Nat) : Met l yX12_bad (mW yX12_bad cX12_bad 1 (some .int)) rmX12_bad (CPre E [.ref (a 0)] sz (fl [bModel E a p])) (CQi E Post (fun u => (fl [bModel E a u])) (fl [bModel E a p]) sz) 0 0 (va_A (fl [bModel E a p]) sz) := by
  refine v_met (by decide) (Nat.le_of_ble_eq_true rfl) ?_
  intro pr e s m below meth c A hsz hA C
  subst hsz
  refine v_aload_n (pc := 0) C 0 rfl rfl dX12_bad_0 ?_
  refine v_iconst (pc := 1) C 0 ki_0 dX12_bad_1 ?_
  refine v_bipush (pc := 2) C (-2) kb_m2 dX12_bad_2 ?_
  refine v_goAi (pc := 4) C (wc' := (fun (u : St) => (fl [bModel E a u]))) (fun _ => rfl) (v_runVA (pc := 4) C [.int 0, .int (-2)] [] (fun sz => ctX12_refuse l E a 0 (-2) p hw sz) mfX12_refuse mvX12_refuse wmX12_52 rfl ⟨Nat.le_of_ble_eq_true rfl, Nat.le_of_ble_eq_true rfl⟩ ⟨rfl, rfl⟩ 0 (ci := 12) (qc := (RX12, TX12, 30)) rfl rfl rfl rfl (Nat.le_of_ble_eq_true rfl) ⟨Nat.zero_le _, Nat.zero_le _⟩ dX12_bad_4) (fun r1 p2 hw => ?_)
  exact v_ireti (pc := 7) C p2 hA rfl hw dX12_bad_7
set_option maxHeartbeats 4000000 in
set_option maxRecDepth 100000 in
theorem ctX12_badLess (l : Launch) (E : VE) (a : Nat → Nat)  (p : St)  {Post : Int32 → St → Prop} (hw : wpX12_badLess p Post) (sz : Nat) : Met l yX12_badLess (mW yX12_badLess cX12_badLess 1 (some .int)) rmX12_badLess (CPre E [.ref (a 0)] sz (fl [bModel E a p])) (CQi E Post (fun u => (fl [bModel E a u])) (fl [bModel E a p]) sz) 0 0 (va_A (fl [bModel E a p]) sz) := by
  refine v_met (by decide) (Nat.le_of_ble_eq_true rfl) ?_
  intro pr e s m below meth c A hsz hA C
  subst hsz
  refine v_aload_n (pc := 0) C 0 rfl rfl dX12_badLess_0 ?_
  refine v_iconst (pc := 1) C 0 ki_0 dX12_badLess_1 ?_
  refine v_bipush (pc := 2) C (-10) kb_m10 dX12_badLess_2 ?_
  refine v_goAi (pc := 4) C (wc' := (fun (u : St) => (fl [bModel E a u]))) (fun _ => rfl) (v_runVA (pc := 4) C [.int 0, .int (-10)] [] (fun sz => ctX12_refuse l E a 0 (-10) p hw sz) mfX12_refuse mvX12_refuse wmX12_52 rfl ⟨Nat.le_of_ble_eq_true rfl, Nat.le_of_ble_eq_true rfl⟩ ⟨rfl, rfl⟩ 0 (ci := 12) (qc := (RX12, TX12, 30)) rfl rfl rfl rfl (Nat.le_of_ble_eq_true rfl) ⟨Nat.zero_le _, Nat.zero_le _⟩ dX12_badLess_4) (fun r1 p2 hw => ?_)
  exact v_ireti (pc := 7) C p2 hA rfl hw dX12_badLess_7
set_option maxHeartbeats 4000000 in
set_option maxRecDepth 100000 in
theorem ctX12_isSheet (l : Launch) (E : VE) (a : Nat → Nat) (x1 : Int32) (p : St)  {Post : Int32 → Prop} (hw : wpX12_isSheet x1 p Post) (sz : Nat) : Met l yX12_isSheet (mW yX12_isSheet cX12_isSheet 2 (some .boolean)) rmX12_isSheet (CPre E [.ref (a 0), .int x1] sz (fl [bModel E a p])) (CQi E (fun (z : Int32) (_ : Unit) => Post z) (fun _ => (fl [bModel E a p])) (fl [bModel E a p]) sz) 0 0 (va_A (fl [bModel E a p]) sz) := by
  refine v_met (by decide) (Nat.le_of_ble_eq_true rfl) ?_
  intro pr e s m below meth c A hsz hA C
  subst hsz
  refine v_iload_n (pc := 0) C 1 rfl rfl dX12_isSheet_0 ?_
  refine v_i2l (pc := 1) C dX12_isSheet_1 ?_
  refine v_lconst (pc := 2) C 0 kl_0 dX12_isSheet_2 ?_
  refine v_aload_n (pc := 3) C 0 rfl rfl dX12_isSheet_3 ?_
  refine v_get (pc := 4) C cfX12 rfl 0 0 rfl (by decide) wfX12_7 rfl dX12_isSheet_4 ?_
  refine v_iconst (pc := 7) C 1 ki_1 dX12_isSheet_7 ?_
  refine v_isub (pc := 8) C dX12_isSheet_8 ?_
  refine v_i2l (pc := 9) C dX12_isSheet_9 ?_
  refine v_goBi (pc := 10) C (bs := [bModel E a p]) (cs := []) (cs' := (fun (_ : Unit) => [])) (bs' := (fun (_ : Unit) => [bModel E a p])) (w' := (fun (_ : Unit) => (fl [bModel E a p]))) [] rfl rfl (fun _ => rfl) (fun _ => rfl) (fun _ => rfl) (v_runSB (pc := 10) C [.long (x1.toInt64), .long 0, .long ((((p.I 0) - 1)).toInt64)] [] (fun sz => ctX12_in l E (x1.toInt64) 0 ((((p.I 0) - 1)).toInt64) hw sz) [] rfl rfl rfl mfX12_in msX12_in wmX12_56 rfl ⟨Nat.le_of_ble_eq_true rfl, Nat.le_of_ble_eq_true rfl⟩ ⟨rfl, rfl⟩ rfl (Nat.le_of_ble_eq_true rfl) ⟨Nat.zero_le _, Nat.zero_le _⟩ dX12_isSheet_10) (fun r1 _ hw => ?_)
  exact v_iretz (pc := 13) C hw.1 () hA rfl hw.2 dX12_isSheet_13
set_option maxHeartbeats 4000000 in
set_option maxRecDepth 100000 in
theorem ctX12_areNotes (l : Launch) (E : VE) (a : Nat → Nat) (x1 : Int32) (p : St)  {Post : Int32 → Prop} (hw : wpX12_areNotes x1 p Post) (sz : Nat) : Met l yX12_areNotes (mW yX12_areNotes cX12_areNotes 2 (some .boolean)) rmX12_areNotes (CPre E [.ref (a 0), .int x1] sz (fl [bModel E a p])) (CQi E (fun (z : Int32) (_ : Unit) => Post z) (fun _ => (fl [bModel E a p])) (fl [bModel E a p]) sz) 0 0 (va_A (fl [bModel E a p]) sz) := by
  refine v_met (by decide) (Nat.le_of_ble_eq_true rfl) ?_
  intro pr e s m below meth c A hsz hA C
  subst hsz
  refine v_iload_n (pc := 0) C 1 rfl rfl dX12_areNotes_0 ?_
  refine v_i2l (pc := 1) C dX12_areNotes_1 ?_
  refine v_lconst (pc := 2) C 0 kl_0 dX12_areNotes_2 ?_
  refine v_iconst (pc := 3) C 1 ki_1 dX12_areNotes_3 ?_
  refine v_aload_n (pc := 4) C 0 rfl rfl dX12_areNotes_4 ?_
  refine v_get (pc := 5) C cfX12 rfl 0 4 rfl (by decide) wfX12_17 rfl dX12_areNotes_5 ?_
  refine v_bipush (pc := 8) C 124 kb_124 dX12_areNotes_8 ?_
  refine v_iald (pc := 10) C 2 rfl vi_124_126 tn_124 dX12_areNotes_10 ?_
  refine v_ishl (pc := 11) C dX12_areNotes_11 ?_
  refine v_iconst (pc := 12) C 1 ki_1 dX12_areNotes_12 ?_
  refine v_isub (pc := 13) C dX12_areNotes_13 ?_
  refine v_i2l (pc := 14) C dX12_areNotes_14 ?_
  refine v_goBi (pc := 15) C (bs := [bModel E a p]) (cs := []) (cs' := (fun (_ : Unit) => [])) (bs' := (fun (_ : Unit) => [bModel E a p])) (w' := (fun (_ : Unit) => (fl [bModel E a p]))) [] rfl rfl (fun _ => rfl) (fun _ => rfl) (fun _ => rfl) (v_runSB (pc := 15) C [.long (x1.toInt64), .long 0, .long (((((1 : Int32) <<< (((p.A 4) 124) &&& 31)) - 1)).toInt64)] [] (fun sz => ctX12_in l E (x1.toInt64) 0 (((((1 : Int32) <<< (((p.A 4) 124) &&& 31)) - 1)).toInt64) hw sz) [] rfl rfl rfl mfX12_in msX12_in wmX12_56 rfl ⟨Nat.le_of_ble_eq_true rfl, Nat.le_of_ble_eq_true rfl⟩ ⟨rfl, rfl⟩ rfl (Nat.le_of_ble_eq_true rfl) ⟨Nat.zero_le _, Nat.zero_le _⟩ dX12_areNotes_15) (fun r1 _ hw => ?_)
  exact v_iretz (pc := 18) C hw.1 () hA rfl hw.2 dX12_areNotes_18
set_option maxHeartbeats 4000000 in
set_option maxRecDepth 100000 in
theorem ctX12_isPen (l : Launch) (E : VE)  (x0 : Int32) (x1 : Int32)   {Post : Int32 → Prop} (hw : wpX12_isPen x0 x1 Post) (sz : Nat) : Met l yX12_isPen (mW yX12_isPen cX12_isPen 2 (some .boolean)) rmX12_isPen (CPre E [.int x0, .int x1] sz (fl [])) (CQi E (fun (z : Int32) (_ : Unit) => Post z) (fun _ => (fl [])) (fl []) sz) 0 0 (va_A (fl []) sz) := by
  refine v_met (by decide) (Nat.le_of_ble_eq_true rfl) ?_
  intro pr e s m below meth c A hsz hA C
  subst hsz
  refine v_iload_n (pc := 0) C 0 rfl rfl dX12_isPen_0 ?_
  refine v_i2l (pc := 1) C dX12_isPen_1 ?_
  refine v_lconst (pc := 2) C 0 kl_0 dX12_isPen_2 ?_
  refine v_ldc2 (pc := 3) C 5 wlX12_60 dX12_isPen_3 ?_
  refine v_goBi (pc := 6) C (bs := []) (cs := []) (cs' := (fun (_ : Unit) => [])) (bs' := (fun (_ : Unit) => [])) (w' := (fun (_ : Unit) => (fl []))) [] rfl rfl (fun _ => rfl) (fun _ => rfl) (fun _ => rfl) (v_runSB (pc := 6) C [.long (x0.toInt64), .long 0, .long 5] [] (fun sz => ctX12_in l E (x0.toInt64) 0 5 hw sz) [] rfl rfl rfl mfX12_in msX12_in wmX12_56 rfl ⟨Nat.le_of_ble_eq_true rfl, Nat.le_of_ble_eq_true rfl⟩ ⟨rfl, rfl⟩ rfl (Nat.le_of_ble_eq_true rfl) ⟨Nat.zero_le _, Nat.zero_le _⟩ dX12_isPen_6) (fun r1 _ hw => ?_)
  refine v_if_eq (pc := 9) C 28 (by decide) dX12_isPen_9 (fun hc => ?_) (fun hc => ?_)
  · have hw := hw.1 hc
    refine v_iconst (pc := 28) C 0 ki_0 dX12_isPen_28 ?_
    exact v_iretz (pc := 29) C rfl () hA rfl hw dX12_isPen_29
  · have hw := hw.2 hc
    refine v_iload_n (pc := 12) C 1 rfl rfl dX12_isPen_12 ?_
    refine v_i2l (pc := 13) C dX12_isPen_13 ?_
    refine v_lconst (pc := 14) C 1 kl_1 dX12_isPen_14 ?_
    refine v_ldc2 (pc := 15) C 9 wlX12_62 dX12_isPen_15 ?_
    refine v_goBi (pc := 18) C (bs := []) (cs := []) (cs' := (fun (_ : Unit) => [])) (bs' := (fun (_ : Unit) => [])) (w' := (fun (_ : Unit) => (fl []))) [] rfl rfl (fun _ => rfl) (fun _ => rfl) (fun _ => rfl) (v_runSB (pc := 18) C [.long (x1.toInt64), .long 1, .long 9] [] (fun sz => ctX12_in l E (x1.toInt64) 1 9 hw sz) [] rfl rfl rfl mfX12_in msX12_in wmX12_56 rfl ⟨Nat.le_of_ble_eq_true rfl, Nat.le_of_ble_eq_true rfl⟩ ⟨rfl, rfl⟩ rfl (Nat.le_of_ble_eq_true rfl) ⟨Nat.zero_le _, Nat.zero_le _⟩ dX12_isPen_18) (fun r2 _ hw => ?_)
    refine v_if_eq (pc := 21) C 28 (by decide) dX12_isPen_21 (fun hc => ?_) (fun hc => ?_)
    · have hw := hw.1 hc
      refine v_iconst (pc := 28) C 0 ki_0 dX12_isPen_28 ?_
      exact v_iretz (pc := 29) C rfl () hA rfl hw dX12_isPen_29
    · have hw := hw.2 hc
      refine v_iconst (pc := 24) C 1 ki_1 dX12_isPen_24 ?_
      refine v_goto (pc := 25) C 29 (by decide) dX12_isPen_25 ?_
      exact v_iretz (pc := 29) C rfl () hA rfl hw dX12_isPen_29
set_option maxHeartbeats 4000000 in
set_option maxRecDepth 100000 in
theorem ctX12_pencil (l : Launch) (E : VE)  (x0 : Int32) (x1 : Int32)   {Post : Int32 → Prop} (hw : wpX12_pencil x0 x1 Post) (sz : Nat) : Met l yX12_pencil (mW yX12_pencil cX12_pencil 3 (some .int)) rmX12_pencil (CPre E [.int x0, .int x1] sz (fl [])) (CQi E (fun (z : Int32) (_ : Unit) => Post z) (fun _ => (fl [])) (fl []) sz) 0 0 (va_A (fl []) sz) := by
  refine v_met (by decide) (Nat.le_of_ble_eq_true rfl) ?_
  intro pr e s m below meth c A hsz hA C
  subst hsz
  refine v_iload_n (pc := 0) C 0 rfl rfl dX12_pencil_0 ?_
  refine v_iload_n (pc := 1) C 1 rfl rfl dX12_pencil_1 ?_
  refine v_isub (pc := 2) C dX12_pencil_2 ?_
  refine v_topi (fun x2_1 ex => ?_)
  have hw := hw x2_1 ex
  refine v_istore_n (pc := 3) C [(2, .int x2_1), (0, .int x0), (1, .int x1)] rfl rfl (by decide) dX12_pencil_3 ?_
  refine v_iload_n (pc := 4) C 0 rfl rfl dX12_pencil_4 ?_
  refine v_if_ge (pc := 5) C 12 (by decide) dX12_pencil_5 (fun hc => ?_) (fun hc => ?_)
  · have hw := hw.1 hc
    refine v_iload_n (pc := 12) C 0 rfl rfl dX12_pencil_12 ?_
    refine v_bipush (pc := 13) C 9 kb_9 dX12_pencil_13 ?_
    refine v_icmp_le (pc := 15) C 23 (by decide) dX12_pencil_15 (fun hc => ?_) (fun hc => ?_)
    · have hw := hw.1 hc
      refine v_iload_n (pc := 23) C 0 rfl rfl dX12_pencil_23 ?_
      exact v_ireti (pc := 24) C () hA rfl hw dX12_pencil_24
    · have hw := hw.2 hc
      refine v_bipush (pc := 18) C 9 kb_9 dX12_pencil_18 ?_
      refine v_goto (pc := 20) C 24 (by decide) dX12_pencil_20 ?_
      exact v_ireti (pc := 24) C () hA rfl hw dX12_pencil_24
  · have hw := hw.2 hc
    refine v_iconst (pc := 8) C 0 ki_0 dX12_pencil_8 ?_
    refine v_goto (pc := 9) C 24 (by decide) dX12_pencil_9 ?_
    exact v_ireti (pc := 24) C () hA rfl hw dX12_pencil_24
set_option maxHeartbeats 4000000 in
set_option maxRecDepth 100000 in
theorem vjX12_forceOf_20 (C : VC pr s m args meth c E A cX12_forceOf 3 (some .int) RX12) (hA : va_A w0 s.heap.size = A)   {Post : Int32 → Prop} (x1 : Int32) (x2 : Int32) (hw : wjX12_forceOf_20  Post x1 x2) : V pr l e rmX12_forceOf s m args below meth c E A 3 0 0 (MQ below (CQi E (fun (z : Int32) (_ : Unit) => Post z) (fun _ => (fl [])) w0 s.heap.size) args s 0 0 A) (fl []) 20 [(1, .int x1), (2, .int x2)] [] := by
  refine v_iload_n (pc := 20) C 0 rfl rfl dX12_forceOf_20 ?_
  refine v_iconst (pc := 21) C 1 ki_1 dX12_forceOf_21 ?_
  refine v_iadd (pc := 22) C dX12_forceOf_22 ?_
  refine v_iload_n (pc := 23) C 1 rfl rfl dX12_forceOf_23 ?_
  refine v_goBi (pc := 24) C (bs := []) (cs := []) (cs' := (fun (_ : Unit) => [])) (bs' := (fun (_ : Unit) => [])) (w' := (fun (_ : Unit) => (fl []))) [] rfl rfl (fun _ => rfl) (fun _ => rfl) (fun _ => rfl) (v_runSB (pc := 24) C [.int (x1 + 1), .int x2] [] (fun sz => ctX12_pencil l E (x1 + 1) x2 hw sz) [] rfl rfl rfl mfX12_pencil msX12_pencil wmX12_64 rfl ⟨Nat.le_of_ble_eq_true rfl, Nat.le_of_ble_eq_true rfl⟩ ⟨rfl, rfl⟩ rfl (Nat.le_of_ble_eq_true rfl) ⟨Nat.zero_le _, Nat.zero_le _⟩ dX12_forceOf_24) (fun r1 _ hw => ?_)
  exact v_ireti (pc := 27) C () hA rfl hw dX12_forceOf_27
set_option maxHeartbeats 4000000 in
set_option maxRecDepth 100000 in
theorem vjX12_forceOf_57 (C : VC pr s m args meth c E A cX12_forceOf 3 (some .int) RX12) (hA : va_A w0 s.heap.size = A)   {Post : Int32 → Prop} (x1 : Int32) (x2 : Int32) (hw : wjX12_forceOf_57  Post x1 x2) : V pr l e rmX12_forceOf s m args below meth c E A 3 0 0 (MQ below (CQi E (fun (z : Int32) (_ : Unit) => Post z) (fun _ => (fl [])) w0 s.heap.size) args s 0 0 A) (fl []) 57 [(1, .int x1), (2, .int x2)] [] := by
  refine v_iload_n (pc := 57) C 0 rfl rfl dX12_forceOf_57 ?_
  refine v_iload_n (pc := 58) C 1 rfl rfl dX12_forceOf_58 ?_
  refine v_goBi (pc := 59) C (bs := []) (cs := []) (cs' := (fun (_ : Unit) => [])) (bs' := (fun (_ : Unit) => [])) (w' := (fun (_ : Unit) => (fl []))) [] rfl rfl (fun _ => rfl) (fun _ => rfl) (fun _ => rfl) (v_runSB (pc := 59) C [.int x1, .int x2] [] (fun sz => ctX12_pencil l E x1 x2 hw sz) [] rfl rfl rfl mfX12_pencil msX12_pencil wmX12_64 rfl ⟨Nat.le_of_ble_eq_true rfl, Nat.le_of_ble_eq_true rfl⟩ ⟨rfl, rfl⟩ rfl (Nat.le_of_ble_eq_true rfl) ⟨Nat.zero_le _, Nat.zero_le _⟩ dX12_forceOf_59) (fun r2 _ hw => ?_)
  refine v_iconst (pc := 62) C 2 ki_2 dX12_forceOf_62 ?_
  refine v_idiv (pc := 63) C (by decide) dX12_forceOf_63 ?_
  exact v_ireti (pc := 64) C () hA rfl hw dX12_forceOf_64
set_option maxHeartbeats 4000000 in
set_option maxRecDepth 100000 in
theorem ctX12_forceOf (l : Launch) (E : VE)  (x0 : Int32) (x1 : Int32) (x2 : Int32)   {Post : Int32 → Prop} (hw : wpX12_forceOf x0 x1 x2 Post) (sz : Nat) : Met l yX12_forceOf (mW yX12_forceOf cX12_forceOf 3 (some .int)) rmX12_forceOf (CPre E [.int x0, .int x1, .int x2] sz (fl [])) (CQi E (fun (z : Int32) (_ : Unit) => Post z) (fun _ => (fl [])) (fl []) sz) 0 0 (va_A (fl []) sz) := by
  refine v_met (by decide) (Nat.le_of_ble_eq_true rfl) ?_
  intro pr e s m below meth c A hsz hA C
  subst hsz
  refine v_iload_n (pc := 0) C 0 rfl rfl dX12_forceOf_0 ?_
  refine v_if_ne (pc := 1) C 10 (by decide) dX12_forceOf_1 (fun hc => ?_) (fun hc => ?_)
  · have hw := hw.1 hc
    refine v_iload_n (pc := 10) C 0 rfl rfl dX12_forceOf_10 ?_
    refine v_iconst (pc := 11) C 1 ki_1 dX12_forceOf_11 ?_
    refine v_icmp_eq (pc := 12) C 20 (by decide) dX12_forceOf_12 (fun hc => ?_) (fun hc => ?_)
    · have hw := hw.1 hc
      refine v_sub (lv' := [(1, .int x1), (2, .int x2)]) [1, 2] rfl ?_
      exact vjX12_forceOf_20 C hA   x1 x2 hw
    · have hw := hw.2 hc
      refine v_iload_n (pc := 15) C 0 rfl rfl dX12_forceOf_15 ?_
      refine v_iconst (pc := 16) C 3 ki_3 dX12_forceOf_16 ?_
      refine v_icmp_ne (pc := 17) C 28 (by decide) dX12_forceOf_17 (fun hc => ?_) (fun hc => ?_)
      · have hw := hw.1 hc
        refine v_iload_n (pc := 28) C 0 rfl rfl dX12_forceOf_28 ?_
        refine v_iconst (pc := 29) C 5 ki_5 dX12_forceOf_29 ?_
        refine v_icmp_ne (pc := 30) C 43 (by decide) dX12_forceOf_30 (fun hc => ?_) (fun hc => ?_)
        · have hw := hw.1 hc
          refine v_iload_n (pc := 43) C 0 rfl rfl dX12_forceOf_43 ?_
          refine v_iconst (pc := 44) C 4 ki_4 dX12_forceOf_44 ?_
          refine v_icmp_ne (pc := 45) C 57 (by decide) dX12_forceOf_45 (fun hc => ?_) (fun hc => ?_)
          · have hw := hw.1 hc
            refine v_sub (lv' := [(1, .int x1), (2, .int x2)]) [1, 2] rfl ?_
            exact vjX12_forceOf_57 C hA   x1 x2 hw
          · have hw := hw.2 hc
            refine v_iload_n (pc := 48) C 2 rfl rfl dX12_forceOf_48 ?_
            refine v_iconst (pc := 49) C 1 ki_1 dX12_forceOf_49 ?_
            refine v_icmp_le (pc := 50) C 57 (by decide) dX12_forceOf_50 (fun hc => ?_) (fun hc => ?_)
            · have hw := hw.1 hc
              refine v_sub (lv' := [(1, .int x1), (2, .int x2)]) [1, 2] rfl ?_
              exact vjX12_forceOf_57 C hA   x1 x2 hw
            · have hw := hw.2 hc
              refine v_iconst (pc := 53) C 0 ki_0 dX12_forceOf_53 ?_
              refine v_goto (pc := 54) C 64 (by decide) dX12_forceOf_54 ?_
              exact v_ireti (pc := 64) C () hA rfl hw dX12_forceOf_64
        · have hw := hw.2 hc
          refine v_iload_n (pc := 33) C 1 rfl rfl dX12_forceOf_33 ?_
          refine v_iconst (pc := 34) C 1 ki_1 dX12_forceOf_34 ?_
          refine v_iadd (pc := 35) C dX12_forceOf_35 ?_
          refine v_iload_n (pc := 36) C 2 rfl rfl dX12_forceOf_36 ?_
          refine v_iconst (pc := 37) C 2 ki_2 dX12_forceOf_37 ?_
          refine v_idiv (pc := 38) C (by decide) dX12_forceOf_38 ?_
          refine v_goBi (pc := 39) C (bs := []) (cs := []) (cs' := (fun (_ : Unit) => [])) (bs' := (fun (_ : Unit) => [])) (w' := (fun (_ : Unit) => (fl []))) [] rfl rfl (fun _ => rfl) (fun _ => rfl) (fun _ => rfl) (v_runSB (pc := 39) C [.int (x1 + 1), .int (x2 / 2)] [] (fun sz => ctX12_pencil l E (x1 + 1) (x2 / 2) hw sz) [] rfl rfl rfl mfX12_pencil msX12_pencil wmX12_64 rfl ⟨Nat.le_of_ble_eq_true rfl, Nat.le_of_ble_eq_true rfl⟩ ⟨rfl, rfl⟩ rfl (Nat.le_of_ble_eq_true rfl) ⟨Nat.zero_le _, Nat.zero_le _⟩ dX12_forceOf_39) (fun r3 _ hw => ?_)
          exact v_ireti (pc := 42) C () hA rfl hw dX12_forceOf_42
      · have hw := hw.2 hc
        refine v_sub (lv' := [(1, .int x1), (2, .int x2)]) [1, 2] rfl ?_
        exact vjX12_forceOf_20 C hA   x1 x2 hw
  · have hw := hw.2 hc
    refine v_iload_n (pc := 4) C 1 rfl rfl dX12_forceOf_4 ?_
    refine v_iload_n (pc := 5) C 2 rfl rfl dX12_forceOf_5 ?_
    refine v_goBi (pc := 6) C (bs := []) (cs := []) (cs' := (fun (_ : Unit) => [])) (bs' := (fun (_ : Unit) => [])) (w' := (fun (_ : Unit) => (fl []))) [] rfl rfl (fun _ => rfl) (fun _ => rfl) (fun _ => rfl) (v_runSB (pc := 6) C [.int x1, .int x2] [] (fun sz => ctX12_pencil l E x1 x2 hw sz) [] rfl rfl rfl mfX12_pencil msX12_pencil wmX12_64 rfl ⟨Nat.le_of_ble_eq_true rfl, Nat.le_of_ble_eq_true rfl⟩ ⟨rfl, rfl⟩ rfl (Nat.le_of_ble_eq_true rfl) ⟨Nat.zero_le _, Nat.zero_le _⟩ dX12_forceOf_6) (fun r4 _ hw => ?_)
    exact v_ireti (pc := 9) C () hA rfl hw dX12_forceOf_9
set_option maxHeartbeats 4000000 in
set_option maxRecDepth 100000 in
theorem ctX12_hasInk (l : Launch) (E : VE)  (x0 : Int32)   {Post : Int32 → Prop} (hw : wpX12_hasInk x0 Post) (sz : Nat) : Met l yX12_hasInk (mW yX12_hasInk cX12_hasInk 1 (some .boolean)) rmX12_hasInk (CPre E [.int x0] sz (fl [])) (CQi E (fun (z : Int32) (_ : Unit) => Post z) (fun _ => (fl [])) (fl []) sz) 0 0 (va_A (fl []) sz) := by
  refine v_met (by decide) (Nat.le_of_ble_eq_true rfl) ?_
  intro pr e s m below meth c A hsz hA C
  subst hsz
  refine v_iload_n (pc := 0) C 0 rfl rfl dX12_hasInk_0 ?_
  refine v_iconst (pc := 1) C 3 ki_3 dX12_hasInk_1 ?_
  refine v_icmp_eq (pc := 2) C 14 (by decide) dX12_hasInk_2 (fun hc => ?_) (fun hc => ?_)
  · have hw := hw.1 hc
    refine v_iconst (pc := 14) C 0 ki_0 dX12_hasInk_14 ?_
    exact v_iretz (pc := 15) C rfl () hA rfl hw dX12_hasInk_15
  · have hw := hw.2 hc
    refine v_iload_n (pc := 5) C 0 rfl rfl dX12_hasInk_5 ?_
    refine v_iconst (pc := 6) C 5 ki_5 dX12_hasInk_6 ?_
    refine v_icmp_eq (pc := 7) C 14 (by decide) dX12_hasInk_7 (fun hc => ?_) (fun hc => ?_)
    · have hw := hw.1 hc
      refine v_iconst (pc := 14) C 0 ki_0 dX12_hasInk_14 ?_
      exact v_iretz (pc := 15) C rfl () hA rfl hw dX12_hasInk_15
    · have hw := hw.2 hc
      refine v_iconst (pc := 10) C 1 ki_1 dX12_hasInk_10 ?_
      refine v_goto (pc := 11) C 15 (by decide) dX12_hasInk_11 ?_
      exact v_iretz (pc := 15) C rfl () hA rfl hw dX12_hasInk_15
set_option maxHeartbeats 4000000 in
set_option maxRecDepth 100000 in
theorem vlX12_empty_2 (C : VC pr s m args meth c E A cX12_empty 2 none RX12) (hA : va_A w0 s.heap.size = A) (a : Nat → Nat)  {Post : St → Prop} {KX : St → Prop} (hX : ∀ (p : St), KX p → V pr l e rmX12_empty s m args below meth c E A 2 0 0 (MQ below (CQv E Post (fun u => (fl [bModel E a u])) w0 s.heap.size) args s 0 0 A) (fl [bModel E a p]) 21 [(0, .ref (a 0))] []) : ∀ (n : Nat) (x1 : Int32) (p : St), wLX12_empty_2  Post KX n (x1, p) → V pr l e rmX12_empty s m args below meth c E A 2 0 0 (MQ below (CQv E Post (fun u => (fl [bModel E a u])) w0 s.heap.size) args s 0 0 A) (fl [bModel E a p]) 2 [(0, .ref (a 0)), (1, .int x1)] [] := by
  intro n
  induction n with
  | zero => intro x1 p hw; exact absurd hw id
  | succ n hself =>
    intro x1 p hw
    have hw : wlX12_empty_2  Post KX (wLX12_empty_2  Post KX n) x1 p := hw
    refine v_iload_n (pc := 2) C 1 rfl rfl dX12_empty_2 ?_
    refine v_bipush (pc := 3) C 126 kb_126 dX12_empty_3 ?_
    refine v_icmp_ge (pc := 5) C 21 (by decide) dX12_empty_5 (fun hc => ?_) (fun hc => ?_)
    · have hw := hw.1 hc
      refine v_sub (lv' := [(0, .ref (a 0))]) [0] rfl ?_
      exact hX p hw
    · have hw := hw.2 hc
      refine v_aload_n (pc := 8) C 0 rfl rfl dX12_empty_8 ?_
      refine v_get (pc := 9) C cfX12 rfl 0 4 rfl (by decide) wfX12_17 rfl dX12_empty_9 ?_
      refine v_iload_n (pc := 12) C 1 rfl rfl dX12_empty_12 ?_
      refine v_iconst (pc := 13) C 0 ki_0 dX12_empty_13 ?_
      obtain ⟨hg, hw⟩ := hw
      obtain ⟨p1, es⟩ : ∃ y : St, y = p.sA 4 (upd (p.A 4) x1.toNatClampNeg 0) := ⟨_, rfl⟩
      have hw := hw p1 es
      refine v_iast (pc := 14) C 2 (w' := (fl [bModel E a p1])) rfl rfl (by subst es; rfl) hg dX12_empty_14 ?_
      obtain ⟨x1_2, ex⟩ : ∃ y : Int32, y = x1 + 1 := ⟨_, rfl⟩
      have hw := hw x1_2 ex
      refine v_iinc (pc := 15) C 1 rfl (by rw [ex, ki_1]) [(1, .int x1_2), (0, .ref (a 0))] rfl (by decide) dX12_empty_15 ?_
      refine v_goto (pc := 18) C 2 (by decide) dX12_empty_18 ?_
      refine v_sub (lv' := [(0, .ref (a 0)), (1, .int x1_2)]) [1, 0] rfl ?_
      exact hself x1_2 p1 hw
set_option maxHeartbeats 4000000 in
set_option maxRecDepth 100000 in
theorem ctX12_empty (l : Launch) (E : VE) (a : Nat → Nat)  (p : St)  {Post : St → Prop} (hw : wpX12_empty p Post) (sz : Nat) : Met l yX12_empty (mW yX12_empty cX12_empty 2 none) rmX12_empty (CPre E [.ref (a 0)] sz (fl [bModel E a p])) (CQv E Post (fun u => (fl [bModel E a u])) (fl [bModel E a p]) sz) 0 0 (va_A (fl [bModel E a p]) sz) := by
  refine v_met (by decide) (Nat.le_of_ble_eq_true rfl) ?_
  intro pr e s m below meth c A hsz hA C
  subst hsz
  refine v_iconst (pc := 0) C 0 ki_0 dX12_empty_0 ?_
  refine v_istore_n (pc := 1) C [(1, .int 0), (0, .ref (a 0))] rfl rfl (by decide) dX12_empty_1 ?_
  obtain ⟨n, hw⟩ := hw
  refine v_sub (lv' := [(0, .ref (a 0)), (1, .int 0)]) [1, 0] rfl ?_
  refine vlX12_empty_2 C hA a  (fun p3 hw => ?_) n 0 p hw
  refine v_aload_n (pc := 21) C 0 rfl rfl dX12_empty_21 ?_
  refine v_iconst (pc := 22) C 0 ki_0 dX12_empty_22 ?_
  obtain ⟨p4, es⟩ : ∃ y : St, y = p3.sI 1 0 := ⟨_, rfl⟩
  have hw := hw p4 es
  refine v_put (pc := 23) C cfX12 rfl 0 1 (ty := .int) (w' := (fl [bModel E a p4])) rfl (by subst es; rfl) (by decide) wfX12_67 rfl rfl rfl rfl (Nat.le_of_ble_eq_true rfl) dX12_empty_23 ?_
  refine v_aload_n (pc := 26) C 0 rfl rfl dX12_empty_26 ?_
  refine v_iconst (pc := 27) C 0 ki_0 dX12_empty_27 ?_
  obtain ⟨p5, es⟩ : ∃ y : St, y = p4.sI 6 0 := ⟨_, rfl⟩
  have hw := hw p5 es
  refine v_put (pc := 28) C cfX12 rfl 0 6 (ty := .int) (w' := (fl [bModel E a p5])) rfl (by subst es; rfl) (by decide) wfX12_70 rfl rfl rfl rfl (Nat.le_of_ble_eq_true rfl) dX12_empty_28 ?_
  exact v_vret (pc := 31) C p5 hA rfl hw dX12_empty_31
set_option maxHeartbeats 4000000 in
set_option maxRecDepth 100000 in
theorem ctX12_pad (l : Launch) (E : VE) (a : Nat → Nat) (x1 : Int32) (p : St)  {Post : Int32 → St → Prop} (hw : wpX12_pad x1 p Post) (sz : Nat) : Met l yX12_pad (mW yX12_pad cX12_pad 3 (some .int)) rmX12_pad (CPre E [.ref (a 0), .int x1] sz (fl [bModel E a p])) (CQi E Post (fun u => (fl [bModel E a u])) (fl [bModel E a p]) sz) 0 0 (va_A (fl [bModel E a p]) sz) := by
  refine v_met (by decide) (Nat.le_of_ble_eq_true rfl) ?_
  intro pr e s m below meth c A hsz hA C
  subst hsz
  refine v_iload_n (pc := 0) C 1 rfl rfl dX12_pad_0 ?_
  refine v_i2l (pc := 1) C dX12_pad_1 ?_
  refine v_lconst (pc := 2) C 1 kl_1 dX12_pad_2 ?_
  refine v_ldc2 (pc := 3) C 6 wlX12_73 dX12_pad_3 ?_
  refine v_goBi (pc := 6) C (bs := [bModel E a p]) (cs := []) (cs' := (fun (_ : Unit) => [])) (bs' := (fun (_ : Unit) => [bModel E a p])) (w' := (fun (_ : Unit) => (fl [bModel E a p]))) [] rfl rfl (fun _ => rfl) (fun _ => rfl) (fun _ => rfl) (v_runSB (pc := 6) C [.long (x1.toInt64), .long 1, .long 6] [] (fun sz => ctX12_in l E (x1.toInt64) 1 6 hw sz) [] rfl rfl rfl mfX12_in msX12_in wmX12_56 rfl ⟨Nat.le_of_ble_eq_true rfl, Nat.le_of_ble_eq_true rfl⟩ ⟨rfl, rfl⟩ rfl (Nat.le_of_ble_eq_true rfl) ⟨Nat.zero_le _, Nat.zero_le _⟩ dX12_pad_6) (fun r1 _ hw => ?_)
  refine v_if_ne (pc := 9) C 17 (by decide) dX12_pad_9 (fun hc => ?_) (fun hc => ?_)
  · have hw := hw.1 hc
    refine v_aload_n (pc := 17) C 0 rfl rfl dX12_pad_17 ?_
    refine v_get (pc := 18) C cfX12 rfl 0 0 rfl (by decide) wfX12_7 rfl dX12_pad_18 ?_
    refine v_topi (fun x2_2 ex => ?_)
    have hw := hw x2_2 ex
    refine v_istore_n (pc := 21) C [(2, .int x2_2), (0, .ref (a 0)), (1, .int x1)] rfl rfl (by decide) dX12_pad_21 ?_
    refine v_aload_n (pc := 22) C 1 rfl rfl dX12_pad_22 ?_
    refine v_iload_n (pc := 23) C 2 rfl rfl dX12_pad_23 ?_
    obtain ⟨p3, es⟩ : ∃ y : St, y = p.sI 0 x1 := ⟨_, rfl⟩
    have hw := hw p3 es
    refine v_put (pc := 24) C cfX12 rfl 0 0 (ty := .int) (w' := (fl [bModel E a p3])) rfl (by subst es; rfl) (by decide) wfX12_7 rfl rfl rfl rfl (Nat.le_of_ble_eq_true rfl) dX12_pad_24 ?_
    refine v_aload_n (pc := 27) C 1 rfl rfl dX12_pad_27 ?_
    refine v_iconst (pc := 28) C 0 ki_0 dX12_pad_28 ?_
    obtain ⟨p4, es⟩ : ∃ y : St, y = p3.sI 3 0 := ⟨_, rfl⟩
    have hw := hw p4 es
    refine v_put (pc := 29) C cfX12 rfl 0 3 (ty := .int) (w' := (fl [bModel E a p4])) rfl (by subst es; rfl) (by decide) wfX12_79 rfl rfl rfl rfl (Nat.le_of_ble_eq_true rfl) dX12_pad_29 ?_
    refine v_aload_n (pc := 32) C 1 rfl rfl dX12_pad_32 ?_
    refine v_goAv (pc := 33) C (wc' := (fun (u : St) => (fl [bModel E a u]))) (fun _ => rfl) (v_runVA (pc := 33) C [] [] (fun sz => ctX12_empty l E a p4 hw sz) mfX12_empty mvX12_empty wmX12_82 rfl ⟨Nat.le_of_ble_eq_true rfl, Nat.le_of_ble_eq_true rfl⟩ ⟨rfl, rfl⟩ 0 (ci := 12) (qc := (RX12, TX12, 30)) rfl rfl rfl rfl (Nat.le_of_ble_eq_true rfl) ⟨Nat.zero_le _, Nat.zero_le _⟩ dX12_pad_33) (fun p5 hw => ?_)
    refine v_iload_n (pc := 36) C 0 rfl rfl dX12_pad_36 ?_
    exact v_ireti (pc := 37) C p5 hA rfl hw dX12_pad_37
  · have hw := hw.2 hc
    refine v_aload_n (pc := 12) C 0 rfl rfl dX12_pad_12 ?_
    refine v_goAi (pc := 13) C (wc' := (fun (u : St) => (fl [bModel E a u]))) (fun _ => rfl) (v_runVA (pc := 13) C [] [] (fun sz => ctX12_bad l E a p hw sz) mfX12_bad mvX12_bad wmX12_75 rfl ⟨Nat.le_of_ble_eq_true rfl, Nat.le_of_ble_eq_true rfl⟩ ⟨rfl, rfl⟩ 0 (ci := 12) (qc := (RX12, TX12, 30)) rfl rfl rfl rfl (Nat.le_of_ble_eq_true rfl) ⟨Nat.zero_le _, Nat.zero_le _⟩ dX12_pad_13) (fun r6 p7 hw => ?_)
    exact v_ireti (pc := 16) C p7 hA rfl hw dX12_pad_16
set_option maxHeartbeats 4000000 in
set_option maxRecDepth 100000 in
theorem ctX12_carbons (l : Launch) (E : VE) (a : Nat → Nat) (x1 : Int32) (p : St)  {Post : Int32 → St → Prop} (hw : wpX12_carbons x1 p Post) (sz : Nat) : Met l yX12_carbons (mW yX12_carbons cX12_carbons 3 (some .int)) rmX12_carbons (CPre E [.ref (a 0), .int x1] sz (fl [bModel E a p])) (CQi E Post (fun u => (fl [bModel E a u])) (fl [bModel E a p]) sz) 0 0 (va_A (fl [bModel E a p]) sz) := by
  refine v_met (by decide) (Nat.le_of_ble_eq_true rfl) ?_
  intro pr e s m below meth c A hsz hA C
  subst hsz
  refine v_iload_n (pc := 0) C 1 rfl rfl dX12_carbons_0 ?_
  refine v_i2l (pc := 1) C dX12_carbons_1 ?_
  refine v_lconst (pc := 2) C 0 kl_0 dX12_carbons_2 ?_
  refine v_iconst (pc := 3) C 1 ki_1 dX12_carbons_3 ?_
  refine v_aload_n (pc := 4) C 0 rfl rfl dX12_carbons_4 ?_
  refine v_get (pc := 5) C cfX12 rfl 0 0 rfl (by decide) wfX12_7 rfl dX12_carbons_5 ?_
  refine v_ishl (pc := 8) C dX12_carbons_8 ?_
  refine v_iconst (pc := 9) C 1 ki_1 dX12_carbons_9 ?_
  refine v_isub (pc := 10) C dX12_carbons_10 ?_
  refine v_i2l (pc := 11) C dX12_carbons_11 ?_
  refine v_goBi (pc := 12) C (bs := [bModel E a p]) (cs := []) (cs' := (fun (_ : Unit) => [])) (bs' := (fun (_ : Unit) => [bModel E a p])) (w' := (fun (_ : Unit) => (fl [bModel E a p]))) [] rfl rfl (fun _ => rfl) (fun _ => rfl) (fun _ => rfl) (v_runSB (pc := 12) C [.long (x1.toInt64), .long 0, .long (((((1 : Int32) <<< ((p.I 0) &&& 31)) - 1)).toInt64)] [] (fun sz => ctX12_in l E (x1.toInt64) 0 (((((1 : Int32) <<< ((p.I 0) &&& 31)) - 1)).toInt64) hw sz) [] rfl rfl rfl mfX12_in msX12_in wmX12_56 rfl ⟨Nat.le_of_ble_eq_true rfl, Nat.le_of_ble_eq_true rfl⟩ ⟨rfl, rfl⟩ rfl (Nat.le_of_ble_eq_true rfl) ⟨Nat.zero_le _, Nat.zero_le _⟩ dX12_carbons_12) (fun r1 _ hw => ?_)
  refine v_if_ne (pc := 15) C 23 (by decide) dX12_carbons_15 (fun hc => ?_) (fun hc => ?_)
  · have hw := hw.1 hc
    refine v_aload_n (pc := 23) C 0 rfl rfl dX12_carbons_23 ?_
    refine v_get (pc := 24) C cfX12 rfl 0 1 rfl (by decide) wfX12_67 rfl dX12_carbons_24 ?_
    refine v_topi (fun x2_2 ex => ?_)
    have hw := hw x2_2 ex
    refine v_istore_n (pc := 27) C [(2, .int x2_2), (0, .ref (a 0)), (1, .int x1)] rfl rfl (by decide) dX12_carbons_27 ?_
    refine v_aload_n (pc := 28) C 1 rfl rfl dX12_carbons_28 ?_
    refine v_iload_n (pc := 29) C 2 rfl rfl dX12_carbons_29 ?_
    obtain ⟨p3, es⟩ : ∃ y : St, y = p.sI 1 x1 := ⟨_, rfl⟩
    have hw := hw p3 es
    refine v_put (pc := 30) C cfX12 rfl 0 1 (ty := .int) (w' := (fl [bModel E a p3])) rfl (by subst es; rfl) (by decide) wfX12_67 rfl rfl rfl rfl (Nat.le_of_ble_eq_true rfl) dX12_carbons_30 ?_
    refine v_iload_n (pc := 33) C 0 rfl rfl dX12_carbons_33 ?_
    exact v_ireti (pc := 34) C p3 hA rfl hw dX12_carbons_34
  · have hw := hw.2 hc
    refine v_aload_n (pc := 18) C 0 rfl rfl dX12_carbons_18 ?_
    refine v_goAi (pc := 19) C (wc' := (fun (u : St) => (fl [bModel E a u]))) (fun _ => rfl) (v_runVA (pc := 19) C [] [] (fun sz => ctX12_bad l E a p hw sz) mfX12_bad mvX12_bad wmX12_75 rfl ⟨Nat.le_of_ble_eq_true rfl, Nat.le_of_ble_eq_true rfl⟩ ⟨rfl, rfl⟩ 0 (ci := 12) (qc := (RX12, TX12, 30)) rfl rfl rfl rfl (Nat.le_of_ble_eq_true rfl) ⟨Nat.zero_le _, Nat.zero_le _⟩ dX12_carbons_19) (fun r4 p5 hw => ?_)
    exact v_ireti (pc := 22) C p5 hA rfl hw dX12_carbons_22
set_option maxHeartbeats 4000000 in
set_option maxRecDepth 100000 in
theorem vlX12_note_51 (C : VC pr s m args meth c E A cX12_note 2 none RX12) (hA : va_A w0 s.heap.size = A) (a : Nat → Nat)  {Post : St → Prop} {KX : St → Prop} (hX : ∀ (p : St), KX p → V pr l e rmX12_note s m args below meth c E A 2 0 0 (MQ below (CQv E Post (fun u => (fl [bModel E a u])) w0 s.heap.size) args s 0 0 A) (fl [bModel E a p]) 83 [(0, .ref (a 0))] []) : ∀ (n : Nat) (x1 : Int32) (p : St), wLX12_note_51  Post KX n (x1, p) → V pr l e rmX12_note s m args below meth c E A 2 0 0 (MQ below (CQv E Post (fun u => (fl [bModel E a u])) w0 s.heap.size) args s 0 0 A) (fl [bModel E a p]) 51 [(0, .ref (a 0)), (1, .int x1)] [] := by
  intro n
  induction n with
  | zero => intro x1 p hw; exact absurd hw id
  | succ n hself =>
    intro x1 p hw
    have hw : wlX12_note_51  Post KX (wLX12_note_51  Post KX n) x1 p := hw
    refine v_iload_n (pc := 51) C 1 rfl rfl dX12_note_51 ?_
    refine v_bipush (pc := 52) C 126 kb_126 dX12_note_52 ?_
    refine v_icmp_ge (pc := 54) C 83 (by decide) dX12_note_54 (fun hc => ?_) (fun hc => ?_)
    · have hw := hw.1 hc
      refine v_sub (lv' := [(0, .ref (a 0))]) [0] rfl ?_
      exact hX p hw
    · have hw := hw.2 hc
      refine v_aload_n (pc := 57) C 0 rfl rfl dX12_note_57 ?_
      refine v_get (pc := 58) C cfX12 rfl 0 5 rfl (by decide) wfX12_20 rfl dX12_note_58 ?_
      refine v_bipush (pc := 61) C 126 kb_126 dX12_note_61 ?_
      refine v_aload_n (pc := 63) C 0 rfl rfl dX12_note_63 ?_
      refine v_get (pc := 64) C cfX12 rfl 0 6 rfl (by decide) wfX12_70 rfl dX12_note_64 ?_
      refine v_imul (pc := 67) C dX12_note_67 ?_
      refine v_iload_n (pc := 68) C 1 rfl rfl dX12_note_68 ?_
      refine v_iadd (pc := 69) C dX12_note_69 ?_
      refine v_aload_n (pc := 70) C 0 rfl rfl dX12_note_70 ?_
      refine v_get (pc := 71) C cfX12 rfl 0 4 rfl (by decide) wfX12_17 rfl dX12_note_71 ?_
      refine v_iload_n (pc := 74) C 1 rfl rfl dX12_note_74 ?_
      obtain ⟨hg, hw⟩ := hw
      refine v_iald (pc := 75) C 2 rfl hg rfl dX12_note_75 ?_
      obtain ⟨hg, hw⟩ := hw
      obtain ⟨p1, es⟩ : ∃ y : St, y = p.sA 5 (upd (p.A 5) (((126 : Int32) * (p.I 6)) + x1).toNatClampNeg ((p.A 4) x1.toNatClampNeg)) := ⟨_, rfl⟩
      have hw := hw p1 es
      refine v_iast (pc := 76) C 3 (w' := (fl [bModel E a p1])) rfl rfl (by subst es; rfl) hg dX12_note_76 ?_
      obtain ⟨x1_2, ex⟩ : ∃ y : Int32, y = x1 + 1 := ⟨_, rfl⟩
      have hw := hw x1_2 ex
      refine v_iinc (pc := 77) C 1 rfl (by rw [ex, ki_1]) [(1, .int x1_2), (0, .ref (a 0))] rfl (by decide) dX12_note_77 ?_
      refine v_goto (pc := 80) C 51 (by decide) dX12_note_80 ?_
      refine v_sub (lv' := [(0, .ref (a 0)), (1, .int x1_2)]) [1, 0] rfl ?_
      exact hself x1_2 p1 hw
set_option maxHeartbeats 4000000 in
set_option maxRecDepth 100000 in
theorem vlX12_note_11 (C : VC pr s m args meth c E A cX12_note 2 none RX12) (hA : va_A w0 s.heap.size = A) (a : Nat → Nat)  {Post : St → Prop} {KX : St → Prop} (hX : ∀ (p : St), KX p → V pr l e rmX12_note s m args below meth c E A 2 0 0 (MQ below (CQv E Post (fun u => (fl [bModel E a u])) w0 s.heap.size) args s 0 0 A) (fl [bModel E a p]) 39 [(0, .ref (a 0))] []) : ∀ (n : Nat) (x1 : Int32) (p : St), wLX12_note_11  Post KX n (x1, p) → V pr l e rmX12_note s m args below meth c E A 2 0 0 (MQ below (CQv E Post (fun u => (fl [bModel E a u])) w0 s.heap.size) args s 0 0 A) (fl [bModel E a p]) 11 [(0, .ref (a 0)), (1, .int x1)] [] := by
  intro n
  induction n with
  | zero => intro x1 p hw; exact absurd hw id
  | succ n hself =>
    intro x1 p hw
    have hw : wlX12_note_11  Post KX (wLX12_note_11  Post KX n) x1 p := hw
    refine v_iload_n (pc := 11) C 1 rfl rfl dX12_note_11 ?_
    refine v_sipush (pc := 12) C 882 ks_882 dX12_note_12 ?_
    refine v_icmp_ge (pc := 15) C 39 (by decide) dX12_note_15 (fun hc => ?_) (fun hc => ?_)
    · have hw := hw.1 hc
      refine v_sub (lv' := [(0, .ref (a 0))]) [0] rfl ?_
      exact hX p hw
    · have hw := hw.2 hc
      refine v_aload_n (pc := 18) C 0 rfl rfl dX12_note_18 ?_
      refine v_get (pc := 19) C cfX12 rfl 0 5 rfl (by decide) wfX12_20 rfl dX12_note_19 ?_
      refine v_iload_n (pc := 22) C 1 rfl rfl dX12_note_22 ?_
      refine v_aload_n (pc := 23) C 0 rfl rfl dX12_note_23 ?_
      refine v_get (pc := 24) C cfX12 rfl 0 5 rfl (by decide) wfX12_20 rfl dX12_note_24 ?_
      refine v_iload_n (pc := 27) C 1 rfl rfl dX12_note_27 ?_
      refine v_bipush (pc := 28) C 126 kb_126 dX12_note_28 ?_
      refine v_iadd (pc := 30) C dX12_note_30 ?_
      obtain ⟨hg, hw⟩ := hw
      refine v_iald (pc := 31) C 3 rfl hg rfl dX12_note_31 ?_
      obtain ⟨hg, hw⟩ := hw
      obtain ⟨p5, es⟩ : ∃ y : St, y = p.sA 5 (upd (p.A 5) x1.toNatClampNeg ((p.A 5) (x1 + 126).toNatClampNeg)) := ⟨_, rfl⟩
      have hw := hw p5 es
      refine v_iast (pc := 32) C 3 (w' := (fl [bModel E a p5])) rfl rfl (by subst es; rfl) hg dX12_note_32 ?_
      obtain ⟨x1_6, ex⟩ : ∃ y : Int32, y = x1 + 1 := ⟨_, rfl⟩
      have hw := hw x1_6 ex
      refine v_iinc (pc := 33) C 1 rfl (by rw [ex, ki_1]) [(1, .int x1_6), (0, .ref (a 0))] rfl (by decide) dX12_note_33 ?_
      refine v_goto (pc := 36) C 11 (by decide) dX12_note_36 ?_
      refine v_sub (lv' := [(0, .ref (a 0)), (1, .int x1_6)]) [1, 0] rfl ?_
      exact hself x1_6 p5 hw
set_option maxHeartbeats 4000000 in
set_option maxRecDepth 100000 in
theorem ctX12_note (l : Launch) (E : VE) (a : Nat → Nat)  (p : St)  {Post : St → Prop} (hw : wpX12_note p Post) (sz : Nat) : Met l yX12_note (mW yX12_note cX12_note 2 none) rmX12_note (CPre E [.ref (a 0)] sz (fl [bModel E a p])) (CQv E Post (fun u => (fl [bModel E a u])) (fl [bModel E a p]) sz) 0 0 (va_A (fl [bModel E a p]) sz) := by
  refine v_met (by decide) (Nat.le_of_ble_eq_true rfl) ?_
  intro pr e s m below meth c A hsz hA C
  subst hsz
  refine v_aload_n (pc := 0) C 0 rfl rfl dX12_note_0 ?_
  refine v_get (pc := 1) C cfX12 rfl 0 6 rfl (by decide) wfX12_70 rfl dX12_note_1 ?_
  refine v_bipush (pc := 4) C 8 kb_8 dX12_note_4 ?_
  refine v_icmp_ne (pc := 6) C 49 (by decide) dX12_note_6 (fun hc => ?_) (fun hc => ?_)
  · have hw := hw.1 hc
    refine v_iconst (pc := 49) C 0 ki_0 dX12_note_49 ?_
    refine v_istore_n (pc := 50) C [(1, .int 0), (0, .ref (a 0))] rfl rfl (by decide) dX12_note_50 ?_
    obtain ⟨n, hw⟩ := hw
    refine v_sub (lv' := [(0, .ref (a 0)), (1, .int 0)]) [1, 0] rfl ?_
    refine vlX12_note_51 C hA a  (fun p3 hw => ?_) n 0 p hw
    refine v_aload_n (pc := 83) C 0 rfl rfl dX12_note_83 ?_
    refine v_dup (pc := 84) C rfl dX12_note_84 ?_
    refine v_get (pc := 85) C cfX12 rfl 0 6 rfl (by decide) wfX12_70 rfl dX12_note_85 ?_
    refine v_iconst (pc := 88) C 1 ki_1 dX12_note_88 ?_
    refine v_iadd (pc := 89) C dX12_note_89 ?_
    obtain ⟨p4, es⟩ : ∃ y : St, y = p3.sI 6 ((p3.I 6) + 1) := ⟨_, rfl⟩
    have hw := hw p4 es
    refine v_put (pc := 90) C cfX12 rfl 0 6 (ty := .int) (w' := (fl [bModel E a p4])) rfl (by subst es; rfl) (by decide) wfX12_70 rfl rfl rfl rfl (Nat.le_of_ble_eq_true rfl) dX12_note_90 ?_
    exact v_vret (pc := 93) C p4 hA rfl hw dX12_note_93
  · have hw := hw.2 hc
    refine v_iconst (pc := 9) C 0 ki_0 dX12_note_9 ?_
    refine v_istore_n (pc := 10) C [(1, .int 0), (0, .ref (a 0))] rfl rfl (by decide) dX12_note_10 ?_
    obtain ⟨n, hw⟩ := hw
    refine v_sub (lv' := [(0, .ref (a 0)), (1, .int 0)]) [1, 0] rfl ?_
    refine vlX12_note_11 C hA a  (fun p7 hw => ?_) n 0 p hw
    refine v_aload_n (pc := 39) C 0 rfl rfl dX12_note_39 ?_
    refine v_dup (pc := 40) C rfl dX12_note_40 ?_
    refine v_get (pc := 41) C cfX12 rfl 0 6 rfl (by decide) wfX12_70 rfl dX12_note_41 ?_
    refine v_iconst (pc := 44) C 1 ki_1 dX12_note_44 ?_
    refine v_isub (pc := 45) C dX12_note_45 ?_
    obtain ⟨p8, es⟩ : ∃ y : St, y = p7.sI 6 ((p7.I 6) - 1) := ⟨_, rfl⟩
    have hw := hw p8 es
    refine v_put (pc := 46) C cfX12 rfl 0 6 (ty := .int) (w' := (fl [bModel E a p8])) rfl (by subst es; rfl) (by decide) wfX12_70 rfl rfl rfl rfl (Nat.le_of_ble_eq_true rfl) dX12_note_46 ?_
    refine v_iconst (pc := 49) C 0 ki_0 dX12_note_49 ?_
    refine v_istore_n (pc := 50) C [(1, .int 0), (0, .ref (a 0))] rfl rfl (by decide) dX12_note_50 ?_
    obtain ⟨n, hw⟩ := hw
    refine v_sub (lv' := [(0, .ref (a 0)), (1, .int 0)]) [1, 0] rfl ?_
    refine vlX12_note_51 C hA a  (fun p9 hw => ?_) n 0 p8 hw
    refine v_aload_n (pc := 83) C 0 rfl rfl dX12_note_83 ?_
    refine v_dup (pc := 84) C rfl dX12_note_84 ?_
    refine v_get (pc := 85) C cfX12 rfl 0 6 rfl (by decide) wfX12_70 rfl dX12_note_85 ?_
    refine v_iconst (pc := 88) C 1 ki_1 dX12_note_88 ?_
    refine v_iadd (pc := 89) C dX12_note_89 ?_
    obtain ⟨p10, es⟩ : ∃ y : St, y = p9.sI 6 ((p9.I 6) + 1) := ⟨_, rfl⟩
    have hw := hw p10 es
    refine v_put (pc := 90) C cfX12 rfl 0 6 (ty := .int) (w' := (fl [bModel E a p10])) rfl (by subst es; rfl) (by decide) wfX12_70 rfl rfl rfl rfl (Nat.le_of_ble_eq_true rfl) dX12_note_90 ?_
    exact v_vret (pc := 93) C p10 hA rfl hw dX12_note_93
set_option maxHeartbeats 4000000 in
set_option maxRecDepth 100000 in
theorem vjX12_dentAll_116 (C : VC pr s m args meth c E A cX12_dentAll 9 none RX12) (hA : va_A w0 s.heap.size = A) (a : Nat → Nat)  {Post : St → Prop} {self : (Int32 × Int32 × Int32 × Int32 × Int32 × Int32 × Int32 × St) → Prop} {KX : Int32 → Int32 → Int32 → Int32 → Int32 → Int32 → St → Prop} (x1 : Int32) (x2 : Int32) (x3 : Int32) (x4 : Int32) (x5 : Int32) (x6 : Int32) (x7 : Int32) (z0 : Int32) (z1 : Int32) (p : St) (hw : wjX12_dentAll_116  Post self KX x1 x2 x3 x4 x5 x6 x7 z0 z1 p) (hself : ∀ (x1 : Int32) (x2 : Int32) (x3 : Int32) (x4 : Int32) (x5 : Int32) (x6 : Int32) (x7 : Int32) (p : St), self (x1, x2, x3, x4, x5, x6, x7, p) → V pr l e rmX12_dentAll s m args below meth c E A 9 0 0 (MQ below (CQv E Post (fun u => (fl [bModel E a u])) w0 s.heap.size) args s 0 0 A) (fl [bModel E a p]) 57 [(0, .ref (a 0)), (1, .int x1), (2, .int x2), (3, .int x3), (4, .int x4), (5, .int x5), (6, .int x6), (7, .int x7)] []) (hX : ∀ (x1 : Int32) (x2 : Int32) (x3 : Int32) (x4 : Int32) (x5 : Int32) (x6 : Int32) (p : St), KX x1 x2 x3 x4 x5 x6 p → V pr l e rmX12_dentAll s m args below meth c E A 9 0 0 (MQ below (CQv E Post (fun u => (fl [bModel E a u])) w0 s.heap.size) args s 0 0 A) (fl [bModel E a p]) 123 [(0, .ref (a 0)), (1, .int x1), (2, .int x2), (3, .int x3), (4, .int x4), (5, .int x5), (6, .int x6)] []) : V pr l e rmX12_dentAll s m args below meth c E A 9 0 0 (MQ below (CQv E Post (fun u => (fl [bModel E a u])) w0 s.heap.size) args s 0 0 A) (fl [bModel E a p]) 116 [(0, .ref (a 0)), (1, .int x1), (2, .int x2), (3, .int x3), (4, .int x4), (5, .int x5), (6, .int x6), (7, .int x7)] [.int z0, .int z1, .ref (a 2)] := by
  obtain ⟨hg, hw⟩ := hw
  obtain ⟨p6, es⟩ : ∃ y : St, y = p.sA 4 (upd (p.A 4) z1.toNatClampNeg z0) := ⟨_, rfl⟩
  have hw := hw p6 es
  refine v_iast (pc := 116) C 2 (w' := (fl [bModel E a p6])) rfl rfl (by subst es; rfl) hg dX12_dentAll_116 ?_
  obtain ⟨x7_7, ex⟩ : ∃ y : Int32, y = x7 + 1 := ⟨_, rfl⟩
  have hw := hw x7_7 ex
  refine v_iinc (pc := 117) C 7 rfl (by rw [ex, ki_1]) [(7, .int x7_7), (0, .ref (a 0)), (1, .int x1), (2, .int x2), (3, .int x3), (4, .int x4), (5, .int x5), (6, .int x6)] rfl (by decide) dX12_dentAll_117 ?_
  refine v_goto (pc := 120) C 57 (by decide) dX12_dentAll_120 ?_
  refine v_sub (lv' := [(0, .ref (a 0)), (1, .int x1), (2, .int x2), (3, .int x3), (4, .int x4), (5, .int x5), (6, .int x6), (7, .int x7_7)]) [1, 2, 3, 4, 5, 6, 7, 0] rfl ?_
  exact hself x1 x2 x3 x4 x5 x6 x7_7 p6 hw
set_option maxHeartbeats 4000000 in
set_option maxRecDepth 100000 in
theorem vjX12_dentAll_109 (C : VC pr s m args meth c E A cX12_dentAll 9 none RX12) (hA : va_A w0 s.heap.size = A) (a : Nat → Nat)  {Post : St → Prop} {self : (Int32 × Int32 × Int32 × Int32 × Int32 × Int32 × Int32 × St) → Prop} {KX : Int32 → Int32 → Int32 → Int32 → Int32 → Int32 → St → Prop} (x1 : Int32) (x2 : Int32) (x3 : Int32) (x4 : Int32) (x5 : Int32) (x6 : Int32) (x7 : Int32) (x8 : Int32) (z0 : Int32) (p : St) (hw : wjX12_dentAll_109  Post self KX x1 x2 x3 x4 x5 x6 x7 x8 z0 p) (hself : ∀ (x1 : Int32) (x2 : Int32) (x3 : Int32) (x4 : Int32) (x5 : Int32) (x6 : Int32) (x7 : Int32) (p : St), self (x1, x2, x3, x4, x5, x6, x7, p) → V pr l e rmX12_dentAll s m args below meth c E A 9 0 0 (MQ below (CQv E Post (fun u => (fl [bModel E a u])) w0 s.heap.size) args s 0 0 A) (fl [bModel E a p]) 57 [(0, .ref (a 0)), (1, .int x1), (2, .int x2), (3, .int x3), (4, .int x4), (5, .int x5), (6, .int x6), (7, .int x7)] []) (hX : ∀ (x1 : Int32) (x2 : Int32) (x3 : Int32) (x4 : Int32) (x5 : Int32) (x6 : Int32) (p : St), KX x1 x2 x3 x4 x5 x6 p → V pr l e rmX12_dentAll s m args below meth c E A 9 0 0 (MQ below (CQv E Post (fun u => (fl [bModel E a u])) w0 s.heap.size) args s 0 0 A) (fl [bModel E a p]) 123 [(0, .ref (a 0)), (1, .int x1), (2, .int x2), (3, .int x3), (4, .int x4), (5, .int x5), (6, .int x6)] []) : V pr l e rmX12_dentAll s m args below meth c E A 9 0 0 (MQ below (CQv E Post (fun u => (fl [bModel E a u])) w0 s.heap.size) args s 0 0 A) (fl [bModel E a p]) 109 [(0, .ref (a 0)), (1, .int x1), (2, .int x2), (3, .int x3), (4, .int x4), (5, .int x5), (6, .int x6), (7, .int x7), (8, .int x8)] [.int z0, .ref (a 2)] := by
  refine v_aload_n (pc := 109) C 0 rfl rfl dX12_dentAll_109 ?_
  refine v_get (pc := 110) C cfX12 rfl 0 4 rfl (by decide) wfX12_17 rfl dX12_dentAll_110 ?_
  refine v_iload (pc := 113) C 8 rfl dX12_dentAll_113 ?_
  obtain ⟨hg, hw⟩ := hw
  refine v_iald (pc := 115) C 2 rfl hg rfl dX12_dentAll_115 ?_
  refine v_sub (lv' := [(0, .ref (a 0)), (1, .int x1), (2, .int x2), (3, .int x3), (4, .int x4), (5, .int x5), (6, .int x6), (7, .int x7)]) [0, 1, 2, 3, 4, 5, 6, 7] rfl ?_
  exact vjX12_dentAll_116 C hA a  x1 x2 x3 x4 x5 x6 x7 ((p.A 4) x8.toNatClampNeg) z0 p hw hself hX
set_option maxHeartbeats 4000000 in
set_option maxRecDepth 100000 in
theorem vlX12_dentAll_57 (C : VC pr s m args meth c E A cX12_dentAll 9 none RX12) (hA : va_A w0 s.heap.size = A) (a : Nat → Nat)  {Post : St → Prop} {KX : Int32 → Int32 → Int32 → Int32 → Int32 → Int32 → St → Prop} (hX : ∀ (x1 : Int32) (x2 : Int32) (x3 : Int32) (x4 : Int32) (x5 : Int32) (x6 : Int32) (p : St), KX x1 x2 x3 x4 x5 x6 p → V pr l e rmX12_dentAll s m args below meth c E A 9 0 0 (MQ below (CQv E Post (fun u => (fl [bModel E a u])) w0 s.heap.size) args s 0 0 A) (fl [bModel E a p]) 123 [(0, .ref (a 0)), (1, .int x1), (2, .int x2), (3, .int x3), (4, .int x4), (5, .int x5), (6, .int x6)] []) : ∀ (n : Nat) (x1 : Int32) (x2 : Int32) (x3 : Int32) (x4 : Int32) (x5 : Int32) (x6 : Int32) (x7 : Int32) (p : St), wLX12_dentAll_57  Post KX n (x1, x2, x3, x4, x5, x6, x7, p) → V pr l e rmX12_dentAll s m args below meth c E A 9 0 0 (MQ below (CQv E Post (fun u => (fl [bModel E a u])) w0 s.heap.size) args s 0 0 A) (fl [bModel E a p]) 57 [(0, .ref (a 0)), (1, .int x1), (2, .int x2), (3, .int x3), (4, .int x4), (5, .int x5), (6, .int x6), (7, .int x7)] [] := by
  intro n
  induction n with
  | zero => intro x1 x2 x3 x4 x5 x6 x7 p hw; exact absurd hw id
  | succ n hself =>
    intro x1 x2 x3 x4 x5 x6 x7 p hw
    have hw : wlX12_dentAll_57  Post KX (wLX12_dentAll_57  Post KX n) x1 x2 x3 x4 x5 x6 x7 p := hw
    refine v_iload (pc := 57) C 7 rfl dX12_dentAll_57 ?_
    refine v_bipush (pc := 59) C 12 kb_12 dX12_dentAll_59 ?_
    refine v_icmp_ge (pc := 61) C 123 (by decide) dX12_dentAll_61 (fun hc => ?_) (fun hc => ?_)
    · have hw := hw.1 hc
      refine v_sub (lv' := [(0, .ref (a 0)), (1, .int x1), (2, .int x2), (3, .int x3), (4, .int x4), (5, .int x5), (6, .int x6)]) [0, 1, 2, 3, 4, 5, 6] rfl ?_
      exact hX x1 x2 x3 x4 x5 x6 p hw
    · have hw := hw.2 hc
      refine v_bipush (pc := 64) C 12 kb_12 dX12_dentAll_64 ?_
      refine v_bipush (pc := 66) C 12 kb_12 dX12_dentAll_66 ?_
      refine v_iload (pc := 68) C 5 rfl dX12_dentAll_68 ?_
      refine v_imul (pc := 70) C dX12_dentAll_70 ?_
      refine v_iadd (pc := 71) C dX12_dentAll_71 ?_
      refine v_iload (pc := 72) C 7 rfl dX12_dentAll_72 ?_
      refine v_iadd (pc := 74) C dX12_dentAll_74 ?_
      refine v_topi (fun x8_4 ex => ?_)
      have hw := hw x8_4 ex
      refine v_istore (pc := 75) C [(8, .int x8_4), (0, .ref (a 0)), (1, .int x1), (2, .int x2), (3, .int x3), (4, .int x4), (5, .int x5), (6, .int x6), (7, .int x7)] rfl (by decide) dX12_dentAll_75 ?_
      refine v_aload_n (pc := 77) C 1 rfl rfl dX12_dentAll_77 ?_
      refine v_get (pc := 78) C cfX12 rfl 0 4 rfl (by decide) wfX12_17 rfl dX12_dentAll_78 ?_
      refine v_iload (pc := 81) C 0 rfl dX12_dentAll_81 ?_
      refine v_iload_n (pc := 83) C 4 rfl rfl dX12_dentAll_83 ?_
      refine v_iload (pc := 84) C 8 rfl dX12_dentAll_84 ?_
      refine v_goBi (pc := 86) C (bs := [bModel E a p]) (cs := []) (cs' := (fun (_ : Unit) => [])) (bs' := (fun (_ : Unit) => [bModel E a p])) (w' := (fun (_ : Unit) => (fl [bModel E a p]))) [] rfl rfl (fun _ => rfl) (fun _ => rfl) (fun _ => rfl) (v_runSB (pc := 86) C [.int x3, .int x7] [.int x8_4, .ref (a 2)] (fun sz => ctX12_has l E x3 x7 hw sz) [] rfl rfl rfl mfX12_has msX12_has wmX12_93 rfl ⟨Nat.le_of_ble_eq_true rfl, Nat.le_of_ble_eq_true rfl⟩ ⟨rfl, rfl⟩ rfl (Nat.le_of_ble_eq_true rfl) ⟨Nat.zero_le _, Nat.zero_le _⟩ dX12_dentAll_86) (fun r5 _ hw => ?_)
      refine v_if_eq (pc := 89) C 109 (by decide) dX12_dentAll_89 (fun hc => ?_) (fun hc => ?_)
      · have hw := hw.1 hc
        refine v_sub (lv' := [(0, .ref (a 0)), (1, .int x1), (2, .int x2), (3, .int x3), (4, .int x4), (5, .int x5), (6, .int x6), (7, .int x7), (8, .int x8_4)]) [1, 2, 3, 4, 5, 6, 7, 8, 0] rfl ?_
        exact vjX12_dentAll_109 C hA a  x1 x2 x3 x4 x5 x6 x7 x8_4 x8_4 p hw hself hX
      · have hw := hw.2 hc
        refine v_iload (pc := 92) C 7 rfl dX12_dentAll_92 ?_
        refine v_aload_n (pc := 94) C 1 rfl rfl dX12_dentAll_94 ?_
        refine v_get (pc := 95) C cfX12 rfl 0 4 rfl (by decide) wfX12_17 rfl dX12_dentAll_95 ?_
        refine v_iload (pc := 98) C 0 rfl dX12_dentAll_98 ?_
        obtain ⟨hg, hw⟩ := hw
        refine v_iald (pc := 100) C 2 rfl hg rfl dX12_dentAll_100 ?_
        refine v_icmp_le (pc := 101) C 109 (by decide) dX12_dentAll_101 (fun hc => ?_) (fun hc => ?_)
        · have hw := hw.1 hc
          refine v_sub (lv' := [(0, .ref (a 0)), (1, .int x1), (2, .int x2), (3, .int x3), (4, .int x4), (5, .int x5), (6, .int x6), (7, .int x7), (8, .int x8_4)]) [1, 2, 3, 4, 5, 6, 7, 8, 0] rfl ?_
          exact vjX12_dentAll_109 C hA a  x1 x2 x3 x4 x5 x6 x7 x8_4 x8_4 p hw hself hX
        · have hw := hw.2 hc
          refine v_iload (pc := 104) C 7 rfl dX12_dentAll_104 ?_
          refine v_goto (pc := 106) C 116 (by decide) dX12_dentAll_106 ?_
          refine v_sub (lv' := [(0, .ref (a 0)), (1, .int x1), (2, .int x2), (3, .int x3), (4, .int x4), (5, .int x5), (6, .int x6), (7, .int x7)]) [1, 2, 3, 4, 5, 6, 7, 8] rfl ?_
          exact vjX12_dentAll_116 C hA a  x1 x2 x3 x4 x5 x6 x7 x6 x8_4 p hw hself hX
set_option maxHeartbeats 4000000 in
set_option maxRecDepth 100000 in
theorem vlX12_dentAll_33 (C : VC pr s m args meth c E A cX12_dentAll 9 none RX12) (hA : va_A w0 s.heap.size = A) (a : Nat → Nat)  {Post : St → Prop} {KX : St → Prop} (hX : ∀ (p : St), KX p → V pr l e rmX12_dentAll s m args below meth c E A 9 0 0 (MQ below (CQv E Post (fun u => (fl [bModel E a u])) w0 s.heap.size) args s 0 0 A) (fl [bModel E a p]) 170 [] []) : ∀ (n : Nat) (x1 : Int32) (x2 : Int32) (x3 : Int32) (x4 : Int32) (x5 : Int32) (p : St), wLX12_dentAll_33  Post KX n (x1, x2, x3, x4, x5, p) → V pr l e rmX12_dentAll s m args below meth c E A 9 0 0 (MQ below (CQv E Post (fun u => (fl [bModel E a u])) w0 s.heap.size) args s 0 0 A) (fl [bModel E a p]) 33 [(0, .ref (a 0)), (1, .int x1), (2, .int x2), (3, .int x3), (4, .int x4), (5, .int x5)] [] := by
  intro n
  induction n with
  | zero => intro x1 x2 x3 x4 x5 p hw; exact absurd hw id
  | succ n hself =>
    intro x1 x2 x3 x4 x5 p hw
    have hw : wlX12_dentAll_33  Post KX (wLX12_dentAll_33  Post KX n) x1 x2 x3 x4 x5 p := hw
    refine v_iload (pc := 33) C 5 rfl dX12_dentAll_33 ?_
    refine v_aload_n (pc := 35) C 0 rfl rfl dX12_dentAll_35 ?_
    refine v_get (pc := 36) C cfX12 rfl 0 0 rfl (by decide) wfX12_7 rfl dX12_dentAll_36 ?_
    refine v_icmp_ge (pc := 39) C 170 (by decide) dX12_dentAll_39 (fun hc => ?_) (fun hc => ?_)
    · have hw := hw.1 hc
      refine v_sub (lv' := []) [] rfl ?_
      exact hX p hw
    · have hw := hw.2 hc
      refine v_iload_n (pc := 42) C 1 rfl rfl dX12_dentAll_42 ?_
      refine v_iload_n (pc := 43) C 2 rfl rfl dX12_dentAll_43 ?_
      refine v_iload (pc := 44) C 5 rfl dX12_dentAll_44 ?_
      refine v_iload (pc := 46) C 4 rfl dX12_dentAll_46 ?_
      refine v_isub (pc := 48) C dX12_dentAll_48 ?_
      refine v_goBi (pc := 49) C (bs := [bModel E a p]) (cs := []) (cs' := (fun (_ : Unit) => [])) (bs' := (fun (_ : Unit) => [bModel E a p])) (w' := (fun (_ : Unit) => (fl [bModel E a p]))) [] rfl rfl (fun _ => rfl) (fun _ => rfl) (fun _ => rfl) (v_runSB (pc := 49) C [.int x1, .int x2, .int (x5 - x4)] [] (fun sz => ctX12_forceOf l E x1 x2 (x5 - x4) hw sz) [] rfl rfl rfl mfX12_forceOf msX12_forceOf wmX12_89 rfl ⟨Nat.le_of_ble_eq_true rfl, Nat.le_of_ble_eq_true rfl⟩ ⟨rfl, rfl⟩ rfl (Nat.le_of_ble_eq_true rfl) ⟨Nat.zero_le _, Nat.zero_le _⟩ dX12_dentAll_49) (fun r3 _ hw => ?_)
      refine v_istore (pc := 52) C [(6, .int r3), (0, .ref (a 0)), (1, .int x1), (2, .int x2), (3, .int x3), (4, .int x4), (5, .int x5)] rfl (by decide) dX12_dentAll_52 ?_
      refine v_iconst (pc := 54) C 0 ki_0 dX12_dentAll_54 ?_
      refine v_istore (pc := 55) C [(7, .int 0), (6, .int r3), (0, .ref (a 0)), (1, .int x1), (2, .int x2), (3, .int x3), (4, .int x4), (5, .int x5)] rfl (by decide) dX12_dentAll_55 ?_
      obtain ⟨n, hw⟩ := hw
      refine v_sub (lv' := [(0, .ref (a 0)), (1, .int x1), (2, .int x2), (3, .int x3), (4, .int x4), (5, .int x5), (6, .int r3), (7, .int 0)]) [2, 3, 4, 5, 6, 7, 1, 0] rfl ?_
      refine vlX12_dentAll_57 C hA a  (fun y8 y9 y10 y11 y12 y13 p14 hw => ?_) n x1 x2 x3 x4 x5 r3 0 p hw
      refine v_iload (pc := 123) C 5 rfl dX12_dentAll_123 ?_
      refine v_iload (pc := 125) C 4 rfl dX12_dentAll_125 ?_
      refine v_icmp_le (pc := 127) C 164 (by decide) dX12_dentAll_127 (fun hc => ?_) (fun hc => ?_)
      · have hw := hw.1 hc
        obtain ⟨x5_15, ex⟩ : ∃ y : Int32, y = y12 + 1 := ⟨_, rfl⟩
        have hw := hw x5_15 ex
        refine v_iinc (pc := 164) C 5 rfl (by rw [ex, ki_1]) [(5, .int x5_15), (0, .ref (a 0)), (1, .int y8), (2, .int y9), (3, .int y10), (4, .int y11), (6, .int y13)] rfl (by decide) dX12_dentAll_164 ?_
        refine v_goto (pc := 167) C 33 (by decide) dX12_dentAll_167 ?_
        refine v_sub (lv' := [(0, .ref (a 0)), (1, .int y8), (2, .int y9), (3, .int y10), (4, .int y11), (5, .int x5_15)]) [1, 2, 3, 4, 5, 0] rfl ?_
        exact hself y8 y9 y10 y11 x5_15 p14 hw
      · have hw := hw.2 hc
        refine v_aload_n (pc := 130) C 0 rfl rfl dX12_dentAll_130 ?_
        refine v_get (pc := 131) C cfX12 rfl 0 1 rfl (by decide) wfX12_67 rfl dX12_dentAll_131 ?_
        refine v_iload (pc := 134) C 5 rfl dX12_dentAll_134 ?_
        refine v_iconst (pc := 136) C 1 ki_1 dX12_dentAll_136 ?_
        refine v_isub (pc := 137) C dX12_dentAll_137 ?_
        refine v_goBi (pc := 138) C (bs := [bModel E a p14]) (cs := []) (cs' := (fun (_ : Unit) => [])) (bs' := (fun (_ : Unit) => [bModel E a p14])) (w' := (fun (_ : Unit) => (fl [bModel E a p14]))) [] rfl rfl (fun _ => rfl) (fun _ => rfl) (fun _ => rfl) (v_runSB (pc := 138) C [.int (p14.I 1), .int (y12 - 1)] [] (fun sz => ctX12_has l E (p14.I 1) (y12 - 1) hw sz) [] rfl rfl rfl mfX12_has msX12_has wmX12_93 rfl ⟨Nat.le_of_ble_eq_true rfl, Nat.le_of_ble_eq_true rfl⟩ ⟨rfl, rfl⟩ rfl (Nat.le_of_ble_eq_true rfl) ⟨Nat.zero_le _, Nat.zero_le _⟩ dX12_dentAll_138) (fun r16 _ hw => ?_)
        refine v_if_eq (pc := 141) C 164 (by decide) dX12_dentAll_141 (fun hc => ?_) (fun hc => ?_)
        · have hw := hw.1 hc
          obtain ⟨x5_17, ex⟩ : ∃ y : Int32, y = y12 + 1 := ⟨_, rfl⟩
          have hw := hw x5_17 ex
          refine v_iinc (pc := 164) C 5 rfl (by rw [ex, ki_1]) [(5, .int x5_17), (0, .ref (a 0)), (1, .int y8), (2, .int y9), (3, .int y10), (4, .int y11), (6, .int y13)] rfl (by decide) dX12_dentAll_164 ?_
          refine v_goto (pc := 167) C 33 (by decide) dX12_dentAll_167 ?_
          refine v_sub (lv' := [(0, .ref (a 0)), (1, .int y8), (2, .int y9), (3, .int y10), (4, .int y11), (5, .int x5_17)]) [1, 2, 3, 4, 5, 0] rfl ?_
          exact hself y8 y9 y10 y11 x5_17 p14 hw
        · have hw := hw.2 hc
          refine v_iload (pc := 144) C 6 rfl dX12_dentAll_144 ?_
          refine v_iconst (pc := 146) C 2 ki_2 dX12_dentAll_146 ?_
          refine v_icmp_lt (pc := 147) C 164 (by decide) dX12_dentAll_147 (fun hc => ?_) (fun hc => ?_)
          · have hw := hw.1 hc
            obtain ⟨x5_18, ex⟩ : ∃ y : Int32, y = y12 + 1 := ⟨_, rfl⟩
            have hw := hw x5_18 ex
            refine v_iinc (pc := 164) C 5 rfl (by rw [ex, ki_1]) [(5, .int x5_18), (0, .ref (a 0)), (1, .int y8), (2, .int y9), (3, .int y10), (4, .int y11), (6, .int y13)] rfl (by decide) dX12_dentAll_164 ?_
            refine v_goto (pc := 167) C 33 (by decide) dX12_dentAll_167 ?_
            refine v_sub (lv' := [(0, .ref (a 0)), (1, .int y8), (2, .int y9), (3, .int y10), (4, .int y11), (5, .int x5_18)]) [1, 2, 3, 4, 5, 0] rfl ?_
            exact hself y8 y9 y10 y11 x5_18 p14 hw
          · have hw := hw.2 hc
            refine v_aload_n (pc := 150) C 0 rfl rfl dX12_dentAll_150 ?_
            refine v_get (pc := 151) C cfX12 rfl 0 4 rfl (by decide) wfX12_17 rfl dX12_dentAll_151 ?_
            refine v_bipush (pc := 154) C 6 kb_6 dX12_dentAll_154 ?_
            refine v_iload (pc := 156) C 5 rfl dX12_dentAll_156 ?_
            refine v_iadd (pc := 158) C dX12_dentAll_158 ?_
            refine v_dup2 (pc := 159) C rfl rfl dX12_dentAll_159 ?_
            obtain ⟨hg, hw⟩ := hw
            refine v_iald (pc := 160) C 2 rfl hg rfl dX12_dentAll_160 ?_
            refine v_iload_n (pc := 161) C 3 rfl rfl dX12_dentAll_161 ?_
            refine v_ior (pc := 162) C dX12_dentAll_162 ?_
            obtain ⟨hg, hw⟩ := hw
            obtain ⟨p19, es⟩ : ∃ y : St, y = p14.sA 4 (upd (p14.A 4) ((6 : Int32) + y12).toNatClampNeg (((p14.A 4) ((6 : Int32) + y12).toNatClampNeg) ||| y10)) := ⟨_, rfl⟩
            have hw := hw p19 es
            refine v_iast (pc := 163) C 2 (w' := (fl [bModel E a p19])) rfl rfl (by subst es; rfl) hg dX12_dentAll_163 ?_
            obtain ⟨x5_20, ex⟩ : ∃ y : Int32, y = y12 + 1 := ⟨_, rfl⟩
            have hw := hw x5_20 ex
            refine v_iinc (pc := 164) C 5 rfl (by rw [ex, ki_1]) [(5, .int x5_20), (0, .ref (a 0)), (1, .int y8), (2, .int y9), (3, .int y10), (4, .int y11), (6, .int y13)] rfl (by decide) dX12_dentAll_164 ?_
            refine v_goto (pc := 167) C 33 (by decide) dX12_dentAll_167 ?_
            refine v_sub (lv' := [(0, .ref (a 0)), (1, .int y8), (2, .int y9), (3, .int y10), (4, .int y11), (5, .int x5_20)]) [1, 2, 3, 4, 5, 0] rfl ?_
            exact hself y8 y9 y10 y11 x5_20 p19 hw
set_option maxHeartbeats 4000000 in
set_option maxRecDepth 100000 in
theorem ctX12_dentAll (l : Launch) (E : VE) (a : Nat → Nat) (x1 : Int32) (x2 : Int32) (x3 : Int32) (p : St)  {Post : St → Prop} (hw : wpX12_dentAll x1 x2 x3 p Post) (sz : Nat) : Met l yX12_dentAll (mW yX12_dentAll cX12_dentAll 9 none) rmX12_dentAll (CPre E [.ref (a 0), .int x1, .int x2, .int x3] sz (fl [bModel E a p])) (CQv E Post (fun u => (fl [bModel E a u])) (fl [bModel E a p]) sz) 0 0 (va_A (fl [bModel E a p]) sz) := by
  refine v_met (by decide) (Nat.le_of_ble_eq_true rfl) ?_
  intro pr e s m below meth c A hsz hA C
  subst hsz
  refine v_aload_n (pc := 0) C 0 rfl rfl dX12_dentAll_0 ?_
  refine v_get (pc := 1) C cfX12 rfl 0 4 rfl (by decide) wfX12_17 rfl dX12_dentAll_1 ?_
  refine v_bipush (pc := 4) C 125 kb_125 dX12_dentAll_4 ?_
  refine v_iald (pc := 6) C 2 rfl vi_125_126 tn_125 dX12_dentAll_6 ?_
  refine v_topi (fun x4_1 ex => ?_)
  have hw := hw x4_1 ex
  refine v_istore (pc := 7) C [(4, .int x4_1), (0, .ref (a 0)), (1, .int x1), (2, .int x2), (3, .int x3)] rfl (by decide) dX12_dentAll_7 ?_
  refine v_iload_n (pc := 9) C 2 rfl rfl dX12_dentAll_9 ?_
  refine v_goBi (pc := 10) C (bs := [bModel E a p]) (cs := []) (cs' := (fun (_ : Unit) => [])) (bs' := (fun (_ : Unit) => [bModel E a p])) (w' := (fun (_ : Unit) => (fl [bModel E a p]))) [] rfl rfl (fun _ => rfl) (fun _ => rfl) (fun _ => rfl) (v_runSB (pc := 10) C [.int x1] [] (fun sz => ctX12_hasInk l E x1 hw sz) [] rfl rfl rfl mfX12_hasInk msX12_hasInk wmX12_85 rfl ⟨Nat.le_of_ble_eq_true rfl, Nat.le_of_ble_eq_true rfl⟩ ⟨rfl, rfl⟩ rfl (Nat.le_of_ble_eq_true rfl) ⟨Nat.zero_le _, Nat.zero_le _⟩ dX12_dentAll_10) (fun r2 _ hw => ?_)
  refine v_if_eq (pc := 13) C 29 (by decide) dX12_dentAll_13 (fun hc => ?_) (fun hc => ?_)
  · have hw := hw.1 hc
    refine v_iload (pc := 29) C 0 rfl dX12_dentAll_29 ?_
    refine v_istore (pc := 31) C [(5, .int x4_1), (4, .int x4_1), (0, .ref (a 0)), (1, .int x1), (2, .int x2), (3, .int x3)] rfl (by decide) dX12_dentAll_31 ?_
    obtain ⟨n, hw⟩ := hw
    refine v_sub (lv' := [(0, .ref (a 0)), (1, .int x1), (2, .int x2), (3, .int x3), (4, .int x4_1), (5, .int x4_1)]) [2, 3, 4, 5, 1, 0] rfl ?_
    refine vlX12_dentAll_33 C hA a  (fun p21 hw => ?_) n x1 x2 x3 x4_1 x4_1 p hw
    exact v_vret (pc := 170) C p21 hA rfl hw dX12_dentAll_170
  · have hw := hw.2 hc
    refine v_aload_n (pc := 16) C 1 rfl rfl dX12_dentAll_16 ?_
    refine v_get (pc := 17) C cfX12 rfl 0 4 rfl (by decide) wfX12_17 rfl dX12_dentAll_17 ?_
    refine v_iconst (pc := 20) C 0 ki_0 dX12_dentAll_20 ?_
    refine v_iload (pc := 21) C 0 rfl dX12_dentAll_21 ?_
    refine v_iadd (pc := 23) C dX12_dentAll_23 ?_
    refine v_dup2 (pc := 24) C rfl rfl dX12_dentAll_24 ?_
    obtain ⟨hg, hw⟩ := hw
    refine v_iald (pc := 25) C 2 rfl hg rfl dX12_dentAll_25 ?_
    refine v_iload_n (pc := 26) C 4 rfl rfl dX12_dentAll_26 ?_
    refine v_ior (pc := 27) C dX12_dentAll_27 ?_
    obtain ⟨hg, hw⟩ := hw
    obtain ⟨p22, es⟩ : ∃ y : St, y = p.sA 4 (upd (p.A 4) ((0 : Int32) + x4_1).toNatClampNeg (((p.A 4) ((0 : Int32) + x4_1).toNatClampNeg) ||| x3)) := ⟨_, rfl⟩
    have hw := hw p22 es
    refine v_iast (pc := 28) C 2 (w' := (fl [bModel E a p22])) rfl rfl (by subst es; rfl) hg dX12_dentAll_28 ?_
    refine v_iload (pc := 29) C 0 rfl dX12_dentAll_29 ?_
    refine v_istore (pc := 31) C [(5, .int x4_1), (4, .int x4_1), (0, .ref (a 0)), (1, .int x1), (2, .int x2), (3, .int x3)] rfl (by decide) dX12_dentAll_31 ?_
    obtain ⟨n, hw⟩ := hw
    refine v_sub (lv' := [(0, .ref (a 0)), (1, .int x1), (2, .int x2), (3, .int x3), (4, .int x4_1), (5, .int x4_1)]) [2, 3, 4, 5, 1, 0] rfl ?_
    refine vlX12_dentAll_33 C hA a  (fun p23 hw => ?_) n x1 x2 x3 x4_1 x4_1 p22 hw
    exact v_vret (pc := 170) C p23 hA rfl hw dX12_dentAll_170
set_option maxHeartbeats 4000000 in
set_option maxRecDepth 100000 in
theorem ctX12_writeNow (l : Launch) (E : VE) (a : Nat → Nat) (x1 : Int32) (x2 : Int32) (x3 : Int32) (p : St)  {Post : St → Prop} (hw : wpX12_writeNow x1 x2 x3 p Post) (sz : Nat) : Met l yX12_writeNow (mW yX12_writeNow cX12_writeNow 5 none) rmX12_writeNow (CPre E [.ref (a 0), .int x1, .int x2, .int x3] sz (fl [bModel E a p])) (CQv E Post (fun u => (fl [bModel E a u])) (fl [bModel E a p]) sz) 0 0 (va_A (fl [bModel E a p]) sz) := by
  refine v_met (by decide) (Nat.le_of_ble_eq_true rfl) ?_
  intro pr e s m below meth c A hsz hA C
  subst hsz
  refine v_aload_n (pc := 0) C 0 rfl rfl dX12_writeNow_0 ?_
  refine v_iload_n (pc := 1) C 1 rfl rfl dX12_writeNow_1 ?_
  refine v_iload_n (pc := 2) C 2 rfl rfl dX12_writeNow_2 ?_
  refine v_iload_n (pc := 3) C 3 rfl rfl dX12_writeNow_3 ?_
  refine v_goAv (pc := 4) C (wc' := (fun (u : St) => (fl [bModel E a u]))) (fun _ => rfl) (v_runVA (pc := 4) C [.int x1, .int x2, .int x3] [] (fun sz => ctX12_dentAll l E a x1 x2 x3 p hw sz) mfX12_dentAll mvX12_dentAll wmX12_97 rfl ⟨Nat.le_of_ble_eq_true rfl, Nat.le_of_ble_eq_true rfl⟩ ⟨rfl, rfl⟩ 0 (ci := 12) (qc := (RX12, TX12, 30)) rfl rfl rfl rfl (Nat.le_of_ble_eq_true rfl) ⟨Nat.zero_le _, Nat.zero_le _⟩ dX12_writeNow_4) (fun p1 hw => ?_)
  refine v_bipush (pc := 7) C 84 kb_84 dX12_writeNow_7 ?_
  refine v_iconst (pc := 9) C 4 ki_4 dX12_writeNow_9 ?_
  refine v_aload_n (pc := 10) C 0 rfl rfl dX12_writeNow_10 ?_
  refine v_get (pc := 11) C cfX12 rfl 0 4 rfl (by decide) wfX12_17 rfl dX12_writeNow_11 ?_
  refine v_bipush (pc := 14) C 124 kb_124 dX12_writeNow_14 ?_
  refine v_iald (pc := 16) C 2 rfl vi_124_126 tn_124 dX12_writeNow_16 ?_
  refine v_imul (pc := 17) C dX12_writeNow_17 ?_
  refine v_iadd (pc := 18) C dX12_writeNow_18 ?_
  refine v_topi (fun x4_2 ex => ?_)
  have hw := hw x4_2 ex
  refine v_istore (pc := 19) C [(4, .int x4_2), (0, .ref (a 0)), (1, .int x1), (2, .int x2), (3, .int x3)] rfl (by decide) dX12_writeNow_19 ?_
  refine v_aload_n (pc := 21) C 1 rfl rfl dX12_writeNow_21 ?_
  refine v_get (pc := 22) C cfX12 rfl 0 4 rfl (by decide) wfX12_17 rfl dX12_writeNow_22 ?_
  refine v_iload (pc := 25) C 0 rfl dX12_writeNow_25 ?_
  refine v_iload_n (pc := 27) C 2 rfl rfl dX12_writeNow_27 ?_
  obtain ⟨hg, hw⟩ := hw
  obtain ⟨p3, es⟩ : ∃ y : St, y = p1.sA 4 (upd (p1.A 4) x4_2.toNatClampNeg x1) := ⟨_, rfl⟩
  have hw := hw p3 es
  refine v_iast (pc := 28) C 2 (w' := (fl [bModel E a p3])) rfl rfl (by subst es; rfl) hg dX12_writeNow_28 ?_
  refine v_aload_n (pc := 29) C 1 rfl rfl dX12_writeNow_29 ?_
  refine v_get (pc := 30) C cfX12 rfl 0 4 rfl (by decide) wfX12_17 rfl dX12_writeNow_30 ?_
  refine v_iload (pc := 33) C 0 rfl dX12_writeNow_33 ?_
  refine v_iconst (pc := 35) C 1 ki_1 dX12_writeNow_35 ?_
  refine v_iadd (pc := 36) C dX12_writeNow_36 ?_
  refine v_iload_n (pc := 37) C 3 rfl rfl dX12_writeNow_37 ?_
  obtain ⟨hg, hw⟩ := hw
  obtain ⟨p4, es⟩ : ∃ y : St, y = p3.sA 4 (upd (p3.A 4) (x4_2 + 1).toNatClampNeg x2) := ⟨_, rfl⟩
  have hw := hw p4 es
  refine v_iast (pc := 38) C 2 (w' := (fl [bModel E a p4])) rfl rfl (by subst es; rfl) hg dX12_writeNow_38 ?_
  refine v_aload_n (pc := 39) C 1 rfl rfl dX12_writeNow_39 ?_
  refine v_get (pc := 40) C cfX12 rfl 0 4 rfl (by decide) wfX12_17 rfl dX12_writeNow_40 ?_
  refine v_iload (pc := 43) C 0 rfl dX12_writeNow_43 ?_
  refine v_iconst (pc := 45) C 2 ki_2 dX12_writeNow_45 ?_
  refine v_iadd (pc := 46) C dX12_writeNow_46 ?_
  refine v_iload_n (pc := 47) C 4 rfl rfl dX12_writeNow_47 ?_
  obtain ⟨hg, hw⟩ := hw
  obtain ⟨p5, es⟩ : ∃ y : St, y = p4.sA 4 (upd (p4.A 4) (x4_2 + 2).toNatClampNeg x3) := ⟨_, rfl⟩
  have hw := hw p5 es
  refine v_iast (pc := 48) C 2 (w' := (fl [bModel E a p5])) rfl rfl (by subst es; rfl) hg dX12_writeNow_48 ?_
  refine v_aload_n (pc := 49) C 1 rfl rfl dX12_writeNow_49 ?_
  refine v_get (pc := 50) C cfX12 rfl 0 4 rfl (by decide) wfX12_17 rfl dX12_writeNow_50 ?_
  refine v_iload (pc := 53) C 0 rfl dX12_writeNow_53 ?_
  refine v_iconst (pc := 55) C 3 ki_3 dX12_writeNow_55 ?_
  refine v_iadd (pc := 56) C dX12_writeNow_56 ?_
  refine v_aload_n (pc := 57) C 1 rfl rfl dX12_writeNow_57 ?_
  refine v_get (pc := 58) C cfX12 rfl 0 4 rfl (by decide) wfX12_17 rfl dX12_writeNow_58 ?_
  refine v_bipush (pc := 61) C 125 kb_125 dX12_writeNow_61 ?_
  refine v_iald (pc := 63) C 2 rfl vi_125_126 tn_125 dX12_writeNow_63 ?_
  obtain ⟨hg, hw⟩ := hw
  obtain ⟨p6, es⟩ : ∃ y : St, y = p5.sA 4 (upd (p5.A 4) (x4_2 + 3).toNatClampNeg ((p5.A 4) 125)) := ⟨_, rfl⟩
  have hw := hw p6 es
  refine v_iast (pc := 64) C 2 (w' := (fl [bModel E a p6])) rfl rfl (by subst es; rfl) hg dX12_writeNow_64 ?_
  refine v_aload_n (pc := 65) C 1 rfl rfl dX12_writeNow_65 ?_
  refine v_get (pc := 66) C cfX12 rfl 0 4 rfl (by decide) wfX12_17 rfl dX12_writeNow_66 ?_
  refine v_bipush (pc := 69) C 124 kb_124 dX12_writeNow_69 ?_
  refine v_dup2 (pc := 71) C rfl rfl dX12_writeNow_71 ?_
  refine v_iald (pc := 72) C 2 rfl vi_124_126 tn_124 dX12_writeNow_72 ?_
  refine v_iconst (pc := 73) C 1 ki_1 dX12_writeNow_73 ?_
  refine v_iadd (pc := 74) C dX12_writeNow_74 ?_
  obtain ⟨p7, es⟩ : ∃ y : St, y = p6.sA 4 (upd (p6.A 4) 124 (((p6.A 4) 124) + 1)) := ⟨_, rfl⟩
  have hw := hw p7 es
  refine v_iast (pc := 75) C 2 (w' := (fl [bModel E a p7])) rfl tn_124 (by subst es; rfl) vi_124_126 dX12_writeNow_75 ?_
  exact v_vret (pc := 76) C p7 hA rfl hw dX12_writeNow_76
set_option maxHeartbeats 4000000 in
set_option maxRecDepth 100000 in
theorem vjX12_write_20 (C : VC pr s m args meth c E A cX12_write 4 (some .int) RX12) (hA : va_A w0 s.heap.size = A) (a : Nat → Nat)  {Post : Int32 → St → Prop} (p : St) (hw : wjX12_write_20  Post p) : V pr l e rmX12_write s m args below meth c E A 4 0 0 (MQ below (CQi E Post (fun u => (fl [bModel E a u])) w0 s.heap.size) args s 0 0 A) (fl [bModel E a p]) 20 [(0, .ref (a 0))] [] := by
  refine v_aload_n (pc := 20) C 0 rfl rfl dX12_write_20 ?_
  refine v_goAi (pc := 21) C (wc' := (fun (u : St) => (fl [bModel E a u]))) (fun _ => rfl) (v_runVA (pc := 21) C [] [] (fun sz => ctX12_bad l E a p hw sz) mfX12_bad mvX12_bad wmX12_75 rfl ⟨Nat.le_of_ble_eq_true rfl, Nat.le_of_ble_eq_true rfl⟩ ⟨rfl, rfl⟩ 0 (ci := 12) (qc := (RX12, TX12, 30)) rfl rfl rfl rfl (Nat.le_of_ble_eq_true rfl) ⟨Nat.zero_le _, Nat.zero_le _⟩ dX12_write_21) (fun r2 p3 hw => ?_)
  exact v_ireti (pc := 24) C p3 hA rfl hw dX12_write_24
set_option maxHeartbeats 4000000 in
set_option maxRecDepth 100000 in
theorem ctX12_write (l : Launch) (E : VE) (a : Nat → Nat) (x1 : Int32) (x2 : Int32) (x3 : Int32) (p : St)  {Post : Int32 → St → Prop} (hw : wpX12_write x1 x2 x3 p Post) (sz : Nat) : Met l yX12_write (mW yX12_write cX12_write 4 (some .int)) rmX12_write (CPre E [.ref (a 0), .int x1, .int x2, .int x3] sz (fl [bModel E a p])) (CQi E Post (fun u => (fl [bModel E a u])) (fl [bModel E a p]) sz) 0 0 (va_A (fl [bModel E a p]) sz) := by
  refine v_met (by decide) (Nat.le_of_ble_eq_true rfl) ?_
  intro pr e s m below meth c A hsz hA C
  subst hsz
  refine v_iload_n (pc := 0) C 1 rfl rfl dX12_write_0 ?_
  refine v_iload_n (pc := 1) C 2 rfl rfl dX12_write_1 ?_
  refine v_goBi (pc := 2) C (bs := [bModel E a p]) (cs := []) (cs' := (fun (_ : Unit) => [])) (bs' := (fun (_ : Unit) => [bModel E a p])) (w' := (fun (_ : Unit) => (fl [bModel E a p]))) [] rfl rfl (fun _ => rfl) (fun _ => rfl) (fun _ => rfl) (v_runSB (pc := 2) C [.int x1, .int x2] [] (fun sz => ctX12_isPen l E x1 x2 hw sz) [] rfl rfl rfl mfX12_isPen msX12_isPen wmX12_101 rfl ⟨Nat.le_of_ble_eq_true rfl, Nat.le_of_ble_eq_true rfl⟩ ⟨rfl, rfl⟩ rfl (Nat.le_of_ble_eq_true rfl) ⟨Nat.zero_le _, Nat.zero_le _⟩ dX12_write_2) (fun r1 _ hw => ?_)
  refine v_if_eq (pc := 5) C 20 (by decide) dX12_write_5 (fun hc => ?_) (fun hc => ?_)
  · have hw := hw.1 hc
    refine v_sub (lv' := [(0, .ref (a 0))]) [0] rfl ?_
    exact vjX12_write_20 C hA a  p hw
  · have hw := hw.2 hc
    refine v_iload_n (pc := 8) C 3 rfl rfl dX12_write_8 ?_
    refine v_i2l (pc := 9) C dX12_write_9 ?_
    refine v_lconst (pc := 10) C 0 kl_0 dX12_write_10 ?_
    refine v_ldc2 (pc := 11) C 4095 wlX12_104 dX12_write_11 ?_
    refine v_goBi (pc := 14) C (bs := [bModel E a p]) (cs := []) (cs' := (fun (_ : Unit) => [])) (bs' := (fun (_ : Unit) => [bModel E a p])) (w' := (fun (_ : Unit) => (fl [bModel E a p]))) [] rfl rfl (fun _ => rfl) (fun _ => rfl) (fun _ => rfl) (v_runSB (pc := 14) C [.long (x3.toInt64), .long 0, .long 4095] [] (fun sz => ctX12_in l E (x3.toInt64) 0 4095 hw sz) [] rfl rfl rfl mfX12_in msX12_in wmX12_56 rfl ⟨Nat.le_of_ble_eq_true rfl, Nat.le_of_ble_eq_true rfl⟩ ⟨rfl, rfl⟩ rfl (Nat.le_of_ble_eq_true rfl) ⟨Nat.zero_le _, Nat.zero_le _⟩ dX12_write_14) (fun r4 _ hw => ?_)
    refine v_if_ne (pc := 17) C 25 (by decide) dX12_write_17 (fun hc => ?_) (fun hc => ?_)
    · have hw := hw.1 hc
      refine v_aload_n (pc := 25) C 0 rfl rfl dX12_write_25 ?_
      refine v_get (pc := 26) C cfX12 rfl 0 4 rfl (by decide) wfX12_17 rfl dX12_write_26 ?_
      refine v_bipush (pc := 29) C 125 kb_125 dX12_write_29 ?_
      refine v_iald (pc := 31) C 2 rfl vi_125_126 tn_125 dX12_write_31 ?_
      refine v_aload_n (pc := 32) C 0 rfl rfl dX12_write_32 ?_
      refine v_get (pc := 33) C cfX12 rfl 0 0 rfl (by decide) wfX12_7 rfl dX12_write_33 ?_
      refine v_icmp_ne (pc := 36) C 47 (by decide) dX12_write_36 (fun hc => ?_) (fun hc => ?_)
      · have hw := hw.1 hc
        refine v_aload_n (pc := 47) C 0 rfl rfl dX12_write_47 ?_
        refine v_get (pc := 48) C cfX12 rfl 0 4 rfl (by decide) wfX12_17 rfl dX12_write_48 ?_
        refine v_bipush (pc := 51) C 124 kb_124 dX12_write_51 ?_
        refine v_iald (pc := 53) C 2 rfl vi_124_126 tn_124 dX12_write_53 ?_
        refine v_bipush (pc := 54) C 10 kb_10 dX12_write_54 ?_
        refine v_icmp_ne (pc := 56) C 67 (by decide) dX12_write_56 (fun hc => ?_) (fun hc => ?_)
        · have hw := hw.1 hc
          refine v_aload_n (pc := 67) C 0 rfl rfl dX12_write_67 ?_
          refine v_goAv (pc := 68) C (wc' := (fun (u : St) => (fl [bModel E a u]))) (fun _ => rfl) (v_runVA (pc := 68) C [] [] (fun sz => ctX12_note l E a p hw sz) mfX12_note mvX12_note wmX12_106 rfl ⟨Nat.le_of_ble_eq_true rfl, Nat.le_of_ble_eq_true rfl⟩ ⟨rfl, rfl⟩ 0 (ci := 12) (qc := (RX12, TX12, 30)) rfl rfl rfl rfl (Nat.le_of_ble_eq_true rfl) ⟨Nat.zero_le _, Nat.zero_le _⟩ dX12_write_68) (fun p5 hw => ?_)
          refine v_aload_n (pc := 71) C 0 rfl rfl dX12_write_71 ?_
          refine v_iload_n (pc := 72) C 1 rfl rfl dX12_write_72 ?_
          refine v_iload_n (pc := 73) C 2 rfl rfl dX12_write_73 ?_
          refine v_iload_n (pc := 74) C 3 rfl rfl dX12_write_74 ?_
          refine v_goAv (pc := 75) C (wc' := (fun (u : St) => (fl [bModel E a u]))) (fun _ => rfl) (v_runVA (pc := 75) C [.int x1, .int x2, .int x3] [] (fun sz => ctX12_writeNow l E a x1 x2 x3 p5 hw sz) mfX12_writeNow mvX12_writeNow wmX12_109 rfl ⟨Nat.le_of_ble_eq_true rfl, Nat.le_of_ble_eq_true rfl⟩ ⟨rfl, rfl⟩ 0 (ci := 12) (qc := (RX12, TX12, 30)) rfl rfl rfl rfl (Nat.le_of_ble_eq_true rfl) ⟨Nat.zero_le _, Nat.zero_le _⟩ dX12_write_75) (fun p6 hw => ?_)
          refine v_aload_n (pc := 78) C 0 rfl rfl dX12_write_78 ?_
          refine v_get (pc := 79) C cfX12 rfl 0 4 rfl (by decide) wfX12_17 rfl dX12_write_79 ?_
          refine v_bipush (pc := 82) C 124 kb_124 dX12_write_82 ?_
          refine v_iald (pc := 84) C 2 rfl vi_124_126 tn_124 dX12_write_84 ?_
          refine v_iconst (pc := 85) C 1 ki_1 dX12_write_85 ?_
          refine v_isub (pc := 86) C dX12_write_86 ?_
          exact v_ireti (pc := 87) C p6 hA rfl hw dX12_write_87
        · have hw := hw.2 hc
          refine v_aload_n (pc := 59) C 0 rfl rfl dX12_write_59 ?_
          refine v_iconst (pc := 60) C 2 ki_2 dX12_write_60 ?_
          refine v_bipush (pc := 61) C (-4) kb_m4 dX12_write_61 ?_
          refine v_goAi (pc := 63) C (wc' := (fun (u : St) => (fl [bModel E a u]))) (fun _ => rfl) (v_runVA (pc := 63) C [.int 2, .int (-4)] [] (fun sz => ctX12_refuse l E a 2 (-4) p hw sz) mfX12_refuse mvX12_refuse wmX12_52 rfl ⟨Nat.le_of_ble_eq_true rfl, Nat.le_of_ble_eq_true rfl⟩ ⟨rfl, rfl⟩ 0 (ci := 12) (qc := (RX12, TX12, 30)) rfl rfl rfl rfl (Nat.le_of_ble_eq_true rfl) ⟨Nat.zero_le _, Nat.zero_le _⟩ dX12_write_63) (fun r7 p8 hw => ?_)
          exact v_ireti (pc := 66) C p8 hA rfl hw dX12_write_66
      · have hw := hw.2 hc
        refine v_aload_n (pc := 39) C 0 rfl rfl dX12_write_39 ?_
        refine v_iconst (pc := 40) C 1 ki_1 dX12_write_40 ?_
        refine v_bipush (pc := 41) C (-3) kb_m3 dX12_write_41 ?_
        refine v_goAi (pc := 43) C (wc' := (fun (u : St) => (fl [bModel E a u]))) (fun _ => rfl) (v_runVA (pc := 43) C [.int 1, .int (-3)] [] (fun sz => ctX12_refuse l E a 1 (-3) p hw sz) mfX12_refuse mvX12_refuse wmX12_52 rfl ⟨Nat.le_of_ble_eq_true rfl, Nat.le_of_ble_eq_true rfl⟩ ⟨rfl, rfl⟩ 0 (ci := 12) (qc := (RX12, TX12, 30)) rfl rfl rfl rfl (Nat.le_of_ble_eq_true rfl) ⟨Nat.zero_le _, Nat.zero_le _⟩ dX12_write_43) (fun r9 p10 hw => ?_)
        exact v_ireti (pc := 46) C p10 hA rfl hw dX12_write_46
    · have hw := hw.2 hc
      refine v_sub (lv' := [(0, .ref (a 0))]) [0] rfl ?_
      exact vjX12_write_20 C hA a  p hw
set_option maxHeartbeats 4000000 in
set_option maxRecDepth 100000 in
theorem ctX12_tear (l : Launch) (E : VE) (a : Nat → Nat)  (p : St)  {Post : Int32 → St → Prop} (hw : wpX12_tear p Post) (sz : Nat) : Met l yX12_tear (mW yX12_tear cX12_tear 1 (some .int)) rmX12_tear (CPre E [.ref (a 0)] sz (fl [bModel E a p])) (CQi E Post (fun u => (fl [bModel E a u])) (fl [bModel E a p]) sz) 0 0 (va_A (fl [bModel E a p]) sz) := by
  refine v_met (by decide) (Nat.le_of_ble_eq_true rfl) ?_
  intro pr e s m below meth c A hsz hA C
  subst hsz
  refine v_aload_n (pc := 0) C 0 rfl rfl dX12_tear_0 ?_
  refine v_get (pc := 1) C cfX12 rfl 0 4 rfl (by decide) wfX12_17 rfl dX12_tear_1 ?_
  refine v_bipush (pc := 4) C 125 kb_125 dX12_tear_4 ?_
  refine v_iald (pc := 6) C 2 rfl vi_125_126 tn_125 dX12_tear_6 ?_
  refine v_aload_n (pc := 7) C 0 rfl rfl dX12_tear_7 ?_
  refine v_get (pc := 8) C cfX12 rfl 0 0 rfl (by decide) wfX12_7 rfl dX12_tear_8 ?_
  refine v_icmp_ne (pc := 11) C 22 (by decide) dX12_tear_11 (fun hc => ?_) (fun hc => ?_)
  · have hw := hw.1 hc
    refine v_aload_n (pc := 22) C 0 rfl rfl dX12_tear_22 ?_
    refine v_goAv (pc := 23) C (wc' := (fun (u : St) => (fl [bModel E a u]))) (fun _ => rfl) (v_runVA (pc := 23) C [] [] (fun sz => ctX12_note l E a p hw sz) mfX12_note mvX12_note wmX12_106 rfl ⟨Nat.le_of_ble_eq_true rfl, Nat.le_of_ble_eq_true rfl⟩ ⟨rfl, rfl⟩ 0 (ci := 12) (qc := (RX12, TX12, 30)) rfl rfl rfl rfl (Nat.le_of_ble_eq_true rfl) ⟨Nat.zero_le _, Nat.zero_le _⟩ dX12_tear_23) (fun p1 hw => ?_)
    refine v_aload_n (pc := 26) C 0 rfl rfl dX12_tear_26 ?_
    refine v_get (pc := 27) C cfX12 rfl 0 4 rfl (by decide) wfX12_17 rfl dX12_tear_27 ?_
    refine v_bipush (pc := 30) C 125 kb_125 dX12_tear_30 ?_
    refine v_dup2 (pc := 32) C rfl rfl dX12_tear_32 ?_
    refine v_iald (pc := 33) C 2 rfl vi_125_126 tn_125 dX12_tear_33 ?_
    refine v_iconst (pc := 34) C 1 ki_1 dX12_tear_34 ?_
    refine v_iadd (pc := 35) C dX12_tear_35 ?_
    obtain ⟨p2, es⟩ : ∃ y : St, y = p1.sA 4 (upd (p1.A 4) 125 (((p1.A 4) 125) + 1)) := ⟨_, rfl⟩
    have hw := hw p2 es
    refine v_iast (pc := 36) C 2 (w' := (fl [bModel E a p2])) rfl tn_125 (by subst es; rfl) vi_125_126 dX12_tear_36 ?_
    refine v_aload_n (pc := 37) C 0 rfl rfl dX12_tear_37 ?_
    refine v_get (pc := 38) C cfX12 rfl 0 4 rfl (by decide) wfX12_17 rfl dX12_tear_38 ?_
    refine v_bipush (pc := 41) C 125 kb_125 dX12_tear_41 ?_
    refine v_iald (pc := 43) C 2 rfl vi_125_126 tn_125 dX12_tear_43 ?_
    refine v_iconst (pc := 44) C 1 ki_1 dX12_tear_44 ?_
    refine v_isub (pc := 45) C dX12_tear_45 ?_
    exact v_ireti (pc := 46) C p2 hA rfl hw dX12_tear_46
  · have hw := hw.2 hc
    refine v_aload_n (pc := 14) C 0 rfl rfl dX12_tear_14 ?_
    refine v_iconst (pc := 15) C 1 ki_1 dX12_tear_15 ?_
    refine v_bipush (pc := 16) C (-3) kb_m3 dX12_tear_16 ?_
    refine v_goAi (pc := 18) C (wc' := (fun (u : St) => (fl [bModel E a u]))) (fun _ => rfl) (v_runVA (pc := 18) C [.int 1, .int (-3)] [] (fun sz => ctX12_refuse l E a 1 (-3) p hw sz) mfX12_refuse mvX12_refuse wmX12_52 rfl ⟨Nat.le_of_ble_eq_true rfl, Nat.le_of_ble_eq_true rfl⟩ ⟨rfl, rfl⟩ 0 (ci := 12) (qc := (RX12, TX12, 30)) rfl rfl rfl rfl (Nat.le_of_ble_eq_true rfl) ⟨Nat.zero_le _, Nat.zero_le _⟩ dX12_tear_18) (fun r3 p4 hw => ?_)
    exact v_ireti (pc := 21) C p4 hA rfl hw dX12_tear_21
end

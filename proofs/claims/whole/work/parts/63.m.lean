section
variable {pr : Program} {l : Launch} {e : Env} {s : State} {m : MethodId} {args : Array Value} {below : List Frame} {meth : Method} {c : Code} {E : VE} {A : Nat → Prop} {w0 : va_W}
theorem dX12_whoseOf_0 : decode cX12_whoseOf 0 = .ok (.iconst 0, 1) := by decide +kernel
theorem dX12_whoseOf_1 : decode cX12_whoseOf 1 = .ok (.istore_n 2, 1) := by decide +kernel
theorem dX12_whoseOf_2 : decode cX12_whoseOf 2 = .ok (.iconst 0, 1) := by decide +kernel
theorem dX12_whoseOf_3 : decode cX12_whoseOf 3 = .ok (.istore_n 3, 1) := by decide +kernel
theorem dX12_whoseOf_4 : decode cX12_whoseOf 4 = .ok (.iload_n 3, 1) := by decide +kernel
theorem dX12_whoseOf_5 : decode cX12_whoseOf 5 = .ok (.bipush 12, 2) := by decide +kernel
theorem dX12_whoseOf_7 : decode cX12_whoseOf 7 = .ok (.aload_n 0, 1) := by decide +kernel
theorem dX12_whoseOf_8 : decode cX12_whoseOf 8 = .ok (.getfield 17, 3) := by decide +kernel
theorem dX12_whoseOf_11 : decode cX12_whoseOf 11 = .ok (.bipush 124, 2) := by decide +kernel
theorem dX12_whoseOf_13 : decode cX12_whoseOf 13 = .ok (.iaload, 1) := by decide +kernel
theorem dX12_whoseOf_14 : decode cX12_whoseOf 14 = .ok (.imul, 1) := by decide +kernel
theorem dX12_whoseOf_15 : decode cX12_whoseOf 15 = .ok (.if_icmp .ge 38, 3) := by decide +kernel
theorem dX12_whoseOf_18 : decode cX12_whoseOf 18 = .ok (.iload_n 2, 1) := by decide +kernel
theorem dX12_whoseOf_19 : decode cX12_whoseOf 19 = .ok (.aload_n 0, 1) := by decide +kernel
theorem dX12_whoseOf_20 : decode cX12_whoseOf 20 = .ok (.iload_n 3, 1) := by decide +kernel
theorem dX12_whoseOf_21 : decode cX12_whoseOf 21 = .ok (.bipush 12, 2) := by decide +kernel
theorem dX12_whoseOf_23 : decode cX12_whoseOf 23 = .ok (.idiv, 1) := by decide +kernel
theorem dX12_whoseOf_24 : decode cX12_whoseOf 24 = .ok (.iload_n 1, 1) := by decide +kernel
theorem dX12_whoseOf_25 : decode cX12_whoseOf 25 = .ok (.iload_n 3, 1) := by decide +kernel
theorem dX12_whoseOf_26 : decode cX12_whoseOf 26 = .ok (.bipush 12, 2) := by decide +kernel
theorem dX12_whoseOf_28 : decode cX12_whoseOf 28 = .ok (.irem, 1) := by decide +kernel
theorem dX12_whoseOf_29 : decode cX12_whoseOf 29 = .ok (.invokevirtual 184, 3) := by decide +kernel
theorem dX12_whoseOf_32 : decode cX12_whoseOf 32 = .ok (.ifCond .le 12, 3) := by decide +kernel
theorem dX12_whoseOf_35 : decode cX12_whoseOf 35 = .ok (.iconst 1, 1) := by decide +kernel
theorem dX12_whoseOf_36 : decode cX12_whoseOf 36 = .ok (.iload_n 3, 1) := by decide +kernel
theorem dX12_whoseOf_37 : decode cX12_whoseOf 37 = .ok (.bipush 12, 2) := by decide +kernel
theorem dX12_whoseOf_39 : decode cX12_whoseOf 39 = .ok (.idiv, 1) := by decide +kernel
theorem dX12_whoseOf_40 : decode cX12_whoseOf 40 = .ok (.ishl, 1) := by decide +kernel
theorem dX12_whoseOf_41 : decode cX12_whoseOf 41 = .ok (.goto 4, 3) := by decide +kernel
theorem dX12_whoseOf_44 : decode cX12_whoseOf 44 = .ok (.iconst 0, 1) := by decide +kernel
theorem dX12_whoseOf_45 : decode cX12_whoseOf 45 = .ok (.ior, 1) := by decide +kernel
theorem dX12_whoseOf_46 : decode cX12_whoseOf 46 = .ok (.istore_n 2, 1) := by decide +kernel
theorem dX12_whoseOf_47 : decode cX12_whoseOf 47 = .ok (.iinc 3 1, 3) := by decide +kernel
theorem dX12_whoseOf_50 : decode cX12_whoseOf 50 = .ok (.goto (-46), 3) := by decide +kernel
theorem dX12_whoseOf_53 : decode cX12_whoseOf 53 = .ok (.iload_n 2, 1) := by decide +kernel
theorem dX12_whoseOf_54 : decode cX12_whoseOf 54 = .ok (.ireturn, 1) := by decide +kernel
theorem dX12_whose_0 : decode cX12_whose 0 = .ok (.aload_n 0, 1) := by decide +kernel
theorem dX12_whose_1 : decode cX12_whose 1 = .ok (.iload_n 1, 1) := by decide +kernel
theorem dX12_whose_2 : decode cX12_whose 2 = .ok (.invokevirtual 172, 3) := by decide +kernel
theorem dX12_whose_5 : decode cX12_whose 5 = .ok (.ifCond .eq 11, 3) := by decide +kernel
theorem dX12_whose_8 : decode cX12_whose 8 = .ok (.aload_n 0, 1) := by decide +kernel
theorem dX12_whose_9 : decode cX12_whose 9 = .ok (.iload_n 1, 1) := by decide +kernel
theorem dX12_whose_10 : decode cX12_whose 10 = .ok (.invokevirtual 187, 3) := by decide +kernel
theorem dX12_whose_13 : decode cX12_whose 13 = .ok (.goto 7, 3) := by decide +kernel
theorem dX12_whose_16 : decode cX12_whose 16 = .ok (.aload_n 0, 1) := by decide +kernel
theorem dX12_whose_17 : decode cX12_whose 17 = .ok (.invokevirtual 75, 3) := by decide +kernel
theorem dX12_whose_20 : decode cX12_whose 20 = .ok (.ireturn, 1) := by decide +kernel
theorem dX12_own_0 : decode cX12_own 0 = .ok (.iload_n 1, 1) := by decide +kernel
theorem dX12_own_1 : decode cX12_own 1 = .ok (.i2l, 1) := by decide +kernel
theorem dX12_own_2 : decode cX12_own 2 = .ok (.lconst 0, 1) := by decide +kernel
theorem dX12_own_3 : decode cX12_own 3 = .ok (.aload_n 0, 1) := by decide +kernel
theorem dX12_own_4 : decode cX12_own 4 = .ok (.getfield 17, 3) := by decide +kernel
theorem dX12_own_7 : decode cX12_own 7 = .ok (.bipush 124, 2) := by decide +kernel
theorem dX12_own_9 : decode cX12_own 9 = .ok (.iaload, 1) := by decide +kernel
theorem dX12_own_10 : decode cX12_own 10 = .ok (.iconst 1, 1) := by decide +kernel
theorem dX12_own_11 : decode cX12_own 11 = .ok (.isub, 1) := by decide +kernel
theorem dX12_own_12 : decode cX12_own 12 = .ok (.i2l, 1) := by decide +kernel
theorem dX12_own_13 : decode cX12_own 13 = .ok (.invokestatic 56, 3) := by decide +kernel
theorem dX12_own_16 : decode cX12_own 16 = .ok (.ifCond .eq 11, 3) := by decide +kernel
theorem dX12_own_19 : decode cX12_own 19 = .ok (.aload_n 0, 1) := by decide +kernel
theorem dX12_own_20 : decode cX12_own 20 = .ok (.iload_n 2, 1) := by decide +kernel
theorem dX12_own_21 : decode cX12_own 21 = .ok (.invokevirtual 172, 3) := by decide +kernel
theorem dX12_own_24 : decode cX12_own 24 = .ok (.ifCond .ne 8, 3) := by decide +kernel
theorem dX12_own_27 : decode cX12_own 27 = .ok (.aload_n 0, 1) := by decide +kernel
theorem dX12_own_28 : decode cX12_own 28 = .ok (.invokevirtual 75, 3) := by decide +kernel
theorem dX12_own_31 : decode cX12_own 31 = .ok (.ireturn, 1) := by decide +kernel
theorem dX12_own_32 : decode cX12_own 32 = .ok (.iconst 0, 1) := by decide +kernel
theorem dX12_own_33 : decode cX12_own 33 = .ok (.istore_n 3, 1) := by decide +kernel
theorem dX12_own_34 : decode cX12_own 34 = .ok (.iconst 0, 1) := by decide +kernel
theorem dX12_own_35 : decode cX12_own 35 = .ok (.istore 4, 2) := by decide +kernel
theorem dX12_own_37 : decode cX12_own 37 = .ok (.iload 4, 2) := by decide +kernel
theorem dX12_own_39 : decode cX12_own 39 = .ok (.bipush 12, 2) := by decide +kernel
theorem dX12_own_41 : decode cX12_own 41 = .ok (.if_icmp .ge 94, 3) := by decide +kernel
theorem dX12_own_44 : decode cX12_own 44 = .ok (.aload_n 0, 1) := by decide +kernel
theorem dX12_own_45 : decode cX12_own 45 = .ok (.iload_n 1, 1) := by decide +kernel
theorem dX12_own_46 : decode cX12_own 46 = .ok (.iload_n 2, 1) := by decide +kernel
theorem dX12_own_47 : decode cX12_own 47 = .ok (.iload 4, 2) := by decide +kernel
theorem dX12_own_49 : decode cX12_own 49 = .ok (.invokevirtual 184, 3) := by decide +kernel
theorem dX12_own_52 : decode cX12_own 52 = .ok (.ifCond .le 7, 3) := by decide +kernel
theorem dX12_own_55 : decode cX12_own 55 = .ok (.iconst 1, 1) := by decide +kernel
theorem dX12_own_56 : decode cX12_own 56 = .ok (.goto 4, 3) := by decide +kernel
theorem dX12_own_59 : decode cX12_own 59 = .ok (.iconst 0, 1) := by decide +kernel
theorem dX12_own_60 : decode cX12_own 60 = .ok (.istore 5, 2) := by decide +kernel
theorem dX12_own_62 : decode cX12_own 62 = .ok (.iconst 0, 1) := by decide +kernel
theorem dX12_own_63 : decode cX12_own 63 = .ok (.istore 6, 2) := by decide +kernel
theorem dX12_own_65 : decode cX12_own 65 = .ok (.iload 6, 2) := by decide +kernel
theorem dX12_own_67 : decode cX12_own 67 = .ok (.aload_n 0, 1) := by decide +kernel
theorem dX12_own_68 : decode cX12_own 68 = .ok (.getfield 17, 3) := by decide +kernel
theorem dX12_own_71 : decode cX12_own 71 = .ok (.bipush 124, 2) := by decide +kernel
theorem dX12_own_73 : decode cX12_own 73 = .ok (.iaload, 1) := by decide +kernel
theorem dX12_own_74 : decode cX12_own 74 = .ok (.if_icmp .ge 39, 3) := by decide +kernel
theorem dX12_own_77 : decode cX12_own 77 = .ok (.iload 5, 2) := by decide +kernel
theorem dX12_own_79 : decode cX12_own 79 = .ok (.ifCond .eq 25, 3) := by decide +kernel
theorem dX12_own_82 : decode cX12_own 82 = .ok (.iload 6, 2) := by decide +kernel
theorem dX12_own_84 : decode cX12_own 84 = .ok (.iload_n 1, 1) := by decide +kernel
theorem dX12_own_85 : decode cX12_own 85 = .ok (.if_icmp .eq 15, 3) := by decide +kernel
theorem dX12_own_88 : decode cX12_own 88 = .ok (.aload_n 0, 1) := by decide +kernel
theorem dX12_own_89 : decode cX12_own 89 = .ok (.iload 6, 2) := by decide +kernel
theorem dX12_own_91 : decode cX12_own 91 = .ok (.iload_n 2, 1) := by decide +kernel
theorem dX12_own_92 : decode cX12_own 92 = .ok (.iload 4, 2) := by decide +kernel
theorem dX12_own_94 : decode cX12_own 94 = .ok (.invokevirtual 184, 3) := by decide +kernel
theorem dX12_own_97 : decode cX12_own 97 = .ok (.ifCond .ne 7, 3) := by decide +kernel
theorem dX12_own_100 : decode cX12_own 100 = .ok (.iconst 1, 1) := by decide +kernel
theorem dX12_own_101 : decode cX12_own 101 = .ok (.goto 4, 3) := by decide +kernel
theorem dX12_own_104 : decode cX12_own 104 = .ok (.iconst 0, 1) := by decide +kernel
theorem dX12_own_105 : decode cX12_own 105 = .ok (.istore 5, 2) := by decide +kernel
theorem dX12_own_107 : decode cX12_own 107 = .ok (.iinc 6 1, 3) := by decide +kernel
theorem dX12_own_110 : decode cX12_own 110 = .ok (.goto (-45), 3) := by decide +kernel
theorem dX12_own_113 : decode cX12_own 113 = .ok (.iload_n 3, 1) := by decide +kernel
theorem dX12_own_114 : decode cX12_own 114 = .ok (.iload 5, 2) := by decide +kernel
theorem dX12_own_116 : decode cX12_own 116 = .ok (.ifCond .eq 10, 3) := by decide +kernel
theorem dX12_own_119 : decode cX12_own 119 = .ok (.iconst 1, 1) := by decide +kernel
theorem dX12_own_120 : decode cX12_own 120 = .ok (.iload 4, 2) := by decide +kernel
theorem dX12_own_122 : decode cX12_own 122 = .ok (.ishl, 1) := by decide +kernel
theorem dX12_own_123 : decode cX12_own 123 = .ok (.goto 4, 3) := by decide +kernel
theorem dX12_own_126 : decode cX12_own 126 = .ok (.iconst 0, 1) := by decide +kernel
theorem dX12_own_127 : decode cX12_own 127 = .ok (.ior, 1) := by decide +kernel
theorem dX12_own_128 : decode cX12_own 128 = .ok (.istore_n 3, 1) := by decide +kernel
theorem dX12_own_129 : decode cX12_own 129 = .ok (.iinc 4 1, 3) := by decide +kernel
theorem dX12_own_132 : decode cX12_own 132 = .ok (.goto (-95), 3) := by decide +kernel
theorem dX12_own_135 : decode cX12_own 135 = .ok (.iload_n 3, 1) := by decide +kernel
theorem dX12_own_136 : decode cX12_own 136 = .ok (.ireturn, 1) := by decide +kernel
theorem dX12_shown_0 : decode cX12_shown 0 = .ok (.aload_n 0, 1) := by decide +kernel
theorem dX12_shown_1 : decode cX12_shown 1 = .ok (.iload_n 1, 1) := by decide +kernel
theorem dX12_shown_2 : decode cX12_shown 2 = .ok (.invokevirtual 172, 3) := by decide +kernel
theorem dX12_shown_5 : decode cX12_shown 5 = .ok (.ifCond .eq 15, 3) := by decide +kernel
theorem dX12_shown_8 : decode cX12_shown 8 = .ok (.iload_n 2, 1) := by decide +kernel
theorem dX12_shown_9 : decode cX12_shown 9 = .ok (.i2l, 1) := by decide +kernel
theorem dX12_shown_10 : decode cX12_shown 10 = .ok (.lconst 1, 1) := by decide +kernel
theorem dX12_shown_11 : decode cX12_shown 11 = .ok (.ldc2_w 62, 3) := by decide +kernel
theorem dX12_shown_14 : decode cX12_shown 14 = .ok (.invokestatic 56, 3) := by decide +kernel
theorem dX12_shown_17 : decode cX12_shown 17 = .ok (.ifCond .ne 8, 3) := by decide +kernel
theorem dX12_shown_20 : decode cX12_shown 20 = .ok (.aload_n 0, 1) := by decide +kernel
theorem dX12_shown_21 : decode cX12_shown 21 = .ok (.invokevirtual 75, 3) := by decide +kernel
theorem dX12_shown_24 : decode cX12_shown 24 = .ok (.ireturn, 1) := by decide +kernel
theorem dX12_shown_25 : decode cX12_shown 25 = .ok (.iconst 0, 1) := by decide +kernel
theorem dX12_shown_26 : decode cX12_shown 26 = .ok (.istore_n 3, 1) := by decide +kernel
theorem dX12_shown_27 : decode cX12_shown 27 = .ok (.iconst 0, 1) := by decide +kernel
theorem dX12_shown_28 : decode cX12_shown 28 = .ok (.istore 4, 2) := by decide +kernel
theorem dX12_shown_30 : decode cX12_shown 30 = .ok (.iload 4, 2) := by decide +kernel
theorem dX12_shown_32 : decode cX12_shown 32 = .ok (.bipush 12, 2) := by decide +kernel
theorem dX12_shown_34 : decode cX12_shown 34 = .ok (.if_icmp .ge 31, 3) := by decide +kernel
theorem dX12_shown_37 : decode cX12_shown 37 = .ok (.iload_n 3, 1) := by decide +kernel
theorem dX12_shown_38 : decode cX12_shown 38 = .ok (.aload_n 0, 1) := by decide +kernel
theorem dX12_shown_39 : decode cX12_shown 39 = .ok (.iload_n 1, 1) := by decide +kernel
theorem dX12_shown_40 : decode cX12_shown 40 = .ok (.iload 4, 2) := by decide +kernel
theorem dX12_shown_42 : decode cX12_shown 42 = .ok (.invokevirtual 181, 3) := by decide +kernel
theorem dX12_shown_45 : decode cX12_shown 45 = .ok (.iload_n 2, 1) := by decide +kernel
theorem dX12_shown_46 : decode cX12_shown 46 = .ok (.if_icmp .lt 10, 3) := by decide +kernel
theorem dX12_shown_49 : decode cX12_shown 49 = .ok (.iconst 1, 1) := by decide +kernel
theorem dX12_shown_50 : decode cX12_shown 50 = .ok (.iload 4, 2) := by decide +kernel
theorem dX12_shown_52 : decode cX12_shown 52 = .ok (.ishl, 1) := by decide +kernel
theorem dX12_shown_53 : decode cX12_shown 53 = .ok (.goto 4, 3) := by decide +kernel
theorem dX12_shown_56 : decode cX12_shown 56 = .ok (.iconst 0, 1) := by decide +kernel
theorem dX12_shown_57 : decode cX12_shown 57 = .ok (.ior, 1) := by decide +kernel
theorem dX12_shown_58 : decode cX12_shown 58 = .ok (.istore_n 3, 1) := by decide +kernel
theorem dX12_shown_59 : decode cX12_shown 59 = .ok (.iinc 4 1, 3) := by decide +kernel
theorem dX12_shown_62 : decode cX12_shown 62 = .ok (.goto (-32), 3) := by decide +kernel
theorem dX12_shown_65 : decode cX12_shown 65 = .ok (.iload_n 3, 1) := by decide +kernel
theorem dX12_shown_66 : decode cX12_shown 66 = .ok (.ireturn, 1) := by decide +kernel
theorem dX12_explained_0 : decode cX12_explained 0 = .ok (.iconst 0, 1) := by decide +kernel
theorem dX12_explained_1 : decode cX12_explained 1 = .ok (.istore 4, 2) := by decide +kernel
theorem dX12_explained_3 : decode cX12_explained 3 = .ok (.iconst 0, 1) := by decide +kernel
theorem dX12_explained_4 : decode cX12_explained 4 = .ok (.istore 5, 2) := by decide +kernel
theorem dX12_explained_6 : decode cX12_explained 6 = .ok (.iload 5, 2) := by decide +kernel
theorem dX12_explained_8 : decode cX12_explained 8 = .ok (.aload_n 0, 1) := by decide +kernel
theorem dX12_explained_9 : decode cX12_explained 9 = .ok (.getfield 17, 3) := by decide +kernel
theorem dX12_explained_12 : decode cX12_explained 12 = .ok (.bipush 124, 2) := by decide +kernel
theorem dX12_explained_14 : decode cX12_explained 14 = .ok (.iaload, 1) := by decide +kernel
theorem dX12_explained_15 : decode cX12_explained 15 = .ok (.if_icmp .ge 48, 3) := by decide +kernel
theorem dX12_explained_18 : decode cX12_explained 18 = .ok (.iload_n 2, 1) := by decide +kernel
theorem dX12_explained_19 : decode cX12_explained 19 = .ok (.iload 5, 2) := by decide +kernel
theorem dX12_explained_21 : decode cX12_explained 21 = .ok (.invokestatic 93, 3) := by decide +kernel
theorem dX12_explained_24 : decode cX12_explained 24 = .ok (.ifCond .eq 14, 3) := by decide +kernel
theorem dX12_explained_27 : decode cX12_explained 27 = .ok (.aload_n 0, 1) := by decide +kernel
theorem dX12_explained_28 : decode cX12_explained 28 = .ok (.iload 5, 2) := by decide +kernel
theorem dX12_explained_30 : decode cX12_explained 30 = .ok (.iload_n 1, 1) := by decide +kernel
theorem dX12_explained_31 : decode cX12_explained 31 = .ok (.iload_n 3, 1) := by decide +kernel
theorem dX12_explained_32 : decode cX12_explained 32 = .ok (.invokevirtual 184, 3) := by decide +kernel
theorem dX12_explained_35 : decode cX12_explained 35 = .ok (.goto 4, 3) := by decide +kernel
theorem dX12_explained_38 : decode cX12_explained 38 = .ok (.iconst 0, 1) := by decide +kernel
theorem dX12_explained_39 : decode cX12_explained 39 = .ok (.istore 6, 2) := by decide +kernel
theorem dX12_explained_41 : decode cX12_explained 41 = .ok (.iload 6, 2) := by decide +kernel
theorem dX12_explained_43 : decode cX12_explained 43 = .ok (.iload 4, 2) := by decide +kernel
theorem dX12_explained_45 : decode cX12_explained 45 = .ok (.if_icmp .le 8, 3) := by decide +kernel
theorem dX12_explained_48 : decode cX12_explained 48 = .ok (.iload 6, 2) := by decide +kernel
theorem dX12_explained_50 : decode cX12_explained 50 = .ok (.goto 5, 3) := by decide +kernel
theorem dX12_explained_53 : decode cX12_explained 53 = .ok (.iload 4, 2) := by decide +kernel
theorem dX12_explained_55 : decode cX12_explained 55 = .ok (.istore 4, 2) := by decide +kernel
theorem dX12_explained_57 : decode cX12_explained 57 = .ok (.iinc 5 1, 3) := by decide +kernel
theorem dX12_explained_60 : decode cX12_explained 60 = .ok (.goto (-54), 3) := by decide +kernel
theorem dX12_explained_63 : decode cX12_explained 63 = .ok (.iload 4, 2) := by decide +kernel
theorem dX12_explained_65 : decode cX12_explained 65 = .ok (.ireturn, 1) := by decide +kernel
theorem dX12_isLost_0 : decode cX12_isLost 0 = .ok (.aload_n 0, 1) := by decide +kernel
theorem dX12_isLost_1 : decode cX12_isLost 1 = .ok (.iconst 0, 1) := by decide +kernel
theorem dX12_isLost_2 : decode cX12_isLost 2 = .ok (.putfield 190, 3) := by decide +kernel
theorem dX12_isLost_5 : decode cX12_isLost 5 = .ok (.aload_n 0, 1) := by decide +kernel
theorem dX12_isLost_6 : decode cX12_isLost 6 = .ok (.iconst 0, 1) := by decide +kernel
theorem dX12_isLost_7 : decode cX12_isLost 7 = .ok (.putfield 193, 3) := by decide +kernel
theorem dX12_isLost_10 : decode cX12_isLost 10 = .ok (.iload_n 3, 1) := by decide +kernel
theorem dX12_isLost_11 : decode cX12_isLost 11 = .ok (.ifCond .le 7, 3) := by decide +kernel
theorem dX12_isLost_14 : decode cX12_isLost 14 = .ok (.iconst 1, 1) := by decide +kernel
theorem dX12_isLost_15 : decode cX12_isLost 15 = .ok (.goto 4, 3) := by decide +kernel
theorem dX12_isLost_18 : decode cX12_isLost 18 = .ok (.iconst 0, 1) := by decide +kernel
theorem dX12_isLost_19 : decode cX12_isLost 19 = .ok (.istore 4, 2) := by decide +kernel
theorem dX12_isLost_21 : decode cX12_isLost 21 = .ok (.iconst 0, 1) := by decide +kernel
theorem dX12_isLost_22 : decode cX12_isLost 22 = .ok (.istore 5, 2) := by decide +kernel
theorem dX12_isLost_24 : decode cX12_isLost 24 = .ok (.iload 5, 2) := by decide +kernel
theorem dX12_isLost_26 : decode cX12_isLost 26 = .ok (.bipush 12, 2) := by decide +kernel
theorem dX12_isLost_28 : decode cX12_isLost 28 = .ok (.if_icmp .ge 107, 3) := by decide +kernel
theorem dX12_isLost_31 : decode cX12_isLost 31 = .ok (.aload_n 0, 1) := by decide +kernel
theorem dX12_isLost_32 : decode cX12_isLost 32 = .ok (.iload_n 1, 1) := by decide +kernel
theorem dX12_isLost_33 : decode cX12_isLost 33 = .ok (.iload 5, 2) := by decide +kernel
theorem dX12_isLost_35 : decode cX12_isLost 35 = .ok (.invokevirtual 181, 3) := by decide +kernel
theorem dX12_isLost_38 : decode cX12_isLost 38 = .ok (.istore 6, 2) := by decide +kernel
theorem dX12_isLost_40 : decode cX12_isLost 40 = .ok (.aload_n 0, 1) := by decide +kernel
theorem dX12_isLost_41 : decode cX12_isLost 41 = .ok (.iload_n 1, 1) := by decide +kernel
theorem dX12_isLost_42 : decode cX12_isLost 42 = .ok (.iload_n 2, 1) := by decide +kernel
theorem dX12_isLost_43 : decode cX12_isLost 43 = .ok (.iload 5, 2) := by decide +kernel
theorem dX12_isLost_45 : decode cX12_isLost 45 = .ok (.invokevirtual 196, 3) := by decide +kernel
theorem dX12_isLost_48 : decode cX12_isLost 48 = .ok (.istore 7, 2) := by decide +kernel
theorem dX12_isLost_50 : decode cX12_isLost 50 = .ok (.iload 4, 2) := by decide +kernel
theorem dX12_isLost_52 : decode cX12_isLost 52 = .ok (.ifCond .eq 20, 3) := by decide +kernel
theorem dX12_isLost_55 : decode cX12_isLost 55 = .ok (.iload 6, 2) := by decide +kernel
theorem dX12_isLost_57 : decode cX12_isLost 57 = .ok (.iload 7, 2) := by decide +kernel
theorem dX12_isLost_59 : decode cX12_isLost 59 = .ok (.if_icmp .eq 9, 3) := by decide +kernel
theorem dX12_isLost_62 : decode cX12_isLost 62 = .ok (.iload 6, 2) := by decide +kernel
theorem dX12_isLost_64 : decode cX12_isLost 64 = .ok (.iload_n 3, 1) := by decide +kernel
theorem dX12_isLost_65 : decode cX12_isLost 65 = .ok (.if_icmp .ne 7, 3) := by decide +kernel
theorem dX12_isLost_68 : decode cX12_isLost 68 = .ok (.iconst 1, 1) := by decide +kernel
theorem dX12_isLost_69 : decode cX12_isLost 69 = .ok (.goto 4, 3) := by decide +kernel
theorem dX12_isLost_72 : decode cX12_isLost 72 = .ok (.iconst 0, 1) := by decide +kernel
theorem dX12_isLost_73 : decode cX12_isLost 73 = .ok (.istore 4, 2) := by decide +kernel
theorem dX12_isLost_75 : decode cX12_isLost 75 = .ok (.aload_n 0, 1) := by decide +kernel
theorem dX12_isLost_76 : decode cX12_isLost 76 = .ok (.dup, 1) := by decide +kernel
theorem dX12_isLost_77 : decode cX12_isLost 77 = .ok (.getfield 190, 3) := by decide +kernel
theorem dX12_isLost_80 : decode cX12_isLost 80 = .ok (.iload 6, 2) := by decide +kernel
theorem dX12_isLost_82 : decode cX12_isLost 82 = .ok (.iload 7, 2) := by decide +kernel
theorem dX12_isLost_84 : decode cX12_isLost 84 = .ok (.if_icmp .le 10, 3) := by decide +kernel
theorem dX12_isLost_87 : decode cX12_isLost 87 = .ok (.iconst 1, 1) := by decide +kernel
theorem dX12_isLost_88 : decode cX12_isLost 88 = .ok (.iload 5, 2) := by decide +kernel
theorem dX12_isLost_90 : decode cX12_isLost 90 = .ok (.ishl, 1) := by decide +kernel
theorem dX12_isLost_91 : decode cX12_isLost 91 = .ok (.goto 4, 3) := by decide +kernel
theorem dX12_isLost_94 : decode cX12_isLost 94 = .ok (.iconst 0, 1) := by decide +kernel
theorem dX12_isLost_95 : decode cX12_isLost 95 = .ok (.ior, 1) := by decide +kernel
theorem dX12_isLost_96 : decode cX12_isLost 96 = .ok (.putfield 190, 3) := by decide +kernel
theorem dX12_isLost_99 : decode cX12_isLost 99 = .ok (.aload_n 0, 1) := by decide +kernel
theorem dX12_isLost_100 : decode cX12_isLost 100 = .ok (.dup, 1) := by decide +kernel
theorem dX12_isLost_101 : decode cX12_isLost 101 = .ok (.getfield 193, 3) := by decide +kernel
theorem dX12_isLost_104 : decode cX12_isLost 104 = .ok (.iload 6, 2) := by decide +kernel
theorem dX12_isLost_106 : decode cX12_isLost 106 = .ok (.iload 7, 2) := by decide +kernel
theorem dX12_isLost_108 : decode cX12_isLost 108 = .ok (.if_icmp .gt 9, 3) := by decide +kernel
theorem dX12_isLost_111 : decode cX12_isLost 111 = .ok (.iload 7, 2) := by decide +kernel
theorem dX12_isLost_113 : decode cX12_isLost 113 = .ok (.iload_n 3, 1) := by decide +kernel
theorem dX12_isLost_114 : decode cX12_isLost 114 = .ok (.if_icmp .lt 10, 3) := by decide +kernel
theorem dX12_isLost_117 : decode cX12_isLost 117 = .ok (.iconst 1, 1) := by decide +kernel
theorem dX12_isLost_118 : decode cX12_isLost 118 = .ok (.iload 5, 2) := by decide +kernel
theorem dX12_isLost_120 : decode cX12_isLost 120 = .ok (.ishl, 1) := by decide +kernel
theorem dX12_isLost_121 : decode cX12_isLost 121 = .ok (.goto 4, 3) := by decide +kernel
theorem dX12_isLost_124 : decode cX12_isLost 124 = .ok (.iconst 0, 1) := by decide +kernel
theorem dX12_isLost_125 : decode cX12_isLost 125 = .ok (.ior, 1) := by decide +kernel
theorem dX12_isLost_126 : decode cX12_isLost 126 = .ok (.putfield 193, 3) := by decide +kernel
theorem dX12_isLost_129 : decode cX12_isLost 129 = .ok (.iinc 5 1, 3) := by decide +kernel
theorem dX12_isLost_132 : decode cX12_isLost 132 = .ok (.goto (-108), 3) := by decide +kernel
theorem dX12_isLost_135 : decode cX12_isLost 135 = .ok (.iload 4, 2) := by decide +kernel
theorem dX12_isLost_137 : decode cX12_isLost 137 = .ok (.ireturn, 1) := by decide +kernel
theorem dX12_fits_0 : decode cX12_fits 0 = .ok (.aload_n 0, 1) := by decide +kernel
theorem dX12_fits_1 : decode cX12_fits 1 = .ok (.getfield 190, 3) := by decide +kernel
theorem dX12_fits_4 : decode cX12_fits 4 = .ok (.iload_n 1, 1) := by decide +kernel
theorem dX12_fits_5 : decode cX12_fits 5 = .ok (.iconst (-1), 1) := by decide +kernel
theorem dX12_fits_6 : decode cX12_fits 6 = .ok (.ixor, 1) := by decide +kernel
theorem dX12_fits_7 : decode cX12_fits 7 = .ok (.iand, 1) := by decide +kernel
theorem dX12_fits_8 : decode cX12_fits 8 = .ok (.ifCond .ne 18, 3) := by decide +kernel
theorem dX12_fits_11 : decode cX12_fits 11 = .ok (.iload_n 1, 1) := by decide +kernel
theorem dX12_fits_12 : decode cX12_fits 12 = .ok (.aload_n 0, 1) := by decide +kernel
theorem dX12_fits_13 : decode cX12_fits 13 = .ok (.getfield 193, 3) := by decide +kernel
theorem dX12_fits_16 : decode cX12_fits 16 = .ok (.iconst (-1), 1) := by decide +kernel
theorem dX12_fits_17 : decode cX12_fits 17 = .ok (.ixor, 1) := by decide +kernel
theorem dX12_fits_18 : decode cX12_fits 18 = .ok (.iand, 1) := by decide +kernel
theorem dX12_fits_19 : decode cX12_fits 19 = .ok (.ifCond .ne 7, 3) := by decide +kernel
theorem dX12_fits_22 : decode cX12_fits 22 = .ok (.iconst 1, 1) := by decide +kernel
theorem dX12_fits_23 : decode cX12_fits 23 = .ok (.goto 4, 3) := by decide +kernel
theorem dX12_fits_26 : decode cX12_fits 26 = .ok (.iconst 0, 1) := by decide +kernel
theorem dX12_fits_27 : decode cX12_fits 27 = .ok (.ireturn, 1) := by decide +kernel
theorem dX12_lost_0 : decode cX12_lost 0 = .ok (.aload_n 0, 1) := by decide +kernel
theorem dX12_lost_1 : decode cX12_lost 1 = .ok (.iload_n 1, 1) := by decide +kernel
theorem dX12_lost_2 : decode cX12_lost 2 = .ok (.invokevirtual 172, 3) := by decide +kernel
theorem dX12_lost_5 : decode cX12_lost 5 = .ok (.ifCond .eq 46, 3) := by decide +kernel
theorem dX12_lost_8 : decode cX12_lost 8 = .ok (.aload_n 0, 1) := by decide +kernel
theorem dX12_lost_9 : decode cX12_lost 9 = .ok (.iload_n 2, 1) := by decide +kernel
theorem dX12_lost_10 : decode cX12_lost 10 = .ok (.invokevirtual 199, 3) := by decide +kernel
theorem dX12_lost_13 : decode cX12_lost 13 = .ok (.ifCond .eq 38, 3) := by decide +kernel
theorem dX12_lost_16 : decode cX12_lost 16 = .ok (.iload_n 3, 1) := by decide +kernel
theorem dX12_lost_17 : decode cX12_lost 17 = .ok (.iload 4, 2) := by decide +kernel
theorem dX12_lost_19 : decode cX12_lost 19 = .ok (.invokestatic 101, 3) := by decide +kernel
theorem dX12_lost_22 : decode cX12_lost 22 = .ok (.ifCond .eq 29, 3) := by decide +kernel
theorem dX12_lost_25 : decode cX12_lost 25 = .ok (.iload 5, 2) := by decide +kernel
theorem dX12_lost_27 : decode cX12_lost 27 = .ok (.i2l, 1) := by decide +kernel
theorem dX12_lost_28 : decode cX12_lost 28 = .ok (.lconst 0, 1) := by decide +kernel
theorem dX12_lost_29 : decode cX12_lost 29 = .ok (.ldc2_w 60, 3) := by decide +kernel
theorem dX12_lost_32 : decode cX12_lost 32 = .ok (.invokestatic 56, 3) := by decide +kernel
theorem dX12_lost_35 : decode cX12_lost 35 = .ok (.ifCond .eq 16, 3) := by decide +kernel
theorem dX12_lost_38 : decode cX12_lost 38 = .ok (.iload 6, 2) := by decide +kernel
theorem dX12_lost_40 : decode cX12_lost 40 = .ok (.i2l, 1) := by decide +kernel
theorem dX12_lost_41 : decode cX12_lost 41 = .ok (.lconst 0, 1) := by decide +kernel
theorem dX12_lost_42 : decode cX12_lost 42 = .ok (.ldc2_w 202, 3) := by decide +kernel
theorem dX12_lost_45 : decode cX12_lost 45 = .ok (.invokestatic 56, 3) := by decide +kernel
theorem dX12_lost_48 : decode cX12_lost 48 = .ok (.ifCond .ne 8, 3) := by decide +kernel
theorem dX12_lost_51 : decode cX12_lost 51 = .ok (.aload_n 0, 1) := by decide +kernel
theorem dX12_lost_52 : decode cX12_lost 52 = .ok (.invokevirtual 175, 3) := by decide +kernel
theorem dX12_lost_55 : decode cX12_lost 55 = .ok (.ireturn, 1) := by decide +kernel
theorem dX12_lost_56 : decode cX12_lost 56 = .ok (.aload_n 0, 1) := by decide +kernel
theorem dX12_lost_57 : decode cX12_lost 57 = .ok (.iload_n 1, 1) := by decide +kernel
theorem dX12_lost_58 : decode cX12_lost 58 = .ok (.iload_n 2, 1) := by decide +kernel
theorem dX12_lost_59 : decode cX12_lost 59 = .ok (.iload_n 3, 1) := by decide +kernel
theorem dX12_lost_60 : decode cX12_lost 60 = .ok (.iload 4, 2) := by decide +kernel
theorem dX12_lost_62 : decode cX12_lost 62 = .ok (.iload 5, 2) := by decide +kernel
theorem dX12_lost_64 : decode cX12_lost 64 = .ok (.invokestatic 89, 3) := by decide +kernel
theorem dX12_lost_67 : decode cX12_lost 67 = .ok (.invokevirtual 204, 3) := by decide +kernel
theorem dX12_lost_70 : decode cX12_lost 70 = .ok (.istore 7, 2) := by decide +kernel
theorem dX12_lost_72 : decode cX12_lost 72 = .ok (.iload 6, 2) := by decide +kernel
theorem dX12_lost_74 : decode cX12_lost 74 = .ok (.iconst 2, 1) := by decide +kernel
theorem dX12_lost_75 : decode cX12_lost 75 = .ok (.if_icmp .ge 29, 3) := by decide +kernel
theorem dX12_lost_78 : decode cX12_lost 78 = .ok (.iload 7, 2) := by decide +kernel
theorem dX12_lost_80 : decode cX12_lost 80 = .ok (.ifCond .ne 7, 3) := by decide +kernel
theorem dX12_lost_83 : decode cX12_lost 83 = .ok (.iconst (-1), 1) := by decide +kernel
theorem dX12_lost_84 : decode cX12_lost 84 = .ok (.goto 19, 3) := by decide +kernel
theorem dX12_lost_87 : decode cX12_lost 87 = .ok (.iload 6, 2) := by decide +kernel
theorem dX12_lost_89 : decode cX12_lost 89 = .ok (.ifCond .ne 10, 3) := by decide +kernel
theorem dX12_lost_92 : decode cX12_lost 92 = .ok (.aload_n 0, 1) := by decide +kernel
theorem dX12_lost_93 : decode cX12_lost 93 = .ok (.getfield 190, 3) := by decide +kernel
theorem dX12_lost_96 : decode cX12_lost 96 = .ok (.goto 7, 3) := by decide +kernel
theorem dX12_lost_99 : decode cX12_lost 99 = .ok (.aload_n 0, 1) := by decide +kernel
theorem dX12_lost_100 : decode cX12_lost 100 = .ok (.getfield 193, 3) := by decide +kernel
theorem dX12_lost_103 : decode cX12_lost 103 = .ok (.ireturn, 1) := by decide +kernel
theorem dX12_lost_104 : decode cX12_lost 104 = .ok (.iconst 0, 1) := by decide +kernel
theorem dX12_lost_105 : decode cX12_lost 105 = .ok (.istore 8, 2) := by decide +kernel
theorem dX12_lost_107 : decode cX12_lost 107 = .ok (.iconst 0, 1) := by decide +kernel
theorem dX12_lost_108 : decode cX12_lost 108 = .ok (.istore 9, 2) := by decide +kernel
theorem dX12_lost_110 : decode cX12_lost 110 = .ok (.iload 9, 2) := by decide +kernel
theorem dX12_lost_112 : decode cX12_lost 112 = .ok (.aload_n 0, 1) := by decide +kernel
theorem dX12_lost_113 : decode cX12_lost 113 = .ok (.getfield 79, 3) := by decide +kernel
theorem dX12_lost_116 : decode cX12_lost 116 = .ok (.if_icmp .ge 36, 3) := by decide +kernel
theorem dX12_lost_119 : decode cX12_lost 119 = .ok (.iload 8, 2) := by decide +kernel
theorem dX12_lost_121 : decode cX12_lost 121 = .ok (.aload_n 0, 1) := by decide +kernel
theorem dX12_lost_122 : decode cX12_lost 122 = .ok (.aload_n 0, 1) := by decide +kernel
theorem dX12_lost_123 : decode cX12_lost 123 = .ok (.getfield 13, 3) := by decide +kernel
theorem dX12_lost_126 : decode cX12_lost 126 = .ok (.iload 9, 2) := by decide +kernel
theorem dX12_lost_128 : decode cX12_lost 128 = .ok (.iaload, 1) := by decide +kernel
theorem dX12_lost_129 : decode cX12_lost 129 = .ok (.invokevirtual 208, 3) := by decide +kernel
theorem dX12_lost_132 : decode cX12_lost 132 = .ok (.ifCond .eq 10, 3) := by decide +kernel
theorem dX12_lost_135 : decode cX12_lost 135 = .ok (.iconst 1, 1) := by decide +kernel
theorem dX12_lost_136 : decode cX12_lost 136 = .ok (.iload 9, 2) := by decide +kernel
theorem dX12_lost_138 : decode cX12_lost 138 = .ok (.ishl, 1) := by decide +kernel
theorem dX12_lost_139 : decode cX12_lost 139 = .ok (.goto 4, 3) := by decide +kernel
theorem dX12_lost_142 : decode cX12_lost 142 = .ok (.iconst 0, 1) := by decide +kernel
theorem dX12_lost_143 : decode cX12_lost 143 = .ok (.ior, 1) := by decide +kernel
theorem dX12_lost_144 : decode cX12_lost 144 = .ok (.istore 8, 2) := by decide +kernel
theorem dX12_lost_146 : decode cX12_lost 146 = .ok (.iinc 9 1, 3) := by decide +kernel
theorem dX12_lost_149 : decode cX12_lost 149 = .ok (.goto (-39), 3) := by decide +kernel
theorem dX12_lost_152 : decode cX12_lost 152 = .ok (.iload 7, 2) := by decide +kernel
theorem dX12_lost_154 : decode cX12_lost 154 = .ok (.ifCond .ne 7, 3) := by decide +kernel
theorem dX12_lost_157 : decode cX12_lost 157 = .ok (.iconst 0, 1) := by decide +kernel
theorem dX12_lost_158 : decode cX12_lost 158 = .ok (.goto 30, 3) := by decide +kernel
theorem dX12_lost_161 : decode cX12_lost 161 = .ok (.iload 6, 2) := by decide +kernel
theorem dX12_lost_163 : decode cX12_lost 163 = .ok (.iconst 2, 1) := by decide +kernel
theorem dX12_lost_164 : decode cX12_lost 164 = .ok (.if_icmp .ne 22, 3) := by decide +kernel
theorem dX12_lost_167 : decode cX12_lost 167 = .ok (.iconst 1, 1) := by decide +kernel
theorem dX12_lost_168 : decode cX12_lost 168 = .ok (.aload_n 0, 1) := by decide +kernel
theorem dX12_lost_169 : decode cX12_lost 169 = .ok (.getfield 193, 3) := by decide +kernel
theorem dX12_lost_172 : decode cX12_lost 172 = .ok (.aload_n 0, 1) := by decide +kernel
theorem dX12_lost_173 : decode cX12_lost 173 = .ok (.getfield 190, 3) := by decide +kernel
theorem dX12_lost_176 : decode cX12_lost 176 = .ok (.iconst (-1), 1) := by decide +kernel
theorem dX12_lost_177 : decode cX12_lost 177 = .ok (.ixor, 1) := by decide +kernel
theorem dX12_lost_178 : decode cX12_lost 178 = .ok (.iand, 1) := by decide +kernel
theorem dX12_lost_179 : decode cX12_lost 179 = .ok (.invokestatic 211, 3) := by decide +kernel
theorem dX12_lost_182 : decode cX12_lost 182 = .ok (.ishl, 1) := by decide +kernel
theorem dX12_lost_183 : decode cX12_lost 183 = .ok (.goto 5, 3) := by decide +kernel
theorem dX12_lost_186 : decode cX12_lost 186 = .ok (.iload 8, 2) := by decide +kernel
theorem dX12_lost_188 : decode cX12_lost 188 = .ok (.ireturn, 1) := by decide +kernel
theorem dX12_pen_0 : decode cX12_pen 0 = .ok (.aload_n 0, 1) := by decide +kernel
theorem dX12_pen_1 : decode cX12_pen 1 = .ok (.iload_n 1, 1) := by decide +kernel
theorem dX12_pen_2 : decode cX12_pen 2 = .ok (.invokevirtual 172, 3) := by decide +kernel
theorem dX12_pen_5 : decode cX12_pen 5 = .ok (.ifCond .eq 47, 3) := by decide +kernel
theorem dX12_pen_8 : decode cX12_pen 8 = .ok (.aload_n 0, 1) := by decide +kernel
theorem dX12_pen_9 : decode cX12_pen 9 = .ok (.iload_n 2, 1) := by decide +kernel
theorem dX12_pen_10 : decode cX12_pen 10 = .ok (.invokevirtual 199, 3) := by decide +kernel
theorem dX12_pen_13 : decode cX12_pen 13 = .ok (.ifCond .eq 39, 3) := by decide +kernel
theorem dX12_pen_16 : decode cX12_pen 16 = .ok (.iload_n 3, 1) := by decide +kernel
theorem dX12_pen_17 : decode cX12_pen 17 = .ok (.i2l, 1) := by decide +kernel
theorem dX12_pen_18 : decode cX12_pen 18 = .ok (.lconst 0, 1) := by decide +kernel
theorem dX12_pen_19 : decode cX12_pen 19 = .ok (.ldc2_w 60, 3) := by decide +kernel
theorem dX12_pen_22 : decode cX12_pen 22 = .ok (.invokestatic 56, 3) := by decide +kernel
theorem dX12_pen_25 : decode cX12_pen 25 = .ok (.ifCond .eq 27, 3) := by decide +kernel
theorem dX12_pen_28 : decode cX12_pen 28 = .ok (.iload 4, 2) := by decide +kernel
theorem dX12_pen_30 : decode cX12_pen 30 = .ok (.i2l, 1) := by decide +kernel
theorem dX12_pen_31 : decode cX12_pen 31 = .ok (.lconst 1, 1) := by decide +kernel
theorem dX12_pen_32 : decode cX12_pen 32 = .ok (.ldc2_w 104, 3) := by decide +kernel
theorem dX12_pen_35 : decode cX12_pen 35 = .ok (.invokestatic 56, 3) := by decide +kernel
theorem dX12_pen_38 : decode cX12_pen 38 = .ok (.ifCond .eq 14, 3) := by decide +kernel
theorem dX12_pen_41 : decode cX12_pen 41 = .ok (.iload 5, 2) := by decide +kernel
theorem dX12_pen_43 : decode cX12_pen 43 = .ok (.i2l, 1) := by decide +kernel
theorem dX12_pen_44 : decode cX12_pen 44 = .ok (.lconst 0, 1) := by decide +kernel
theorem dX12_pen_45 : decode cX12_pen 45 = .ok (.lconst 1, 1) := by decide +kernel
theorem dX12_pen_46 : decode cX12_pen 46 = .ok (.invokestatic 56, 3) := by decide +kernel
theorem dX12_pen_49 : decode cX12_pen 49 = .ok (.ifCond .ne 8, 3) := by decide +kernel
theorem dX12_pen_52 : decode cX12_pen 52 = .ok (.aload_n 0, 1) := by decide +kernel
theorem dX12_pen_53 : decode cX12_pen 53 = .ok (.invokevirtual 175, 3) := by decide +kernel
theorem dX12_pen_56 : decode cX12_pen 56 = .ok (.ireturn, 1) := by decide +kernel
theorem dX12_pen_57 : decode cX12_pen 57 = .ok (.iconst 0, 1) := by decide +kernel
theorem dX12_pen_58 : decode cX12_pen 58 = .ok (.istore 6, 2) := by decide +kernel
theorem dX12_pen_60 : decode cX12_pen 60 = .ok (.iconst (-1), 1) := by decide +kernel
theorem dX12_pen_61 : decode cX12_pen 61 = .ok (.istore 7, 2) := by decide +kernel
theorem dX12_pen_63 : decode cX12_pen 63 = .ok (.bipush 53, 2) := by decide +kernel
theorem dX12_pen_65 : decode cX12_pen 65 = .ok (.istore 8, 2) := by decide +kernel
theorem dX12_pen_67 : decode cX12_pen 67 = .ok (.iload 8, 2) := by decide +kernel
theorem dX12_pen_69 : decode cX12_pen 69 = .ok (.ifCond .lt 93, 3) := by decide +kernel
theorem dX12_pen_72 : decode cX12_pen 72 = .ok (.aload_n 0, 1) := by decide +kernel
theorem dX12_pen_73 : decode cX12_pen 73 = .ok (.iload_n 1, 1) := by decide +kernel
theorem dX12_pen_74 : decode cX12_pen 74 = .ok (.iload_n 2, 1) := by decide +kernel
theorem dX12_pen_75 : decode cX12_pen 75 = .ok (.iload 8, 2) := by decide +kernel
theorem dX12_pen_77 : decode cX12_pen 77 = .ok (.bipush 9, 2) := by decide +kernel
theorem dX12_pen_79 : decode cX12_pen 79 = .ok (.idiv, 1) := by decide +kernel
theorem dX12_pen_80 : decode cX12_pen 80 = .ok (.iload 8, 2) := by decide +kernel
theorem dX12_pen_82 : decode cX12_pen 82 = .ok (.bipush 9, 2) := by decide +kernel
theorem dX12_pen_84 : decode cX12_pen 84 = .ok (.irem, 1) := by decide +kernel
theorem dX12_pen_85 : decode cX12_pen 85 = .ok (.iconst 1, 1) := by decide +kernel
theorem dX12_pen_86 : decode cX12_pen 86 = .ok (.iadd, 1) := by decide +kernel
theorem dX12_pen_87 : decode cX12_pen 87 = .ok (.iload_n 3, 1) := by decide +kernel
theorem dX12_pen_88 : decode cX12_pen 88 = .ok (.invokestatic 89, 3) := by decide +kernel
theorem dX12_pen_91 : decode cX12_pen 91 = .ok (.invokevirtual 204, 3) := by decide +kernel
theorem dX12_pen_94 : decode cX12_pen 94 = .ok (.ifCond .eq 16, 3) := by decide +kernel
theorem dX12_pen_97 : decode cX12_pen 97 = .ok (.aload_n 0, 1) := by decide +kernel
theorem dX12_pen_98 : decode cX12_pen 98 = .ok (.iload 4, 2) := by decide +kernel
theorem dX12_pen_100 : decode cX12_pen 100 = .ok (.invokevirtual 208, 3) := by decide +kernel
theorem dX12_pen_103 : decode cX12_pen 103 = .ok (.ifCond .eq 7, 3) := by decide +kernel
theorem dX12_pen_106 : decode cX12_pen 106 = .ok (.iconst 1, 1) := by decide +kernel
theorem dX12_pen_107 : decode cX12_pen 107 = .ok (.goto 4, 3) := by decide +kernel
theorem dX12_pen_110 : decode cX12_pen 110 = .ok (.iconst 0, 1) := by decide +kernel
theorem dX12_pen_111 : decode cX12_pen 111 = .ok (.istore 9, 2) := by decide +kernel
theorem dX12_pen_113 : decode cX12_pen 113 = .ok (.iload 6, 2) := by decide +kernel
theorem dX12_pen_115 : decode cX12_pen 115 = .ok (.iload 9, 2) := by decide +kernel
theorem dX12_pen_117 : decode cX12_pen 117 = .ok (.ifCond .eq 7, 3) := by decide +kernel
theorem dX12_pen_120 : decode cX12_pen 120 = .ok (.iconst 1, 1) := by decide +kernel
theorem dX12_pen_121 : decode cX12_pen 121 = .ok (.goto 4, 3) := by decide +kernel
theorem dX12_pen_124 : decode cX12_pen 124 = .ok (.iconst 0, 1) := by decide +kernel
theorem dX12_pen_125 : decode cX12_pen 125 = .ok (.iadd, 1) := by decide +kernel
theorem dX12_pen_126 : decode cX12_pen 126 = .ok (.istore 6, 2) := by decide +kernel
theorem dX12_pen_128 : decode cX12_pen 128 = .ok (.iload 9, 2) := by decide +kernel
theorem dX12_pen_130 : decode cX12_pen 130 = .ok (.ifCond .eq 22, 3) := by decide +kernel
theorem dX12_pen_133 : decode cX12_pen 133 = .ok (.bipush 10, 2) := by decide +kernel
theorem dX12_pen_135 : decode cX12_pen 135 = .ok (.iload 8, 2) := by decide +kernel
theorem dX12_pen_137 : decode cX12_pen 137 = .ok (.bipush 9, 2) := by decide +kernel
theorem dX12_pen_139 : decode cX12_pen 139 = .ok (.idiv, 1) := by decide +kernel
theorem dX12_pen_140 : decode cX12_pen 140 = .ok (.imul, 1) := by decide +kernel
theorem dX12_pen_141 : decode cX12_pen 141 = .ok (.iload 8, 2) := by decide +kernel
theorem dX12_pen_143 : decode cX12_pen 143 = .ok (.bipush 9, 2) := by decide +kernel
theorem dX12_pen_145 : decode cX12_pen 145 = .ok (.irem, 1) := by decide +kernel
theorem dX12_pen_146 : decode cX12_pen 146 = .ok (.iadd, 1) := by decide +kernel
theorem dX12_pen_147 : decode cX12_pen 147 = .ok (.iconst 1, 1) := by decide +kernel
theorem dX12_pen_148 : decode cX12_pen 148 = .ok (.iadd, 1) := by decide +kernel
theorem dX12_pen_149 : decode cX12_pen 149 = .ok (.goto 5, 3) := by decide +kernel
theorem dX12_pen_152 : decode cX12_pen 152 = .ok (.iload 7, 2) := by decide +kernel
theorem dX12_pen_154 : decode cX12_pen 154 = .ok (.istore 7, 2) := by decide +kernel
theorem dX12_pen_156 : decode cX12_pen 156 = .ok (.iinc 8 (-1), 3) := by decide +kernel
theorem dX12_pen_159 : decode cX12_pen 159 = .ok (.goto (-92), 3) := by decide +kernel
theorem dX12_pen_162 : decode cX12_pen 162 = .ok (.iload 5, 2) := by decide +kernel
theorem dX12_pen_164 : decode cX12_pen 164 = .ok (.ifCond .ne 8, 3) := by decide +kernel
theorem dX12_pen_167 : decode cX12_pen 167 = .ok (.iload 6, 2) := by decide +kernel
theorem dX12_pen_169 : decode cX12_pen 169 = .ok (.goto 5, 3) := by decide +kernel
theorem dX12_pen_172 : decode cX12_pen 172 = .ok (.iload 7, 2) := by decide +kernel
theorem dX12_pen_174 : decode cX12_pen 174 = .ok (.ireturn, 1) := by decide +kernel
set_option maxHeartbeats 4000000 in
set_option maxRecDepth 100000 in
theorem vlX12_whoseOf_4 (C : VC pr s m args meth c E A cX12_whoseOf 4 (some .int) RX12) (hA : va_A w0 s.heap.size = A) (a : Nat → Nat) (p : St) {Post : Int32 → Prop} {KX : Int32 → Prop} (hX : ∀ (x2 : Int32), KX x2 → V pr l e rmX12_whoseOf s m args below meth c E A 4 0 0 (MQ below (CQi E (fun (z : Int32) (_ : Unit) => Post z) (fun _ => (fl [bModel E a p])) w0 s.heap.size) args s 0 0 A) (fl [bModel E a p]) 53 [(2, .int x2)] []) : ∀ (n : Nat) (x1 : Int32) (x2 : Int32) (x3 : Int32), wLX12_whoseOf_4 p Post KX n (x1, x2, x3) → V pr l e rmX12_whoseOf s m args below meth c E A 4 0 0 (MQ below (CQi E (fun (z : Int32) (_ : Unit) => Post z) (fun _ => (fl [bModel E a p])) w0 s.heap.size) args s 0 0 A) (fl [bModel E a p]) 4 [(0, .ref (a 0)), (1, .int x1), (2, .int x2), (3, .int x3)] [] := by
  intro n
  induction n with
  | zero => intro x1 x2 x3 hw; exact absurd hw id
  | succ n hself =>
    intro x1 x2 x3 hw
    have hw : wlX12_whoseOf_4 p Post KX (wLX12_whoseOf_4 p Post KX n) x1 x2 x3 := hw
    refine v_iload_n (pc := 4) C 3 rfl rfl dX12_whoseOf_4 ?_
    refine v_bipush (pc := 5) C 12 kb_12 dX12_whoseOf_5 ?_
    refine v_aload_n (pc := 7) C 0 rfl rfl dX12_whoseOf_7 ?_
    refine v_get (pc := 8) C cfX12 rfl 0 4 rfl (by decide) wfX12_17 rfl dX12_whoseOf_8 ?_
    refine v_bipush (pc := 11) C 124 kb_124 dX12_whoseOf_11 ?_
    refine v_iald (pc := 13) C 2 rfl vi_124_126 tn_124 dX12_whoseOf_13 ?_
    refine v_imul (pc := 14) C dX12_whoseOf_14 ?_
    refine v_icmp_ge (pc := 15) C 53 (by decide) dX12_whoseOf_15 (fun hc => ?_) (fun hc => ?_)
    · have hw := hw.1 hc
      refine v_sub (lv' := [(2, .int x2)]) [2] rfl ?_
      exact hX x2 hw
    · have hw := hw.2 hc
      refine v_iload_n (pc := 18) C 2 rfl rfl dX12_whoseOf_18 ?_
      refine v_aload_n (pc := 19) C 0 rfl rfl dX12_whoseOf_19 ?_
      refine v_iload_n (pc := 20) C 3 rfl rfl dX12_whoseOf_20 ?_
      refine v_bipush (pc := 21) C 12 kb_12 dX12_whoseOf_21 ?_
      refine v_idiv (pc := 23) C (by decide) dX12_whoseOf_23 ?_
      refine v_iload_n (pc := 24) C 1 rfl rfl dX12_whoseOf_24 ?_
      refine v_iload_n (pc := 25) C 3 rfl rfl dX12_whoseOf_25 ?_
      refine v_bipush (pc := 26) C 12 kb_12 dX12_whoseOf_26 ?_
      refine v_irem (pc := 28) C (by decide) dX12_whoseOf_28 ?_
      refine v_goAi (pc := 29) C (wc' := (fun (_ : Unit) => (fl [bModel E a p]))) (fun _ => rfl) (v_runVA (pc := 29) C [.int (x3 / 12), .int x1, .int (x3 - x3 / 12 * 12)] [.int x2] (fun sz => ctX12_forceIn l E a (x3 / 12) x1 (x3 - x3 / 12 * 12) p hw sz) mfX12_forceIn mvX12_forceIn wmX12_184 rfl ⟨Nat.le_of_ble_eq_true rfl, Nat.le_of_ble_eq_true rfl⟩ ⟨rfl, rfl⟩ 0 (ci := 12) (qc := (RX12, TX12, 30)) rfl rfl rfl rfl (Nat.le_of_ble_eq_true rfl) ⟨Nat.zero_le _, Nat.zero_le _⟩ dX12_whoseOf_29) (fun r1 _ hw => ?_)
      refine v_if_le (pc := 32) C 44 (by decide) dX12_whoseOf_32 (fun hc => ?_) (fun hc => ?_)
      · have hw := hw.1 hc
        refine v_iconst (pc := 44) C 0 ki_0 dX12_whoseOf_44 ?_
        refine v_ior (pc := 45) C dX12_whoseOf_45 ?_
        refine v_topi (fun x2_2 ex => ?_)
        have hw := hw x2_2 ex
        refine v_istore_n (pc := 46) C [(2, .int x2_2), (0, .ref (a 0)), (1, .int x1), (3, .int x3)] rfl rfl (by decide) dX12_whoseOf_46 ?_
        obtain ⟨x3_3, ex⟩ : ∃ y : Int32, y = x3 + 1 := ⟨_, rfl⟩
        have hw := hw x3_3 ex
        refine v_iinc (pc := 47) C 3 rfl (by rw [ex, ki_1]) [(3, .int x3_3), (2, .int x2_2), (0, .ref (a 0)), (1, .int x1)] rfl (by decide) dX12_whoseOf_47 ?_
        refine v_goto (pc := 50) C 4 (by decide) dX12_whoseOf_50 ?_
        refine v_sub (lv' := [(0, .ref (a 0)), (1, .int x1), (2, .int x2_2), (3, .int x3_3)]) [2, 3, 1, 0] rfl ?_
        exact hself x1 x2_2 x3_3 hw
      · have hw := hw.2 hc
        refine v_iconst (pc := 35) C 1 ki_1 dX12_whoseOf_35 ?_
        refine v_iload_n (pc := 36) C 3 rfl rfl dX12_whoseOf_36 ?_
        refine v_bipush (pc := 37) C 12 kb_12 dX12_whoseOf_37 ?_
        refine v_idiv (pc := 39) C (by decide) dX12_whoseOf_39 ?_
        refine v_ishl (pc := 40) C dX12_whoseOf_40 ?_
        refine v_goto (pc := 41) C 45 (by decide) dX12_whoseOf_41 ?_
        refine v_ior (pc := 45) C dX12_whoseOf_45 ?_
        refine v_topi (fun x2_4 ex => ?_)
        have hw := hw x2_4 ex
        refine v_istore_n (pc := 46) C [(2, .int x2_4), (0, .ref (a 0)), (1, .int x1), (3, .int x3)] rfl rfl (by decide) dX12_whoseOf_46 ?_
        obtain ⟨x3_5, ex⟩ : ∃ y : Int32, y = x3 + 1 := ⟨_, rfl⟩
        have hw := hw x3_5 ex
        refine v_iinc (pc := 47) C 3 rfl (by rw [ex, ki_1]) [(3, .int x3_5), (2, .int x2_4), (0, .ref (a 0)), (1, .int x1)] rfl (by decide) dX12_whoseOf_47 ?_
        refine v_goto (pc := 50) C 4 (by decide) dX12_whoseOf_50 ?_
        refine v_sub (lv' := [(0, .ref (a 0)), (1, .int x1), (2, .int x2_4), (3, .int x3_5)]) [2, 3, 1, 0] rfl ?_
        exact hself x1 x2_4 x3_5 hw
set_option maxHeartbeats 4000000 in
set_option maxRecDepth 100000 in
theorem ctX12_whoseOf (l : Launch) (E : VE) (a : Nat → Nat) (x1 : Int32) (p : St)  {Post : Int32 → Prop} (hw : wpX12_whoseOf x1 p Post) (sz : Nat) : Met l yX12_whoseOf (mW yX12_whoseOf cX12_whoseOf 4 (some .int)) rmX12_whoseOf (CPre E [.ref (a 0), .int x1] sz (fl [bModel E a p])) (CQi E (fun (z : Int32) (_ : Unit) => Post z) (fun _ => (fl [bModel E a p])) (fl [bModel E a p]) sz) 0 0 (va_A (fl [bModel E a p]) sz) := by
  refine v_met (by decide) (Nat.le_of_ble_eq_true rfl) ?_
  intro pr e s m below meth c A hsz hA C
  subst hsz
  refine v_iconst (pc := 0) C 0 ki_0 dX12_whoseOf_0 ?_
  refine v_istore_n (pc := 1) C [(2, .int 0), (0, .ref (a 0)), (1, .int x1)] rfl rfl (by decide) dX12_whoseOf_1 ?_
  refine v_iconst (pc := 2) C 0 ki_0 dX12_whoseOf_2 ?_
  refine v_istore_n (pc := 3) C [(3, .int 0), (2, .int 0), (0, .ref (a 0)), (1, .int x1)] rfl rfl (by decide) dX12_whoseOf_3 ?_
  obtain ⟨n, hw⟩ := hw
  refine v_sub (lv' := [(0, .ref (a 0)), (1, .int x1), (2, .int 0), (3, .int 0)]) [2, 3, 1, 0] rfl ?_
  refine vlX12_whoseOf_4 C hA a p (fun y6 hw => ?_) n x1 0 0 hw
  refine v_iload_n (pc := 53) C 0 rfl rfl dX12_whoseOf_53 ?_
  exact v_ireti (pc := 54) C () hA rfl hw dX12_whoseOf_54
set_option maxHeartbeats 4000000 in
set_option maxRecDepth 100000 in
theorem ctX12_whose (l : Launch) (E : VE) (a : Nat → Nat) (x1 : Int32) (p : St)  {Post : Int32 → St → Prop} (hw : wpX12_whose x1 p Post) (sz : Nat) : Met l yX12_whose (mW yX12_whose cX12_whose 2 (some .int)) rmX12_whose (CPre E [.ref (a 0), .int x1] sz (fl [bModel E a p])) (CQi E Post (fun u => (fl [bModel E a u])) (fl [bModel E a p]) sz) 0 0 (va_A (fl [bModel E a p]) sz) := by
  refine v_met (by decide) (Nat.le_of_ble_eq_true rfl) ?_
  intro pr e s m below meth c A hsz hA C
  subst hsz
  refine v_aload_n (pc := 0) C 0 rfl rfl dX12_whose_0 ?_
  refine v_iload_n (pc := 1) C 1 rfl rfl dX12_whose_1 ?_
  refine v_goAi (pc := 2) C (wc' := (fun (_ : Unit) => (fl [bModel E a p]))) (fun _ => rfl) (v_runVA (pc := 2) C [.int x1] [] (fun sz => ctX12_isSheet l E a x1 p hw sz) mfX12_isSheet mvX12_isSheet wmX12_172 rfl ⟨Nat.le_of_ble_eq_true rfl, Nat.le_of_ble_eq_true rfl⟩ ⟨rfl, rfl⟩ 0 (ci := 12) (qc := (RX12, TX12, 30)) rfl rfl rfl rfl (Nat.le_of_ble_eq_true rfl) ⟨Nat.zero_le _, Nat.zero_le _⟩ dX12_whose_2) (fun r1 _ hw => ?_)
  refine v_if_eq (pc := 5) C 16 (by decide) dX12_whose_5 (fun hc => ?_) (fun hc => ?_)
  · have hw := hw.1 hc
    refine v_aload_n (pc := 16) C 0 rfl rfl dX12_whose_16 ?_
    refine v_goAi (pc := 17) C (wc' := (fun (u : St) => (fl [bModel E a u]))) (fun _ => rfl) (v_runVA (pc := 17) C [] [] (fun sz => ctX12_bad l E a p hw sz) mfX12_bad mvX12_bad wmX12_75 rfl ⟨Nat.le_of_ble_eq_true rfl, Nat.le_of_ble_eq_true rfl⟩ ⟨rfl, rfl⟩ 0 (ci := 12) (qc := (RX12, TX12, 30)) rfl rfl rfl rfl (Nat.le_of_ble_eq_true rfl) ⟨Nat.zero_le _, Nat.zero_le _⟩ dX12_whose_17) (fun r2 p3 hw => ?_)
    exact v_ireti (pc := 20) C p3 hA rfl hw dX12_whose_20
  · have hw := hw.2 hc
    refine v_aload_n (pc := 8) C 0 rfl rfl dX12_whose_8 ?_
    refine v_iload_n (pc := 9) C 1 rfl rfl dX12_whose_9 ?_
    refine v_goAi (pc := 10) C (wc' := (fun (_ : Unit) => (fl [bModel E a p]))) (fun _ => rfl) (v_runVA (pc := 10) C [.int x1] [] (fun sz => ctX12_whoseOf l E a x1 p hw sz) mfX12_whoseOf mvX12_whoseOf wmX12_187 rfl ⟨Nat.le_of_ble_eq_true rfl, Nat.le_of_ble_eq_true rfl⟩ ⟨rfl, rfl⟩ 0 (ci := 12) (qc := (RX12, TX12, 30)) rfl rfl rfl rfl (Nat.le_of_ble_eq_true rfl) ⟨Nat.zero_le _, Nat.zero_le _⟩ dX12_whose_10) (fun r4 _ hw => ?_)
    refine v_goto (pc := 13) C 20 (by decide) dX12_whose_13 ?_
    exact v_ireti (pc := 20) C p hA rfl hw dX12_whose_20
set_option maxHeartbeats 4000000 in
set_option maxRecDepth 100000 in
theorem vjX12_own_27 (C : VC pr s m args meth c E A cX12_own 7 (some .int) RX12) (hA : va_A w0 s.heap.size = A) (a : Nat → Nat)  {Post : Int32 → St → Prop} (p : St) (hw : wjX12_own_27  Post p) : V pr l e rmX12_own s m args below meth c E A 7 0 0 (MQ below (CQi E Post (fun u => (fl [bModel E a u])) w0 s.heap.size) args s 0 0 A) (fl [bModel E a p]) 27 [(0, .ref (a 0))] [] := by
  refine v_aload_n (pc := 27) C 0 rfl rfl dX12_own_27 ?_
  refine v_goAi (pc := 28) C (wc' := (fun (u : St) => (fl [bModel E a u]))) (fun _ => rfl) (v_runVA (pc := 28) C [] [] (fun sz => ctX12_bad l E a p hw sz) mfX12_bad mvX12_bad wmX12_75 rfl ⟨Nat.le_of_ble_eq_true rfl, Nat.le_of_ble_eq_true rfl⟩ ⟨rfl, rfl⟩ 0 (ci := 12) (qc := (RX12, TX12, 30)) rfl rfl rfl rfl (Nat.le_of_ble_eq_true rfl) ⟨Nat.zero_le _, Nat.zero_le _⟩ dX12_own_28) (fun r2 p3 hw => ?_)
  exact v_ireti (pc := 31) C p3 hA rfl hw dX12_own_31
set_option maxHeartbeats 4000000 in
set_option maxRecDepth 100000 in
theorem vlX12_own_65 (C : VC pr s m args meth c E A cX12_own 7 (some .int) RX12) (hA : va_A w0 s.heap.size = A) (a : Nat → Nat)  {Post : Int32 → St → Prop} {KX : Int32 → Int32 → Int32 → Int32 → Int32 → St → Prop} (hX : ∀ (x1 : Int32) (x2 : Int32) (x3 : Int32) (x4 : Int32) (x5 : Int32) (p : St), KX x1 x2 x3 x4 x5 p → V pr l e rmX12_own s m args below meth c E A 7 0 0 (MQ below (CQi E Post (fun u => (fl [bModel E a u])) w0 s.heap.size) args s 0 0 A) (fl [bModel E a p]) 113 [(0, .ref (a 0)), (1, .int x1), (2, .int x2), (3, .int x3), (4, .int x4), (5, .int x5)] []) : ∀ (n : Nat) (x1 : Int32) (x2 : Int32) (x3 : Int32) (x4 : Int32) (x5 : Int32) (x6 : Int32) (p : St), wLX12_own_65  Post KX n (x1, x2, x3, x4, x5, x6, p) → V pr l e rmX12_own s m args below meth c E A 7 0 0 (MQ below (CQi E Post (fun u => (fl [bModel E a u])) w0 s.heap.size) args s 0 0 A) (fl [bModel E a p]) 65 [(0, .ref (a 0)), (1, .int x1), (2, .int x2), (3, .int x3), (4, .int x4), (5, .int x5), (6, .int x6)] [] := by
  intro n
  induction n with
  | zero => intro x1 x2 x3 x4 x5 x6 p hw; exact absurd hw id
  | succ n hself =>
    intro x1 x2 x3 x4 x5 x6 p hw
    have hw : wlX12_own_65  Post KX (wLX12_own_65  Post KX n) x1 x2 x3 x4 x5 x6 p := hw
    refine v_iload (pc := 65) C 6 rfl dX12_own_65 ?_
    refine v_aload_n (pc := 67) C 0 rfl rfl dX12_own_67 ?_
    refine v_get (pc := 68) C cfX12 rfl 0 4 rfl (by decide) wfX12_17 rfl dX12_own_68 ?_
    refine v_bipush (pc := 71) C 124 kb_124 dX12_own_71 ?_
    refine v_iald (pc := 73) C 2 rfl vi_124_126 tn_124 dX12_own_73 ?_
    refine v_icmp_ge (pc := 74) C 113 (by decide) dX12_own_74 (fun hc => ?_) (fun hc => ?_)
    · have hw := hw.1 hc
      refine v_sub (lv' := [(0, .ref (a 0)), (1, .int x1), (2, .int x2), (3, .int x3), (4, .int x4), (5, .int x5)]) [0, 1, 2, 3, 4, 5] rfl ?_
      exact hX x1 x2 x3 x4 x5 p hw
    · have hw := hw.2 hc
      refine v_iload (pc := 77) C 5 rfl dX12_own_77 ?_
      refine v_if_eq (pc := 79) C 104 (by decide) dX12_own_79 (fun hc => ?_) (fun hc => ?_)
      · have hw := hw.1 hc
        refine v_iconst (pc := 104) C 0 ki_0 dX12_own_104 ?_
        refine v_istore (pc := 105) C [(5, .int 0), (0, .ref (a 0)), (1, .int x1), (2, .int x2), (3, .int x3), (4, .int x4), (6, .int x6)] rfl (by decide) dX12_own_105 ?_
        obtain ⟨x6_6, ex⟩ : ∃ y : Int32, y = x6 + 1 := ⟨_, rfl⟩
        have hw := hw x6_6 ex
        refine v_iinc (pc := 107) C 6 rfl (by rw [ex, ki_1]) [(6, .int x6_6), (5, .int 0), (0, .ref (a 0)), (1, .int x1), (2, .int x2), (3, .int x3), (4, .int x4)] rfl (by decide) dX12_own_107 ?_
        refine v_goto (pc := 110) C 65 (by decide) dX12_own_110 ?_
        refine v_sub (lv' := [(0, .ref (a 0)), (1, .int x1), (2, .int x2), (3, .int x3), (4, .int x4), (5, .int 0), (6, .int x6_6)]) [2, 3, 4, 5, 6, 1, 0] rfl ?_
        exact hself x1 x2 x3 x4 0 x6_6 p hw
      · have hw := hw.2 hc
        refine v_iload (pc := 82) C 6 rfl dX12_own_82 ?_
        refine v_iload_n (pc := 84) C 1 rfl rfl dX12_own_84 ?_
        refine v_icmp_eq (pc := 85) C 100 (by decide) dX12_own_85 (fun hc => ?_) (fun hc => ?_)
        · have hw := hw.1 hc
          refine v_iconst (pc := 100) C 1 ki_1 dX12_own_100 ?_
          refine v_goto (pc := 101) C 105 (by decide) dX12_own_101 ?_
          refine v_istore (pc := 105) C [(5, .int 1), (0, .ref (a 0)), (1, .int x1), (2, .int x2), (3, .int x3), (4, .int x4), (6, .int x6)] rfl (by decide) dX12_own_105 ?_
          obtain ⟨x6_7, ex⟩ : ∃ y : Int32, y = x6 + 1 := ⟨_, rfl⟩
          have hw := hw x6_7 ex
          refine v_iinc (pc := 107) C 6 rfl (by rw [ex, ki_1]) [(6, .int x6_7), (5, .int 1), (0, .ref (a 0)), (1, .int x1), (2, .int x2), (3, .int x3), (4, .int x4)] rfl (by decide) dX12_own_107 ?_
          refine v_goto (pc := 110) C 65 (by decide) dX12_own_110 ?_
          refine v_sub (lv' := [(0, .ref (a 0)), (1, .int x1), (2, .int x2), (3, .int x3), (4, .int x4), (5, .int 1), (6, .int x6_7)]) [2, 3, 4, 5, 6, 1, 0] rfl ?_
          exact hself x1 x2 x3 x4 1 x6_7 p hw
        · have hw := hw.2 hc
          refine v_aload_n (pc := 88) C 0 rfl rfl dX12_own_88 ?_
          refine v_iload (pc := 89) C 6 rfl dX12_own_89 ?_
          refine v_iload_n (pc := 91) C 2 rfl rfl dX12_own_91 ?_
          refine v_iload (pc := 92) C 4 rfl dX12_own_92 ?_
          refine v_goAi (pc := 94) C (wc' := (fun (_ : Unit) => (fl [bModel E a p]))) (fun _ => rfl) (v_runVA (pc := 94) C [.int x6, .int x2, .int x4] [] (fun sz => ctX12_forceIn l E a x6 x2 x4 p hw sz) mfX12_forceIn mvX12_forceIn wmX12_184 rfl ⟨Nat.le_of_ble_eq_true rfl, Nat.le_of_ble_eq_true rfl⟩ ⟨rfl, rfl⟩ 0 (ci := 12) (qc := (RX12, TX12, 30)) rfl rfl rfl rfl (Nat.le_of_ble_eq_true rfl) ⟨Nat.zero_le _, Nat.zero_le _⟩ dX12_own_94) (fun r8 _ hw => ?_)
          refine v_if_ne (pc := 97) C 104 (by decide) dX12_own_97 (fun hc => ?_) (fun hc => ?_)
          · have hw := hw.1 hc
            refine v_iconst (pc := 104) C 0 ki_0 dX12_own_104 ?_
            refine v_istore (pc := 105) C [(5, .int 0), (0, .ref (a 0)), (1, .int x1), (2, .int x2), (3, .int x3), (4, .int x4), (6, .int x6)] rfl (by decide) dX12_own_105 ?_
            obtain ⟨x6_9, ex⟩ : ∃ y : Int32, y = x6 + 1 := ⟨_, rfl⟩
            have hw := hw x6_9 ex
            refine v_iinc (pc := 107) C 6 rfl (by rw [ex, ki_1]) [(6, .int x6_9), (5, .int 0), (0, .ref (a 0)), (1, .int x1), (2, .int x2), (3, .int x3), (4, .int x4)] rfl (by decide) dX12_own_107 ?_
            refine v_goto (pc := 110) C 65 (by decide) dX12_own_110 ?_
            refine v_sub (lv' := [(0, .ref (a 0)), (1, .int x1), (2, .int x2), (3, .int x3), (4, .int x4), (5, .int 0), (6, .int x6_9)]) [2, 3, 4, 5, 6, 1, 0] rfl ?_
            exact hself x1 x2 x3 x4 0 x6_9 p hw
          · have hw := hw.2 hc
            refine v_iconst (pc := 100) C 1 ki_1 dX12_own_100 ?_
            refine v_goto (pc := 101) C 105 (by decide) dX12_own_101 ?_
            refine v_istore (pc := 105) C [(5, .int 1), (0, .ref (a 0)), (1, .int x1), (2, .int x2), (3, .int x3), (4, .int x4), (6, .int x6)] rfl (by decide) dX12_own_105 ?_
            obtain ⟨x6_10, ex⟩ : ∃ y : Int32, y = x6 + 1 := ⟨_, rfl⟩
            have hw := hw x6_10 ex
            refine v_iinc (pc := 107) C 6 rfl (by rw [ex, ki_1]) [(6, .int x6_10), (5, .int 1), (0, .ref (a 0)), (1, .int x1), (2, .int x2), (3, .int x3), (4, .int x4)] rfl (by decide) dX12_own_107 ?_
            refine v_goto (pc := 110) C 65 (by decide) dX12_own_110 ?_
            refine v_sub (lv' := [(0, .ref (a 0)), (1, .int x1), (2, .int x2), (3, .int x3), (4, .int x4), (5, .int 1), (6, .int x6_10)]) [2, 3, 4, 5, 6, 1, 0] rfl ?_
            exact hself x1 x2 x3 x4 1 x6_10 p hw
set_option maxHeartbeats 4000000 in
set_option maxRecDepth 100000 in
theorem vlX12_own_37 (C : VC pr s m args meth c E A cX12_own 7 (some .int) RX12) (hA : va_A w0 s.heap.size = A) (a : Nat → Nat)  {Post : Int32 → St → Prop} {KX : Int32 → St → Prop} (hX : ∀ (x3 : Int32) (p : St), KX x3 p → V pr l e rmX12_own s m args below meth c E A 7 0 0 (MQ below (CQi E Post (fun u => (fl [bModel E a u])) w0 s.heap.size) args s 0 0 A) (fl [bModel E a p]) 135 [(3, .int x3)] []) : ∀ (n : Nat) (x1 : Int32) (x2 : Int32) (x3 : Int32) (x4 : Int32) (p : St), wLX12_own_37  Post KX n (x1, x2, x3, x4, p) → V pr l e rmX12_own s m args below meth c E A 7 0 0 (MQ below (CQi E Post (fun u => (fl [bModel E a u])) w0 s.heap.size) args s 0 0 A) (fl [bModel E a p]) 37 [(0, .ref (a 0)), (1, .int x1), (2, .int x2), (3, .int x3), (4, .int x4)] [] := by
  intro n
  induction n with
  | zero => intro x1 x2 x3 x4 p hw; exact absurd hw id
  | succ n hself =>
    intro x1 x2 x3 x4 p hw
    have hw : wlX12_own_37  Post KX (wLX12_own_37  Post KX n) x1 x2 x3 x4 p := hw
    refine v_iload (pc := 37) C 4 rfl dX12_own_37 ?_
    refine v_bipush (pc := 39) C 12 kb_12 dX12_own_39 ?_
    refine v_icmp_ge (pc := 41) C 135 (by decide) dX12_own_41 (fun hc => ?_) (fun hc => ?_)
    · have hw := hw.1 hc
      refine v_sub (lv' := [(3, .int x3)]) [3] rfl ?_
      exact hX x3 p hw
    · have hw := hw.2 hc
      refine v_aload_n (pc := 44) C 0 rfl rfl dX12_own_44 ?_
      refine v_iload_n (pc := 45) C 1 rfl rfl dX12_own_45 ?_
      refine v_iload_n (pc := 46) C 2 rfl rfl dX12_own_46 ?_
      refine v_iload (pc := 47) C 4 rfl dX12_own_47 ?_
      refine v_goAi (pc := 49) C (wc' := (fun (_ : Unit) => (fl [bModel E a p]))) (fun _ => rfl) (v_runVA (pc := 49) C [.int x1, .int x2, .int x4] [] (fun sz => ctX12_forceIn l E a x1 x2 x4 p hw sz) mfX12_forceIn mvX12_forceIn wmX12_184 rfl ⟨Nat.le_of_ble_eq_true rfl, Nat.le_of_ble_eq_true rfl⟩ ⟨rfl, rfl⟩ 0 (ci := 12) (qc := (RX12, TX12, 30)) rfl rfl rfl rfl (Nat.le_of_ble_eq_true rfl) ⟨Nat.zero_le _, Nat.zero_le _⟩ dX12_own_49) (fun r5 _ hw => ?_)
      refine v_if_le (pc := 52) C 59 (by decide) dX12_own_52 (fun hc => ?_) (fun hc => ?_)
      · have hw := hw.1 hc
        refine v_iconst (pc := 59) C 0 ki_0 dX12_own_59 ?_
        refine v_istore (pc := 60) C [(5, .int 0), (0, .ref (a 0)), (1, .int x1), (2, .int x2), (3, .int x3), (4, .int x4)] rfl (by decide) dX12_own_60 ?_
        refine v_iconst (pc := 62) C 0 ki_0 dX12_own_62 ?_
        refine v_istore (pc := 63) C [(6, .int 0), (5, .int 0), (0, .ref (a 0)), (1, .int x1), (2, .int x2), (3, .int x3), (4, .int x4)] rfl (by decide) dX12_own_63 ?_
        obtain ⟨n, hw⟩ := hw
        refine v_sub (lv' := [(0, .ref (a 0)), (1, .int x1), (2, .int x2), (3, .int x3), (4, .int x4), (5, .int 0), (6, .int 0)]) [2, 3, 4, 5, 6, 1, 0] rfl ?_
        refine vlX12_own_65 C hA a  (fun y11 y12 y13 y14 y15 p16 hw => ?_) n x1 x2 x3 x4 0 0 p hw
        refine v_iload_n (pc := 113) C 3 rfl rfl dX12_own_113 ?_
        refine v_iload (pc := 114) C 5 rfl dX12_own_114 ?_
        refine v_if_eq (pc := 116) C 126 (by decide) dX12_own_116 (fun hc => ?_) (fun hc => ?_)
        · have hw := hw.1 hc
          refine v_iconst (pc := 126) C 0 ki_0 dX12_own_126 ?_
          refine v_ior (pc := 127) C dX12_own_127 ?_
          refine v_topi (fun x3_17 ex => ?_)
          have hw := hw x3_17 ex
          refine v_istore_n (pc := 128) C [(3, .int x3_17), (0, .ref (a 0)), (1, .int y11), (2, .int y12), (4, .int y14), (5, .int y15)] rfl rfl (by decide) dX12_own_128 ?_
          obtain ⟨x4_18, ex⟩ : ∃ y : Int32, y = y14 + 1 := ⟨_, rfl⟩
          have hw := hw x4_18 ex
          refine v_iinc (pc := 129) C 4 rfl (by rw [ex, ki_1]) [(4, .int x4_18), (3, .int x3_17), (0, .ref (a 0)), (1, .int y11), (2, .int y12), (5, .int y15)] rfl (by decide) dX12_own_129 ?_
          refine v_goto (pc := 132) C 37 (by decide) dX12_own_132 ?_
          refine v_sub (lv' := [(0, .ref (a 0)), (1, .int y11), (2, .int y12), (3, .int x3_17), (4, .int x4_18)]) [2, 3, 4, 1, 0] rfl ?_
          exact hself y11 y12 x3_17 x4_18 p16 hw
        · have hw := hw.2 hc
          refine v_iconst (pc := 119) C 1 ki_1 dX12_own_119 ?_
          refine v_iload (pc := 120) C 4 rfl dX12_own_120 ?_
          refine v_ishl (pc := 122) C dX12_own_122 ?_
          refine v_goto (pc := 123) C 127 (by decide) dX12_own_123 ?_
          refine v_ior (pc := 127) C dX12_own_127 ?_
          refine v_topi (fun x3_19 ex => ?_)
          have hw := hw x3_19 ex
          refine v_istore_n (pc := 128) C [(3, .int x3_19), (0, .ref (a 0)), (1, .int y11), (2, .int y12), (4, .int y14), (5, .int y15)] rfl rfl (by decide) dX12_own_128 ?_
          obtain ⟨x4_20, ex⟩ : ∃ y : Int32, y = y14 + 1 := ⟨_, rfl⟩
          have hw := hw x4_20 ex
          refine v_iinc (pc := 129) C 4 rfl (by rw [ex, ki_1]) [(4, .int x4_20), (3, .int x3_19), (0, .ref (a 0)), (1, .int y11), (2, .int y12), (5, .int y15)] rfl (by decide) dX12_own_129 ?_
          refine v_goto (pc := 132) C 37 (by decide) dX12_own_132 ?_
          refine v_sub (lv' := [(0, .ref (a 0)), (1, .int y11), (2, .int y12), (3, .int x3_19), (4, .int x4_20)]) [2, 3, 4, 1, 0] rfl ?_
          exact hself y11 y12 x3_19 x4_20 p16 hw
      · have hw := hw.2 hc
        refine v_iconst (pc := 55) C 1 ki_1 dX12_own_55 ?_
        refine v_goto (pc := 56) C 60 (by decide) dX12_own_56 ?_
        refine v_istore (pc := 60) C [(5, .int 1), (0, .ref (a 0)), (1, .int x1), (2, .int x2), (3, .int x3), (4, .int x4)] rfl (by decide) dX12_own_60 ?_
        refine v_iconst (pc := 62) C 0 ki_0 dX12_own_62 ?_
        refine v_istore (pc := 63) C [(6, .int 0), (5, .int 1), (0, .ref (a 0)), (1, .int x1), (2, .int x2), (3, .int x3), (4, .int x4)] rfl (by decide) dX12_own_63 ?_
        obtain ⟨n, hw⟩ := hw
        refine v_sub (lv' := [(0, .ref (a 0)), (1, .int x1), (2, .int x2), (3, .int x3), (4, .int x4), (5, .int 1), (6, .int 0)]) [2, 3, 4, 5, 6, 1, 0] rfl ?_
        refine vlX12_own_65 C hA a  (fun y21 y22 y23 y24 y25 p26 hw => ?_) n x1 x2 x3 x4 1 0 p hw
        refine v_iload_n (pc := 113) C 3 rfl rfl dX12_own_113 ?_
        refine v_iload (pc := 114) C 5 rfl dX12_own_114 ?_
        refine v_if_eq (pc := 116) C 126 (by decide) dX12_own_116 (fun hc => ?_) (fun hc => ?_)
        · have hw := hw.1 hc
          refine v_iconst (pc := 126) C 0 ki_0 dX12_own_126 ?_
          refine v_ior (pc := 127) C dX12_own_127 ?_
          refine v_topi (fun x3_27 ex => ?_)
          have hw := hw x3_27 ex
          refine v_istore_n (pc := 128) C [(3, .int x3_27), (0, .ref (a 0)), (1, .int y21), (2, .int y22), (4, .int y24), (5, .int y25)] rfl rfl (by decide) dX12_own_128 ?_
          obtain ⟨x4_28, ex⟩ : ∃ y : Int32, y = y24 + 1 := ⟨_, rfl⟩
          have hw := hw x4_28 ex
          refine v_iinc (pc := 129) C 4 rfl (by rw [ex, ki_1]) [(4, .int x4_28), (3, .int x3_27), (0, .ref (a 0)), (1, .int y21), (2, .int y22), (5, .int y25)] rfl (by decide) dX12_own_129 ?_
          refine v_goto (pc := 132) C 37 (by decide) dX12_own_132 ?_
          refine v_sub (lv' := [(0, .ref (a 0)), (1, .int y21), (2, .int y22), (3, .int x3_27), (4, .int x4_28)]) [2, 3, 4, 1, 0] rfl ?_
          exact hself y21 y22 x3_27 x4_28 p26 hw
        · have hw := hw.2 hc
          refine v_iconst (pc := 119) C 1 ki_1 dX12_own_119 ?_
          refine v_iload (pc := 120) C 4 rfl dX12_own_120 ?_
          refine v_ishl (pc := 122) C dX12_own_122 ?_
          refine v_goto (pc := 123) C 127 (by decide) dX12_own_123 ?_
          refine v_ior (pc := 127) C dX12_own_127 ?_
          refine v_topi (fun x3_29 ex => ?_)
          have hw := hw x3_29 ex
          refine v_istore_n (pc := 128) C [(3, .int x3_29), (0, .ref (a 0)), (1, .int y21), (2, .int y22), (4, .int y24), (5, .int y25)] rfl rfl (by decide) dX12_own_128 ?_
          obtain ⟨x4_30, ex⟩ : ∃ y : Int32, y = y24 + 1 := ⟨_, rfl⟩
          have hw := hw x4_30 ex
          refine v_iinc (pc := 129) C 4 rfl (by rw [ex, ki_1]) [(4, .int x4_30), (3, .int x3_29), (0, .ref (a 0)), (1, .int y21), (2, .int y22), (5, .int y25)] rfl (by decide) dX12_own_129 ?_
          refine v_goto (pc := 132) C 37 (by decide) dX12_own_132 ?_
          refine v_sub (lv' := [(0, .ref (a 0)), (1, .int y21), (2, .int y22), (3, .int x3_29), (4, .int x4_30)]) [2, 3, 4, 1, 0] rfl ?_
          exact hself y21 y22 x3_29 x4_30 p26 hw
set_option maxHeartbeats 4000000 in
set_option maxRecDepth 100000 in
theorem ctX12_own (l : Launch) (E : VE) (a : Nat → Nat) (x1 : Int32) (x2 : Int32) (p : St)  {Post : Int32 → St → Prop} (hw : wpX12_own x1 x2 p Post) (sz : Nat) : Met l yX12_own (mW yX12_own cX12_own 7 (some .int)) rmX12_own (CPre E [.ref (a 0), .int x1, .int x2] sz (fl [bModel E a p])) (CQi E Post (fun u => (fl [bModel E a u])) (fl [bModel E a p]) sz) 0 0 (va_A (fl [bModel E a p]) sz) := by
  refine v_met (by decide) (Nat.le_of_ble_eq_true rfl) ?_
  intro pr e s m below meth c A hsz hA C
  subst hsz
  refine v_iload_n (pc := 0) C 1 rfl rfl dX12_own_0 ?_
  refine v_i2l (pc := 1) C dX12_own_1 ?_
  refine v_lconst (pc := 2) C 0 kl_0 dX12_own_2 ?_
  refine v_aload_n (pc := 3) C 0 rfl rfl dX12_own_3 ?_
  refine v_get (pc := 4) C cfX12 rfl 0 4 rfl (by decide) wfX12_17 rfl dX12_own_4 ?_
  refine v_bipush (pc := 7) C 124 kb_124 dX12_own_7 ?_
  refine v_iald (pc := 9) C 2 rfl vi_124_126 tn_124 dX12_own_9 ?_
  refine v_iconst (pc := 10) C 1 ki_1 dX12_own_10 ?_
  refine v_isub (pc := 11) C dX12_own_11 ?_
  refine v_i2l (pc := 12) C dX12_own_12 ?_
  refine v_goBi (pc := 13) C (bs := [bModel E a p]) (cs := []) (cs' := (fun (_ : Unit) => [])) (bs' := (fun (_ : Unit) => [bModel E a p])) (w' := (fun (_ : Unit) => (fl [bModel E a p]))) [] rfl rfl (fun _ => rfl) (fun _ => rfl) (fun _ => rfl) (v_runSB (pc := 13) C [.long (x1.toInt64), .long 0, .long (((((p.A 4) 124) - 1)).toInt64)] [] (fun sz => ctX12_in l E (x1.toInt64) 0 (((((p.A 4) 124) - 1)).toInt64) hw sz) [] rfl rfl rfl mfX12_in msX12_in wmX12_56 rfl ⟨Nat.le_of_ble_eq_true rfl, Nat.le_of_ble_eq_true rfl⟩ ⟨rfl, rfl⟩ rfl (Nat.le_of_ble_eq_true rfl) ⟨Nat.zero_le _, Nat.zero_le _⟩ dX12_own_13) (fun r1 _ hw => ?_)
  refine v_if_eq (pc := 16) C 27 (by decide) dX12_own_16 (fun hc => ?_) (fun hc => ?_)
  · have hw := hw.1 hc
    refine v_sub (lv' := [(0, .ref (a 0))]) [0] rfl ?_
    exact vjX12_own_27 C hA a  p hw
  · have hw := hw.2 hc
    refine v_aload_n (pc := 19) C 0 rfl rfl dX12_own_19 ?_
    refine v_iload_n (pc := 20) C 2 rfl rfl dX12_own_20 ?_
    refine v_goAi (pc := 21) C (wc' := (fun (_ : Unit) => (fl [bModel E a p]))) (fun _ => rfl) (v_runVA (pc := 21) C [.int x2] [] (fun sz => ctX12_isSheet l E a x2 p hw sz) mfX12_isSheet mvX12_isSheet wmX12_172 rfl ⟨Nat.le_of_ble_eq_true rfl, Nat.le_of_ble_eq_true rfl⟩ ⟨rfl, rfl⟩ 0 (ci := 12) (qc := (RX12, TX12, 30)) rfl rfl rfl rfl (Nat.le_of_ble_eq_true rfl) ⟨Nat.zero_le _, Nat.zero_le _⟩ dX12_own_21) (fun r4 _ hw => ?_)
    refine v_if_ne (pc := 24) C 32 (by decide) dX12_own_24 (fun hc => ?_) (fun hc => ?_)
    · have hw := hw.1 hc
      refine v_iconst (pc := 32) C 0 ki_0 dX12_own_32 ?_
      refine v_istore_n (pc := 33) C [(3, .int 0), (0, .ref (a 0)), (1, .int x1), (2, .int x2)] rfl rfl (by decide) dX12_own_33 ?_
      refine v_iconst (pc := 34) C 0 ki_0 dX12_own_34 ?_
      refine v_istore (pc := 35) C [(4, .int 0), (3, .int 0), (0, .ref (a 0)), (1, .int x1), (2, .int x2)] rfl (by decide) dX12_own_35 ?_
      obtain ⟨n, hw⟩ := hw
      refine v_sub (lv' := [(0, .ref (a 0)), (1, .int x1), (2, .int x2), (3, .int 0), (4, .int 0)]) [2, 3, 4, 1, 0] rfl ?_
      refine vlX12_own_37 C hA a  (fun y31 p32 hw => ?_) n x1 x2 0 0 p hw
      refine v_iload_n (pc := 135) C 0 rfl rfl dX12_own_135 ?_
      exact v_ireti (pc := 136) C p32 hA rfl hw dX12_own_136
    · have hw := hw.2 hc
      refine v_sub (lv' := [(0, .ref (a 0))]) [0] rfl ?_
      exact vjX12_own_27 C hA a  p hw
set_option maxHeartbeats 4000000 in
set_option maxRecDepth 100000 in
theorem vjX12_shown_20 (C : VC pr s m args meth c E A cX12_shown 5 (some .int) RX12) (hA : va_A w0 s.heap.size = A) (a : Nat → Nat)  {Post : Int32 → St → Prop} (p : St) (hw : wjX12_shown_20  Post p) : V pr l e rmX12_shown s m args below meth c E A 5 0 0 (MQ below (CQi E Post (fun u => (fl [bModel E a u])) w0 s.heap.size) args s 0 0 A) (fl [bModel E a p]) 20 [(0, .ref (a 0))] [] := by
  refine v_aload_n (pc := 20) C 0 rfl rfl dX12_shown_20 ?_
  refine v_goAi (pc := 21) C (wc' := (fun (u : St) => (fl [bModel E a u]))) (fun _ => rfl) (v_runVA (pc := 21) C [] [] (fun sz => ctX12_bad l E a p hw sz) mfX12_bad mvX12_bad wmX12_75 rfl ⟨Nat.le_of_ble_eq_true rfl, Nat.le_of_ble_eq_true rfl⟩ ⟨rfl, rfl⟩ 0 (ci := 12) (qc := (RX12, TX12, 30)) rfl rfl rfl rfl (Nat.le_of_ble_eq_true rfl) ⟨Nat.zero_le _, Nat.zero_le _⟩ dX12_shown_21) (fun r2 p3 hw => ?_)
  exact v_ireti (pc := 24) C p3 hA rfl hw dX12_shown_24
set_option maxHeartbeats 4000000 in
set_option maxRecDepth 100000 in
theorem vlX12_shown_30 (C : VC pr s m args meth c E A cX12_shown 5 (some .int) RX12) (hA : va_A w0 s.heap.size = A) (a : Nat → Nat)  {Post : Int32 → St → Prop} {KX : Int32 → St → Prop} (hX : ∀ (x3 : Int32) (p : St), KX x3 p → V pr l e rmX12_shown s m args below meth c E A 5 0 0 (MQ below (CQi E Post (fun u => (fl [bModel E a u])) w0 s.heap.size) args s 0 0 A) (fl [bModel E a p]) 65 [(3, .int x3)] []) : ∀ (n : Nat) (x1 : Int32) (x2 : Int32) (x3 : Int32) (x4 : Int32) (p : St), wLX12_shown_30  Post KX n (x1, x2, x3, x4, p) → V pr l e rmX12_shown s m args below meth c E A 5 0 0 (MQ below (CQi E Post (fun u => (fl [bModel E a u])) w0 s.heap.size) args s 0 0 A) (fl [bModel E a p]) 30 [(0, .ref (a 0)), (1, .int x1), (2, .int x2), (3, .int x3), (4, .int x4)] [] := by
  intro n
  induction n with
  | zero => intro x1 x2 x3 x4 p hw; exact absurd hw id
  | succ n hself =>
    intro x1 x2 x3 x4 p hw
    have hw : wlX12_shown_30  Post KX (wLX12_shown_30  Post KX n) x1 x2 x3 x4 p := hw
    refine v_iload (pc := 30) C 4 rfl dX12_shown_30 ?_
    refine v_bipush (pc := 32) C 12 kb_12 dX12_shown_32 ?_
    refine v_icmp_ge (pc := 34) C 65 (by decide) dX12_shown_34 (fun hc => ?_) (fun hc => ?_)
    · have hw := hw.1 hc
      refine v_sub (lv' := [(3, .int x3)]) [3] rfl ?_
      exact hX x3 p hw
    · have hw := hw.2 hc
      refine v_iload_n (pc := 37) C 3 rfl rfl dX12_shown_37 ?_
      refine v_aload_n (pc := 38) C 0 rfl rfl dX12_shown_38 ?_
      refine v_iload_n (pc := 39) C 1 rfl rfl dX12_shown_39 ?_
      refine v_iload (pc := 40) C 4 rfl dX12_shown_40 ?_
      refine v_goAi (pc := 42) C (wc' := (fun (_ : Unit) => (fl [bModel E a p]))) (fun _ => rfl) (v_runVA (pc := 42) C [.int x1, .int x4] [.int x3] (fun sz => ctX12_dentOf l E a x1 x4 p hw sz) mfX12_dentOf mvX12_dentOf wmX12_181 rfl ⟨Nat.le_of_ble_eq_true rfl, Nat.le_of_ble_eq_true rfl⟩ ⟨rfl, rfl⟩ 0 (ci := 12) (qc := (RX12, TX12, 30)) rfl rfl rfl rfl (Nat.le_of_ble_eq_true rfl) ⟨Nat.zero_le _, Nat.zero_le _⟩ dX12_shown_42) (fun r5 _ hw => ?_)
      refine v_iload_n (pc := 45) C 2 rfl rfl dX12_shown_45 ?_
      refine v_icmp_lt (pc := 46) C 56 (by decide) dX12_shown_46 (fun hc => ?_) (fun hc => ?_)
      · have hw := hw.1 hc
        refine v_iconst (pc := 56) C 0 ki_0 dX12_shown_56 ?_
        refine v_ior (pc := 57) C dX12_shown_57 ?_
        refine v_topi (fun x3_6 ex => ?_)
        have hw := hw x3_6 ex
        refine v_istore_n (pc := 58) C [(3, .int x3_6), (0, .ref (a 0)), (1, .int x1), (2, .int x2), (4, .int x4)] rfl rfl (by decide) dX12_shown_58 ?_
        obtain ⟨x4_7, ex⟩ : ∃ y : Int32, y = x4 + 1 := ⟨_, rfl⟩
        have hw := hw x4_7 ex
        refine v_iinc (pc := 59) C 4 rfl (by rw [ex, ki_1]) [(4, .int x4_7), (3, .int x3_6), (0, .ref (a 0)), (1, .int x1), (2, .int x2)] rfl (by decide) dX12_shown_59 ?_
        refine v_goto (pc := 62) C 30 (by decide) dX12_shown_62 ?_
        refine v_sub (lv' := [(0, .ref (a 0)), (1, .int x1), (2, .int x2), (3, .int x3_6), (4, .int x4_7)]) [2, 3, 4, 1, 0] rfl ?_
        exact hself x1 x2 x3_6 x4_7 p hw
      · have hw := hw.2 hc
        refine v_iconst (pc := 49) C 1 ki_1 dX12_shown_49 ?_
        refine v_iload (pc := 50) C 4 rfl dX12_shown_50 ?_
        refine v_ishl (pc := 52) C dX12_shown_52 ?_
        refine v_goto (pc := 53) C 57 (by decide) dX12_shown_53 ?_
        refine v_ior (pc := 57) C dX12_shown_57 ?_
        refine v_topi (fun x3_8 ex => ?_)
        have hw := hw x3_8 ex
        refine v_istore_n (pc := 58) C [(3, .int x3_8), (0, .ref (a 0)), (1, .int x1), (2, .int x2), (4, .int x4)] rfl rfl (by decide) dX12_shown_58 ?_
        obtain ⟨x4_9, ex⟩ : ∃ y : Int32, y = x4 + 1 := ⟨_, rfl⟩
        have hw := hw x4_9 ex
        refine v_iinc (pc := 59) C 4 rfl (by rw [ex, ki_1]) [(4, .int x4_9), (3, .int x3_8), (0, .ref (a 0)), (1, .int x1), (2, .int x2)] rfl (by decide) dX12_shown_59 ?_
        refine v_goto (pc := 62) C 30 (by decide) dX12_shown_62 ?_
        refine v_sub (lv' := [(0, .ref (a 0)), (1, .int x1), (2, .int x2), (3, .int x3_8), (4, .int x4_9)]) [2, 3, 4, 1, 0] rfl ?_
        exact hself x1 x2 x3_8 x4_9 p hw
set_option maxHeartbeats 4000000 in
set_option maxRecDepth 100000 in
theorem ctX12_shown (l : Launch) (E : VE) (a : Nat → Nat) (x1 : Int32) (x2 : Int32) (p : St)  {Post : Int32 → St → Prop} (hw : wpX12_shown x1 x2 p Post) (sz : Nat) : Met l yX12_shown (mW yX12_shown cX12_shown 5 (some .int)) rmX12_shown (CPre E [.ref (a 0), .int x1, .int x2] sz (fl [bModel E a p])) (CQi E Post (fun u => (fl [bModel E a u])) (fl [bModel E a p]) sz) 0 0 (va_A (fl [bModel E a p]) sz) := by
  refine v_met (by decide) (Nat.le_of_ble_eq_true rfl) ?_
  intro pr e s m below meth c A hsz hA C
  subst hsz
  refine v_aload_n (pc := 0) C 0 rfl rfl dX12_shown_0 ?_
  refine v_iload_n (pc := 1) C 1 rfl rfl dX12_shown_1 ?_
  refine v_goAi (pc := 2) C (wc' := (fun (_ : Unit) => (fl [bModel E a p]))) (fun _ => rfl) (v_runVA (pc := 2) C [.int x1] [] (fun sz => ctX12_isSheet l E a x1 p hw sz) mfX12_isSheet mvX12_isSheet wmX12_172 rfl ⟨Nat.le_of_ble_eq_true rfl, Nat.le_of_ble_eq_true rfl⟩ ⟨rfl, rfl⟩ 0 (ci := 12) (qc := (RX12, TX12, 30)) rfl rfl rfl rfl (Nat.le_of_ble_eq_true rfl) ⟨Nat.zero_le _, Nat.zero_le _⟩ dX12_shown_2) (fun r1 _ hw => ?_)
  refine v_if_eq (pc := 5) C 20 (by decide) dX12_shown_5 (fun hc => ?_) (fun hc => ?_)
  · have hw := hw.1 hc
    refine v_sub (lv' := [(0, .ref (a 0))]) [0] rfl ?_
    exact vjX12_shown_20 C hA a  p hw
  · have hw := hw.2 hc
    refine v_iload_n (pc := 8) C 2 rfl rfl dX12_shown_8 ?_
    refine v_i2l (pc := 9) C dX12_shown_9 ?_
    refine v_lconst (pc := 10) C 1 kl_1 dX12_shown_10 ?_
    refine v_ldc2 (pc := 11) C 9 wlX12_62 dX12_shown_11 ?_
    refine v_goBi (pc := 14) C (bs := [bModel E a p]) (cs := []) (cs' := (fun (_ : Unit) => [])) (bs' := (fun (_ : Unit) => [bModel E a p])) (w' := (fun (_ : Unit) => (fl [bModel E a p]))) [] rfl rfl (fun _ => rfl) (fun _ => rfl) (fun _ => rfl) (v_runSB (pc := 14) C [.long (x2.toInt64), .long 1, .long 9] [] (fun sz => ctX12_in l E (x2.toInt64) 1 9 hw sz) [] rfl rfl rfl mfX12_in msX12_in wmX12_56 rfl ⟨Nat.le_of_ble_eq_true rfl, Nat.le_of_ble_eq_true rfl⟩ ⟨rfl, rfl⟩ rfl (Nat.le_of_ble_eq_true rfl) ⟨Nat.zero_le _, Nat.zero_le _⟩ dX12_shown_14) (fun r4 _ hw => ?_)
    refine v_if_ne (pc := 17) C 25 (by decide) dX12_shown_17 (fun hc => ?_) (fun hc => ?_)
    · have hw := hw.1 hc
      refine v_iconst (pc := 25) C 0 ki_0 dX12_shown_25 ?_
      refine v_istore_n (pc := 26) C [(3, .int 0), (0, .ref (a 0)), (1, .int x1), (2, .int x2)] rfl rfl (by decide) dX12_shown_26 ?_
      refine v_iconst (pc := 27) C 0 ki_0 dX12_shown_27 ?_
      refine v_istore (pc := 28) C [(4, .int 0), (3, .int 0), (0, .ref (a 0)), (1, .int x1), (2, .int x2)] rfl (by decide) dX12_shown_28 ?_
      obtain ⟨n, hw⟩ := hw
      refine v_sub (lv' := [(0, .ref (a 0)), (1, .int x1), (2, .int x2), (3, .int 0), (4, .int 0)]) [2, 3, 4, 1, 0] rfl ?_
      refine vlX12_shown_30 C hA a  (fun y10 p11 hw => ?_) n x1 x2 0 0 p hw
      refine v_iload_n (pc := 65) C 0 rfl rfl dX12_shown_65 ?_
      exact v_ireti (pc := 66) C p11 hA rfl hw dX12_shown_66
    · have hw := hw.2 hc
      refine v_sub (lv' := [(0, .ref (a 0))]) [0] rfl ?_
      exact vjX12_shown_20 C hA a  p hw
set_option maxHeartbeats 4000000 in
set_option maxRecDepth 100000 in
theorem vjX12_explained_39 (C : VC pr s m args meth c E A cX12_explained 7 (some .int) RX12) (hA : va_A w0 s.heap.size = A) (a : Nat → Nat) (p : St) {Post : Int32 → Prop} {self : (Int32 × Int32 × Int32 × Int32 × Int32) → Prop} {KX : Int32 → Prop} (x1 : Int32) (x2 : Int32) (x3 : Int32) (x4 : Int32) (x5 : Int32) (z0 : Int32) (hw : wjX12_explained_39 p Post self KX x1 x2 x3 x4 x5 z0) (hself : ∀ (x1 : Int32) (x2 : Int32) (x3 : Int32) (x4 : Int32) (x5 : Int32), self (x1, x2, x3, x4, x5) → V pr l e rmX12_explained s m args below meth c E A 7 0 0 (MQ below (CQi E (fun (z : Int32) (_ : Unit) => Post z) (fun _ => (fl [bModel E a p])) w0 s.heap.size) args s 0 0 A) (fl [bModel E a p]) 6 [(0, .ref (a 0)), (1, .int x1), (2, .int x2), (3, .int x3), (4, .int x4), (5, .int x5)] []) (hX : ∀ (x4 : Int32), KX x4 → V pr l e rmX12_explained s m args below meth c E A 7 0 0 (MQ below (CQi E (fun (z : Int32) (_ : Unit) => Post z) (fun _ => (fl [bModel E a p])) w0 s.heap.size) args s 0 0 A) (fl [bModel E a p]) 63 [(4, .int x4)] []) : V pr l e rmX12_explained s m args below meth c E A 7 0 0 (MQ below (CQi E (fun (z : Int32) (_ : Unit) => Post z) (fun _ => (fl [bModel E a p])) w0 s.heap.size) args s 0 0 A) (fl [bModel E a p]) 39 [(0, .ref (a 0)), (1, .int x1), (2, .int x2), (3, .int x3), (4, .int x4), (5, .int x5)] [.int z0] := by
  refine v_istore (pc := 39) C [(6, .int z0), (0, .ref (a 0)), (1, .int x1), (2, .int x2), (3, .int x3), (4, .int x4), (5, .int x5)] rfl (by decide) dX12_explained_39 ?_
  refine v_iload (pc := 41) C 0 rfl dX12_explained_41 ?_
  refine v_iload (pc := 43) C 5 rfl dX12_explained_43 ?_
  refine v_icmp_le (pc := 45) C 53 (by decide) dX12_explained_45 (fun hc => ?_) (fun hc => ?_)
  · have hw := hw.1 hc
    refine v_iload (pc := 53) C 5 rfl dX12_explained_53 ?_
    refine v_istore (pc := 55) C [(4, .int x4), (6, .int z0), (0, .ref (a 0)), (1, .int x1), (2, .int x2), (3, .int x3), (5, .int x5)] rfl (by decide) dX12_explained_55 ?_
    obtain ⟨x5_2, ex⟩ : ∃ y : Int32, y = x5 + 1 := ⟨_, rfl⟩
    have hw := hw x5_2 ex
    refine v_iinc (pc := 57) C 6 rfl (by rw [ex, ki_1]) [(5, .int x5_2), (4, .int x4), (6, .int z0), (0, .ref (a 0)), (1, .int x1), (2, .int x2), (3, .int x3)] rfl (by decide) dX12_explained_57 ?_
    refine v_goto (pc := 60) C 6 (by decide) dX12_explained_60 ?_
    refine v_sub (lv' := [(0, .ref (a 0)), (1, .int x1), (2, .int x2), (3, .int x3), (4, .int x4), (5, .int x5_2)]) [3, 4, 5, 6, 1, 0] rfl ?_
    exact hself x1 x2 x3 x4 x5_2 hw
  · have hw := hw.2 hc
    refine v_iload (pc := 48) C 0 rfl dX12_explained_48 ?_
    refine v_goto (pc := 50) C 55 (by decide) dX12_explained_50 ?_
    refine v_istore (pc := 55) C [(4, .int z0), (6, .int z0), (0, .ref (a 0)), (1, .int x1), (2, .int x2), (3, .int x3), (5, .int x5)] rfl (by decide) dX12_explained_55 ?_
    obtain ⟨x5_3, ex⟩ : ∃ y : Int32, y = x5 + 1 := ⟨_, rfl⟩
    have hw := hw x5_3 ex
    refine v_iinc (pc := 57) C 6 rfl (by rw [ex, ki_1]) [(5, .int x5_3), (4, .int z0), (6, .int z0), (0, .ref (a 0)), (1, .int x1), (2, .int x2), (3, .int x3)] rfl (by decide) dX12_explained_57 ?_
    refine v_goto (pc := 60) C 6 (by decide) dX12_explained_60 ?_
    refine v_sub (lv' := [(0, .ref (a 0)), (1, .int x1), (2, .int x2), (3, .int x3), (4, .int z0), (5, .int x5_3)]) [3, 4, 5, 6, 1, 0] rfl ?_
    exact hself x1 x2 x3 z0 x5_3 hw
set_option maxHeartbeats 4000000 in
set_option maxRecDepth 100000 in
theorem vlX12_explained_6 (C : VC pr s m args meth c E A cX12_explained 7 (some .int) RX12) (hA : va_A w0 s.heap.size = A) (a : Nat → Nat) (p : St) {Post : Int32 → Prop} {KX : Int32 → Prop} (hX : ∀ (x4 : Int32), KX x4 → V pr l e rmX12_explained s m args below meth c E A 7 0 0 (MQ below (CQi E (fun (z : Int32) (_ : Unit) => Post z) (fun _ => (fl [bModel E a p])) w0 s.heap.size) args s 0 0 A) (fl [bModel E a p]) 63 [(4, .int x4)] []) : ∀ (n : Nat) (x1 : Int32) (x2 : Int32) (x3 : Int32) (x4 : Int32) (x5 : Int32), wLX12_explained_6 p Post KX n (x1, x2, x3, x4, x5) → V pr l e rmX12_explained s m args below meth c E A 7 0 0 (MQ below (CQi E (fun (z : Int32) (_ : Unit) => Post z) (fun _ => (fl [bModel E a p])) w0 s.heap.size) args s 0 0 A) (fl [bModel E a p]) 6 [(0, .ref (a 0)), (1, .int x1), (2, .int x2), (3, .int x3), (4, .int x4), (5, .int x5)] [] := by
  intro n
  induction n with
  | zero => intro x1 x2 x3 x4 x5 hw; exact absurd hw id
  | succ n hself =>
    intro x1 x2 x3 x4 x5 hw
    have hw : wlX12_explained_6 p Post KX (wLX12_explained_6 p Post KX n) x1 x2 x3 x4 x5 := hw
    refine v_iload (pc := 6) C 5 rfl dX12_explained_6 ?_
    refine v_aload_n (pc := 8) C 0 rfl rfl dX12_explained_8 ?_
    refine v_get (pc := 9) C cfX12 rfl 0 4 rfl (by decide) wfX12_17 rfl dX12_explained_9 ?_
    refine v_bipush (pc := 12) C 124 kb_124 dX12_explained_12 ?_
    refine v_iald (pc := 14) C 2 rfl vi_124_126 tn_124 dX12_explained_14 ?_
    refine v_icmp_ge (pc := 15) C 63 (by decide) dX12_explained_15 (fun hc => ?_) (fun hc => ?_)
    · have hw := hw.1 hc
      refine v_sub (lv' := [(4, .int x4)]) [4] rfl ?_
      exact hX x4 hw
    · have hw := hw.2 hc
      refine v_iload_n (pc := 18) C 2 rfl rfl dX12_explained_18 ?_
      refine v_iload (pc := 19) C 5 rfl dX12_explained_19 ?_
      refine v_goBi (pc := 21) C (bs := [bModel E a p]) (cs := []) (cs' := (fun (_ : Unit) => [])) (bs' := (fun (_ : Unit) => [bModel E a p])) (w' := (fun (_ : Unit) => (fl [bModel E a p]))) [] rfl rfl (fun _ => rfl) (fun _ => rfl) (fun _ => rfl) (v_runSB (pc := 21) C [.int x2, .int x5] [] (fun sz => ctX12_has l E x2 x5 hw sz) [] rfl rfl rfl mfX12_has msX12_has wmX12_93 rfl ⟨Nat.le_of_ble_eq_true rfl, Nat.le_of_ble_eq_true rfl⟩ ⟨rfl, rfl⟩ rfl (Nat.le_of_ble_eq_true rfl) ⟨Nat.zero_le _, Nat.zero_le _⟩ dX12_explained_21) (fun r1 _ hw => ?_)
      refine v_if_eq (pc := 24) C 38 (by decide) dX12_explained_24 (fun hc => ?_) (fun hc => ?_)
      · have hw := hw.1 hc
        refine v_iconst (pc := 38) C 0 ki_0 dX12_explained_38 ?_
        refine v_sub (lv' := [(0, .ref (a 0)), (1, .int x1), (2, .int x2), (3, .int x3), (4, .int x4), (5, .int x5)]) [0, 1, 2, 3, 4, 5] rfl ?_
        exact vjX12_explained_39 C hA a p x1 x2 x3 x4 x5 0 hw hself hX
      · have hw := hw.2 hc
        refine v_aload_n (pc := 27) C 0 rfl rfl dX12_explained_27 ?_
        refine v_iload (pc := 28) C 5 rfl dX12_explained_28 ?_
        refine v_iload_n (pc := 30) C 1 rfl rfl dX12_explained_30 ?_
        refine v_iload_n (pc := 31) C 3 rfl rfl dX12_explained_31 ?_
        refine v_goAi (pc := 32) C (wc' := (fun (_ : Unit) => (fl [bModel E a p]))) (fun _ => rfl) (v_runVA (pc := 32) C [.int x5, .int x1, .int x3] [] (fun sz => ctX12_forceIn l E a x5 x1 x3 p hw sz) mfX12_forceIn mvX12_forceIn wmX12_184 rfl ⟨Nat.le_of_ble_eq_true rfl, Nat.le_of_ble_eq_true rfl⟩ ⟨rfl, rfl⟩ 0 (ci := 12) (qc := (RX12, TX12, 30)) rfl rfl rfl rfl (Nat.le_of_ble_eq_true rfl) ⟨Nat.zero_le _, Nat.zero_le _⟩ dX12_explained_32) (fun r4 _ hw => ?_)
        refine v_goto (pc := 35) C 39 (by decide) dX12_explained_35 ?_
        refine v_sub (lv' := [(0, .ref (a 0)), (1, .int x1), (2, .int x2), (3, .int x3), (4, .int x4), (5, .int x5)]) [0, 1, 2, 3, 4, 5] rfl ?_
        exact vjX12_explained_39 C hA a p x1 x2 x3 x4 x5 r4 hw hself hX
set_option maxHeartbeats 4000000 in
set_option maxRecDepth 100000 in
theorem ctX12_explained (l : Launch) (E : VE) (a : Nat → Nat) (x1 : Int32) (x2 : Int32) (x3 : Int32) (p : St)  {Post : Int32 → Prop} (hw : wpX12_explained x1 x2 x3 p Post) (sz : Nat) : Met l yX12_explained (mW yX12_explained cX12_explained 7 (some .int)) rmX12_explained (CPre E [.ref (a 0), .int x1, .int x2, .int x3] sz (fl [bModel E a p])) (CQi E (fun (z : Int32) (_ : Unit) => Post z) (fun _ => (fl [bModel E a p])) (fl [bModel E a p]) sz) 0 0 (va_A (fl [bModel E a p]) sz) := by
  refine v_met (by decide) (Nat.le_of_ble_eq_true rfl) ?_
  intro pr e s m below meth c A hsz hA C
  subst hsz
  refine v_iconst (pc := 0) C 0 ki_0 dX12_explained_0 ?_
  refine v_istore (pc := 1) C [(4, .int 0), (0, .ref (a 0)), (1, .int x1), (2, .int x2), (3, .int x3)] rfl (by decide) dX12_explained_1 ?_
  refine v_iconst (pc := 3) C 0 ki_0 dX12_explained_3 ?_
  refine v_istore (pc := 4) C [(5, .int 0), (4, .int 0), (0, .ref (a 0)), (1, .int x1), (2, .int x2), (3, .int x3)] rfl (by decide) dX12_explained_4 ?_
  obtain ⟨n, hw⟩ := hw
  refine v_sub (lv' := [(0, .ref (a 0)), (1, .int x1), (2, .int x2), (3, .int x3), (4, .int 0), (5, .int 0)]) [2, 3, 4, 5, 1, 0] rfl ?_
  refine vlX12_explained_6 C hA a p (fun y5 hw => ?_) n x1 x2 x3 0 0 hw
  refine v_iload (pc := 63) C 0 rfl dX12_explained_63 ?_
  exact v_ireti (pc := 65) C () hA rfl hw dX12_explained_65
set_option maxHeartbeats 4000000 in
set_option maxRecDepth 100000 in
theorem vjX12_isLost_125 (C : VC pr s m args meth c E A cX12_isLost 8 (some .boolean) RX12) (hA : va_A w0 s.heap.size = A) (a : Nat → Nat)  {Post : Int32 → St → Prop} {self : (Int32 × Int32 × Int32 × Int32 × Int32 × St) → Prop} {KX : Int32 → St → Prop} (x1 : Int32) (x2 : Int32) (x3 : Int32) (x4 : Int32) (x5 : Int32) (z0 : Int32) (z1 : Int32) (p : St) (hw : wjX12_isLost_125  Post self KX x1 x2 x3 x4 x5 z0 z1 p) (hself : ∀ (x1 : Int32) (x2 : Int32) (x3 : Int32) (x4 : Int32) (x5 : Int32) (p : St), self (x1, x2, x3, x4, x5, p) → V pr l e rmX12_isLost s m args below meth c E A 8 0 0 (MQ below (CQi E Post (fun u => (fl [bModel E a u])) w0 s.heap.size) args s 0 0 A) (fl [bModel E a p]) 24 [(0, .ref (a 0)), (1, .int x1), (2, .int x2), (3, .int x3), (4, .int x4), (5, .int x5)] []) (hX : ∀ (x4 : Int32) (p : St), KX x4 p → V pr l e rmX12_isLost s m args below meth c E A 8 0 0 (MQ below (CQi E Post (fun u => (fl [bModel E a u])) w0 s.heap.size) args s 0 0 A) (fl [bModel E a p]) 135 [(4, .int x4)] []) : V pr l e rmX12_isLost s m args below meth c E A 8 0 0 (MQ below (CQi E Post (fun u => (fl [bModel E a u])) w0 s.heap.size) args s 0 0 A) (fl [bModel E a p]) 125 [(0, .ref (a 0)), (1, .int x1), (2, .int x2), (3, .int x3), (4, .int x4), (5, .int x5)] [.int z0, .int z1, .ref (a 0)] := by
  refine v_ior (pc := 125) C dX12_isLost_125 ?_
  obtain ⟨p6, es⟩ : ∃ y : St, y = p.sI 22 (z1 ||| z0) := ⟨_, rfl⟩
  have hw := hw p6 es
  refine v_put (pc := 126) C cfX12 rfl 0 22 (ty := .int) (w' := (fl [bModel E a p6])) rfl (by subst es; rfl) (by decide) wfX12_193 rfl rfl rfl rfl (Nat.le_of_ble_eq_true rfl) dX12_isLost_126 ?_
  obtain ⟨x5_7, ex⟩ : ∃ y : Int32, y = x5 + 1 := ⟨_, rfl⟩
  have hw := hw x5_7 ex
  refine v_iinc (pc := 129) C 5 rfl (by rw [ex, ki_1]) [(5, .int x5_7), (0, .ref (a 0)), (1, .int x1), (2, .int x2), (3, .int x3), (4, .int x4)] rfl (by decide) dX12_isLost_129 ?_
  refine v_goto (pc := 132) C 24 (by decide) dX12_isLost_132 ?_
  refine v_sub (lv' := [(0, .ref (a 0)), (1, .int x1), (2, .int x2), (3, .int x3), (4, .int x4), (5, .int x5_7)]) [1, 2, 3, 4, 5, 0] rfl ?_
  exact hself x1 x2 x3 x4 x5_7 p6 hw
set_option maxHeartbeats 4000000 in
set_option maxRecDepth 100000 in
theorem vjX12_isLost_117 (C : VC pr s m args meth c E A cX12_isLost 8 (some .boolean) RX12) (hA : va_A w0 s.heap.size = A) (a : Nat → Nat)  {Post : Int32 → St → Prop} {self : (Int32 × Int32 × Int32 × Int32 × Int32 × St) → Prop} {KX : Int32 → St → Prop} (x1 : Int32) (x2 : Int32) (x3 : Int32) (x4 : Int32) (x5 : Int32) (z0 : Int32) (p : St) (hw : wjX12_isLost_117  Post self KX x1 x2 x3 x4 x5 z0 p) (hself : ∀ (x1 : Int32) (x2 : Int32) (x3 : Int32) (x4 : Int32) (x5 : Int32) (p : St), self (x1, x2, x3, x4, x5, p) → V pr l e rmX12_isLost s m args below meth c E A 8 0 0 (MQ below (CQi E Post (fun u => (fl [bModel E a u])) w0 s.heap.size) args s 0 0 A) (fl [bModel E a p]) 24 [(0, .ref (a 0)), (1, .int x1), (2, .int x2), (3, .int x3), (4, .int x4), (5, .int x5)] []) (hX : ∀ (x4 : Int32) (p : St), KX x4 p → V pr l e rmX12_isLost s m args below meth c E A 8 0 0 (MQ below (CQi E Post (fun u => (fl [bModel E a u])) w0 s.heap.size) args s 0 0 A) (fl [bModel E a p]) 135 [(4, .int x4)] []) : V pr l e rmX12_isLost s m args below meth c E A 8 0 0 (MQ below (CQi E Post (fun u => (fl [bModel E a u])) w0 s.heap.size) args s 0 0 A) (fl [bModel E a p]) 117 [(0, .ref (a 0)), (1, .int x1), (2, .int x2), (3, .int x3), (4, .int x4), (5, .int x5)] [.int z0, .ref (a 0)] := by
  refine v_iconst (pc := 117) C 1 ki_1 dX12_isLost_117 ?_
  refine v_iload (pc := 118) C 5 rfl dX12_isLost_118 ?_
  refine v_ishl (pc := 120) C dX12_isLost_120 ?_
  refine v_goto (pc := 121) C 125 (by decide) dX12_isLost_121 ?_
  refine v_sub (lv' := [(0, .ref (a 0)), (1, .int x1), (2, .int x2), (3, .int x3), (4, .int x4), (5, .int x5)]) [0, 1, 2, 3, 4, 5] rfl ?_
  exact vjX12_isLost_125 C hA a  x1 x2 x3 x4 x5 ((1 : Int32) <<< (x5 &&& 31)) z0 p hw hself hX
set_option maxHeartbeats 4000000 in
set_option maxRecDepth 100000 in
theorem vjX12_isLost_95 (C : VC pr s m args meth c E A cX12_isLost 8 (some .boolean) RX12) (hA : va_A w0 s.heap.size = A) (a : Nat → Nat)  {Post : Int32 → St → Prop} {self : (Int32 × Int32 × Int32 × Int32 × Int32 × St) → Prop} {KX : Int32 → St → Prop} (x1 : Int32) (x2 : Int32) (x3 : Int32) (x4 : Int32) (x5 : Int32) (x6 : Int32) (x7 : Int32) (z0 : Int32) (z1 : Int32) (p : St) (hw : wjX12_isLost_95  Post self KX x1 x2 x3 x4 x5 x6 x7 z0 z1 p) (hself : ∀ (x1 : Int32) (x2 : Int32) (x3 : Int32) (x4 : Int32) (x5 : Int32) (p : St), self (x1, x2, x3, x4, x5, p) → V pr l e rmX12_isLost s m args below meth c E A 8 0 0 (MQ below (CQi E Post (fun u => (fl [bModel E a u])) w0 s.heap.size) args s 0 0 A) (fl [bModel E a p]) 24 [(0, .ref (a 0)), (1, .int x1), (2, .int x2), (3, .int x3), (4, .int x4), (5, .int x5)] []) (hX : ∀ (x4 : Int32) (p : St), KX x4 p → V pr l e rmX12_isLost s m args below meth c E A 8 0 0 (MQ below (CQi E Post (fun u => (fl [bModel E a u])) w0 s.heap.size) args s 0 0 A) (fl [bModel E a p]) 135 [(4, .int x4)] []) : V pr l e rmX12_isLost s m args below meth c E A 8 0 0 (MQ below (CQi E Post (fun u => (fl [bModel E a u])) w0 s.heap.size) args s 0 0 A) (fl [bModel E a p]) 95 [(0, .ref (a 0)), (1, .int x1), (2, .int x2), (3, .int x3), (4, .int x4), (5, .int x5), (6, .int x6), (7, .int x7)] [.int z0, .int z1, .ref (a 0)] := by
  refine v_ior (pc := 95) C dX12_isLost_95 ?_
  obtain ⟨p5, es⟩ : ∃ y : St, y = p.sI 21 (z1 ||| z0) := ⟨_, rfl⟩
  have hw := hw p5 es
  refine v_put (pc := 96) C cfX12 rfl 0 21 (ty := .int) (w' := (fl [bModel E a p5])) rfl (by subst es; rfl) (by decide) wfX12_190 rfl rfl rfl rfl (Nat.le_of_ble_eq_true rfl) dX12_isLost_96 ?_
  refine v_aload_n (pc := 99) C 0 rfl rfl dX12_isLost_99 ?_
  refine v_dup (pc := 100) C rfl dX12_isLost_100 ?_
  refine v_get (pc := 101) C cfX12 rfl 0 22 rfl (by decide) wfX12_193 rfl dX12_isLost_101 ?_
  refine v_iload (pc := 104) C 6 rfl dX12_isLost_104 ?_
  refine v_iload (pc := 106) C 7 rfl dX12_isLost_106 ?_
  refine v_icmp_gt (pc := 108) C 117 (by decide) dX12_isLost_108 (fun hc => ?_) (fun hc => ?_)
  · have hw := hw.1 hc
    refine v_sub (lv' := [(0, .ref (a 0)), (1, .int x1), (2, .int x2), (3, .int x3), (4, .int x4), (5, .int x5)]) [0, 1, 2, 3, 4, 5] rfl ?_
    exact vjX12_isLost_117 C hA a  x1 x2 x3 x4 x5 (p5.I 22) p5 hw hself hX
  · have hw := hw.2 hc
    refine v_iload (pc := 111) C 7 rfl dX12_isLost_111 ?_
    refine v_iload_n (pc := 113) C 3 rfl rfl dX12_isLost_113 ?_
    refine v_icmp_lt (pc := 114) C 124 (by decide) dX12_isLost_114 (fun hc => ?_) (fun hc => ?_)
    · have hw := hw.1 hc
      refine v_iconst (pc := 124) C 0 ki_0 dX12_isLost_124 ?_
      refine v_sub (lv' := [(0, .ref (a 0)), (1, .int x1), (2, .int x2), (3, .int x3), (4, .int x4), (5, .int x5)]) [0, 1, 2, 3, 4, 5] rfl ?_
      exact vjX12_isLost_125 C hA a  x1 x2 x3 x4 x5 0 (p5.I 22) p5 hw hself hX
    · have hw := hw.2 hc
      refine v_sub (lv' := [(0, .ref (a 0)), (1, .int x1), (2, .int x2), (3, .int x3), (4, .int x4), (5, .int x5)]) [0, 1, 2, 3, 4, 5] rfl ?_
      exact vjX12_isLost_117 C hA a  x1 x2 x3 x4 x5 (p5.I 22) p5 hw hself hX
set_option maxHeartbeats 4000000 in
set_option maxRecDepth 100000 in
theorem vjX12_isLost_73 (C : VC pr s m args meth c E A cX12_isLost 8 (some .boolean) RX12) (hA : va_A w0 s.heap.size = A) (a : Nat → Nat)  {Post : Int32 → St → Prop} {self : (Int32 × Int32 × Int32 × Int32 × Int32 × St) → Prop} {KX : Int32 → St → Prop} (x1 : Int32) (x2 : Int32) (x3 : Int32) (x5 : Int32) (x6 : Int32) (x7 : Int32) (z0 : Int32) (p : St) (hw : wjX12_isLost_73  Post self KX x1 x2 x3 x5 x6 x7 z0 p) (hself : ∀ (x1 : Int32) (x2 : Int32) (x3 : Int32) (x4 : Int32) (x5 : Int32) (p : St), self (x1, x2, x3, x4, x5, p) → V pr l e rmX12_isLost s m args below meth c E A 8 0 0 (MQ below (CQi E Post (fun u => (fl [bModel E a u])) w0 s.heap.size) args s 0 0 A) (fl [bModel E a p]) 24 [(0, .ref (a 0)), (1, .int x1), (2, .int x2), (3, .int x3), (4, .int x4), (5, .int x5)] []) (hX : ∀ (x4 : Int32) (p : St), KX x4 p → V pr l e rmX12_isLost s m args below meth c E A 8 0 0 (MQ below (CQi E Post (fun u => (fl [bModel E a u])) w0 s.heap.size) args s 0 0 A) (fl [bModel E a p]) 135 [(4, .int x4)] []) : V pr l e rmX12_isLost s m args below meth c E A 8 0 0 (MQ below (CQi E Post (fun u => (fl [bModel E a u])) w0 s.heap.size) args s 0 0 A) (fl [bModel E a p]) 73 [(0, .ref (a 0)), (1, .int x1), (2, .int x2), (3, .int x3), (5, .int x5), (6, .int x6), (7, .int x7)] [.int z0] := by
  refine v_istore (pc := 73) C [(4, .int z0), (0, .ref (a 0)), (1, .int x1), (2, .int x2), (3, .int x3), (5, .int x5), (6, .int x6), (7, .int x7)] rfl (by decide) dX12_isLost_73 ?_
  refine v_aload_n (pc := 75) C 1 rfl rfl dX12_isLost_75 ?_
  refine v_dup (pc := 76) C rfl dX12_isLost_76 ?_
  refine v_get (pc := 77) C cfX12 rfl 0 21 rfl (by decide) wfX12_190 rfl dX12_isLost_77 ?_
  refine v_iload (pc := 80) C 6 rfl dX12_isLost_80 ?_
  refine v_iload (pc := 82) C 7 rfl dX12_isLost_82 ?_
  refine v_icmp_le (pc := 84) C 94 (by decide) dX12_isLost_84 (fun hc => ?_) (fun hc => ?_)
  · have hw := hw.1 hc
    refine v_iconst (pc := 94) C 0 ki_0 dX12_isLost_94 ?_
    refine v_sub (lv' := [(0, .ref (a 0)), (1, .int x1), (2, .int x2), (3, .int x3), (4, .int z0), (5, .int x5), (6, .int x6), (7, .int x7)]) [1, 2, 3, 4, 0, 5, 6, 7] rfl ?_
    exact vjX12_isLost_95 C hA a  x1 x2 x3 z0 x5 x6 x7 0 (p.I 21) p hw hself hX
  · have hw := hw.2 hc
    refine v_iconst (pc := 87) C 1 ki_1 dX12_isLost_87 ?_
    refine v_iload (pc := 88) C 5 rfl dX12_isLost_88 ?_
    refine v_ishl (pc := 90) C dX12_isLost_90 ?_
    refine v_goto (pc := 91) C 95 (by decide) dX12_isLost_91 ?_
    refine v_sub (lv' := [(0, .ref (a 0)), (1, .int x1), (2, .int x2), (3, .int x3), (4, .int z0), (5, .int x5), (6, .int x6), (7, .int x7)]) [1, 2, 3, 4, 0, 5, 6, 7] rfl ?_
    exact vjX12_isLost_95 C hA a  x1 x2 x3 z0 x5 x6 x7 ((1 : Int32) <<< (x5 &&& 31)) (p.I 21) p hw hself hX
set_option maxHeartbeats 4000000 in
set_option maxRecDepth 100000 in
theorem vlX12_isLost_24 (C : VC pr s m args meth c E A cX12_isLost 8 (some .boolean) RX12) (hA : va_A w0 s.heap.size = A) (a : Nat → Nat)  {Post : Int32 → St → Prop} {KX : Int32 → St → Prop} (hX : ∀ (x4 : Int32) (p : St), KX x4 p → V pr l e rmX12_isLost s m args below meth c E A 8 0 0 (MQ below (CQi E Post (fun u => (fl [bModel E a u])) w0 s.heap.size) args s 0 0 A) (fl [bModel E a p]) 135 [(4, .int x4)] []) : ∀ (n : Nat) (x1 : Int32) (x2 : Int32) (x3 : Int32) (x4 : Int32) (x5 : Int32) (p : St), wLX12_isLost_24  Post KX n (x1, x2, x3, x4, x5, p) → V pr l e rmX12_isLost s m args below meth c E A 8 0 0 (MQ below (CQi E Post (fun u => (fl [bModel E a u])) w0 s.heap.size) args s 0 0 A) (fl [bModel E a p]) 24 [(0, .ref (a 0)), (1, .int x1), (2, .int x2), (3, .int x3), (4, .int x4), (5, .int x5)] [] := by
  intro n
  induction n with
  | zero => intro x1 x2 x3 x4 x5 p hw; exact absurd hw id
  | succ n hself =>
    intro x1 x2 x3 x4 x5 p hw
    have hw : wlX12_isLost_24  Post KX (wLX12_isLost_24  Post KX n) x1 x2 x3 x4 x5 p := hw
    refine v_iload (pc := 24) C 5 rfl dX12_isLost_24 ?_
    refine v_bipush (pc := 26) C 12 kb_12 dX12_isLost_26 ?_
    refine v_icmp_ge (pc := 28) C 135 (by decide) dX12_isLost_28 (fun hc => ?_) (fun hc => ?_)
    · have hw := hw.1 hc
      refine v_sub (lv' := [(4, .int x4)]) [4] rfl ?_
      exact hX x4 p hw
    · have hw := hw.2 hc
      refine v_aload_n (pc := 31) C 0 rfl rfl dX12_isLost_31 ?_
      refine v_iload_n (pc := 32) C 1 rfl rfl dX12_isLost_32 ?_
      refine v_iload (pc := 33) C 5 rfl dX12_isLost_33 ?_
      refine v_goAi (pc := 35) C (wc' := (fun (_ : Unit) => (fl [bModel E a p]))) (fun _ => rfl) (v_runVA (pc := 35) C [.int x1, .int x5] [] (fun sz => ctX12_dentOf l E a x1 x5 p hw sz) mfX12_dentOf mvX12_dentOf wmX12_181 rfl ⟨Nat.le_of_ble_eq_true rfl, Nat.le_of_ble_eq_true rfl⟩ ⟨rfl, rfl⟩ 0 (ci := 12) (qc := (RX12, TX12, 30)) rfl rfl rfl rfl (Nat.le_of_ble_eq_true rfl) ⟨Nat.zero_le _, Nat.zero_le _⟩ dX12_isLost_35) (fun r3 _ hw => ?_)
      refine v_istore (pc := 38) C [(6, .int r3), (0, .ref (a 0)), (1, .int x1), (2, .int x2), (3, .int x3), (4, .int x4), (5, .int x5)] rfl (by decide) dX12_isLost_38 ?_
      refine v_aload_n (pc := 40) C 1 rfl rfl dX12_isLost_40 ?_
      refine v_iload_n (pc := 41) C 2 rfl rfl dX12_isLost_41 ?_
      refine v_iload_n (pc := 42) C 3 rfl rfl dX12_isLost_42 ?_
      refine v_iload (pc := 43) C 6 rfl dX12_isLost_43 ?_
      refine v_goAi (pc := 45) C (wc' := (fun (_ : Unit) => (fl [bModel E a p]))) (fun _ => rfl) (v_runVA (pc := 45) C [.int x1, .int x2, .int x5] [] (fun sz => ctX12_explained l E a x1 x2 x5 p hw sz) mfX12_explained mvX12_explained wmX12_196 rfl ⟨Nat.le_of_ble_eq_true rfl, Nat.le_of_ble_eq_true rfl⟩ ⟨rfl, rfl⟩ 0 (ci := 12) (qc := (RX12, TX12, 30)) rfl rfl rfl rfl (Nat.le_of_ble_eq_true rfl) ⟨Nat.zero_le _, Nat.zero_le _⟩ dX12_isLost_45) (fun r4 _ hw => ?_)
      refine v_istore (pc := 48) C [(7, .int r4), (6, .int r3), (0, .ref (a 0)), (1, .int x1), (2, .int x2), (3, .int x3), (4, .int x4), (5, .int x5)] rfl (by decide) dX12_isLost_48 ?_
      refine v_iload (pc := 50) C 6 rfl dX12_isLost_50 ?_
      refine v_if_eq (pc := 52) C 72 (by decide) dX12_isLost_52 (fun hc => ?_) (fun hc => ?_)
      · have hw := hw.1 hc
        refine v_iconst (pc := 72) C 0 ki_0 dX12_isLost_72 ?_
        refine v_sub (lv' := [(0, .ref (a 0)), (1, .int x1), (2, .int x2), (3, .int x3), (5, .int x5), (6, .int r3), (7, .int r4)]) [2, 3, 4, 5, 7, 1, 0] rfl ?_
        exact vjX12_isLost_73 C hA a  x1 x2 x3 x5 r3 r4 0 p hw hself hX
      · have hw := hw.2 hc
        refine v_iload (pc := 55) C 1 rfl dX12_isLost_55 ?_
        refine v_iload (pc := 57) C 0 rfl dX12_isLost_57 ?_
        refine v_icmp_eq (pc := 59) C 68 (by decide) dX12_isLost_59 (fun hc => ?_) (fun hc => ?_)
        · have hw := hw.1 hc
          refine v_iconst (pc := 68) C 1 ki_1 dX12_isLost_68 ?_
          refine v_goto (pc := 69) C 73 (by decide) dX12_isLost_69 ?_
          refine v_sub (lv' := [(0, .ref (a 0)), (1, .int x1), (2, .int x2), (3, .int x3), (5, .int x5), (6, .int r3), (7, .int r4)]) [2, 3, 4, 5, 7, 1, 0] rfl ?_
          exact vjX12_isLost_73 C hA a  x1 x2 x3 x5 r3 r4 1 p hw hself hX
        · have hw := hw.2 hc
          refine v_iload (pc := 62) C 1 rfl dX12_isLost_62 ?_
          refine v_iload_n (pc := 64) C 5 rfl rfl dX12_isLost_64 ?_
          refine v_icmp_ne (pc := 65) C 72 (by decide) dX12_isLost_65 (fun hc => ?_) (fun hc => ?_)
          · have hw := hw.1 hc
            refine v_iconst (pc := 72) C 0 ki_0 dX12_isLost_72 ?_
            refine v_sub (lv' := [(0, .ref (a 0)), (1, .int x1), (2, .int x2), (3, .int x3), (5, .int x5), (6, .int r3), (7, .int r4)]) [2, 3, 4, 5, 7, 1, 0] rfl ?_
            exact vjX12_isLost_73 C hA a  x1 x2 x3 x5 r3 r4 0 p hw hself hX
          · have hw := hw.2 hc
            refine v_iconst (pc := 68) C 1 ki_1 dX12_isLost_68 ?_
            refine v_goto (pc := 69) C 73 (by decide) dX12_isLost_69 ?_
            refine v_sub (lv' := [(0, .ref (a 0)), (1, .int x1), (2, .int x2), (3, .int x3), (5, .int x5), (6, .int r3), (7, .int r4)]) [2, 3, 4, 5, 7, 1, 0] rfl ?_
            exact vjX12_isLost_73 C hA a  x1 x2 x3 x5 r3 r4 1 p hw hself hX
set_option maxHeartbeats 4000000 in
set_option maxRecDepth 100000 in
theorem ctX12_isLost (l : Launch) (E : VE) (a : Nat → Nat) (x1 : Int32) (x2 : Int32) (x3 : Int32) (p : St)  {Post : Int32 → St → Prop} (hw : wpX12_isLost x1 x2 x3 p Post) (sz : Nat) : Met l yX12_isLost (mW yX12_isLost cX12_isLost 8 (some .boolean)) rmX12_isLost (CPre E [.ref (a 0), .int x1, .int x2, .int x3] sz (fl [bModel E a p])) (CQi E Post (fun u => (fl [bModel E a u])) (fl [bModel E a p]) sz) 0 0 (va_A (fl [bModel E a p]) sz) := by
  refine v_met (by decide) (Nat.le_of_ble_eq_true rfl) ?_
  intro pr e s m below meth c A hsz hA C
  subst hsz
  refine v_aload_n (pc := 0) C 0 rfl rfl dX12_isLost_0 ?_
  refine v_iconst (pc := 1) C 0 ki_0 dX12_isLost_1 ?_
  obtain ⟨p1, es⟩ : ∃ y : St, y = p.sI 21 0 := ⟨_, rfl⟩
  have hw := hw p1 es
  refine v_put (pc := 2) C cfX12 rfl 0 21 (ty := .int) (w' := (fl [bModel E a p1])) rfl (by subst es; rfl) (by decide) wfX12_190 rfl rfl rfl rfl (Nat.le_of_ble_eq_true rfl) dX12_isLost_2 ?_
  refine v_aload_n (pc := 5) C 0 rfl rfl dX12_isLost_5 ?_
  refine v_iconst (pc := 6) C 0 ki_0 dX12_isLost_6 ?_
  obtain ⟨p2, es⟩ : ∃ y : St, y = p1.sI 22 0 := ⟨_, rfl⟩
  have hw := hw p2 es
  refine v_put (pc := 7) C cfX12 rfl 0 22 (ty := .int) (w' := (fl [bModel E a p2])) rfl (by subst es; rfl) (by decide) wfX12_193 rfl rfl rfl rfl (Nat.le_of_ble_eq_true rfl) dX12_isLost_7 ?_
  refine v_iload_n (pc := 10) C 3 rfl rfl dX12_isLost_10 ?_
  refine v_if_le (pc := 11) C 18 (by decide) dX12_isLost_11 (fun hc => ?_) (fun hc => ?_)
  · have hw := hw.1 hc
    refine v_iconst (pc := 18) C 0 ki_0 dX12_isLost_18 ?_
    refine v_istore (pc := 19) C [(4, .int 0), (0, .ref (a 0)), (1, .int x1), (2, .int x2), (3, .int x3)] rfl (by decide) dX12_isLost_19 ?_
    refine v_iconst (pc := 21) C 0 ki_0 dX12_isLost_21 ?_
    refine v_istore (pc := 22) C [(5, .int 0), (4, .int 0), (0, .ref (a 0)), (1, .int x1), (2, .int x2), (3, .int x3)] rfl (by decide) dX12_isLost_22 ?_
    obtain ⟨n, hw⟩ := hw
    refine v_sub (lv' := [(0, .ref (a 0)), (1, .int x1), (2, .int x2), (3, .int x3), (4, .int 0), (5, .int 0)]) [2, 3, 4, 5, 1, 0] rfl ?_
    refine vlX12_isLost_24 C hA a  (fun y8 p9 hw => ?_) n x1 x2 x3 0 0 p2 hw
    refine v_iload (pc := 135) C 0 rfl dX12_isLost_135 ?_
    exact v_iretz (pc := 137) C hw.1 p9 hA rfl hw.2 dX12_isLost_137
  · have hw := hw.2 hc
    refine v_iconst (pc := 14) C 1 ki_1 dX12_isLost_14 ?_
    refine v_goto (pc := 15) C 19 (by decide) dX12_isLost_15 ?_
    refine v_istore (pc := 19) C [(4, .int 1), (0, .ref (a 0)), (1, .int x1), (2, .int x2), (3, .int x3)] rfl (by decide) dX12_isLost_19 ?_
    refine v_iconst (pc := 21) C 0 ki_0 dX12_isLost_21 ?_
    refine v_istore (pc := 22) C [(5, .int 0), (4, .int 1), (0, .ref (a 0)), (1, .int x1), (2, .int x2), (3, .int x3)] rfl (by decide) dX12_isLost_22 ?_
    obtain ⟨n, hw⟩ := hw
    refine v_sub (lv' := [(0, .ref (a 0)), (1, .int x1), (2, .int x2), (3, .int x3), (4, .int 1), (5, .int 0)]) [2, 3, 4, 5, 1, 0] rfl ?_
    refine vlX12_isLost_24 C hA a  (fun y10 p11 hw => ?_) n x1 x2 x3 1 0 p2 hw
    refine v_iload (pc := 135) C 0 rfl dX12_isLost_135 ?_
    exact v_iretz (pc := 137) C hw.1 p11 hA rfl hw.2 dX12_isLost_137
set_option maxHeartbeats 4000000 in
set_option maxRecDepth 100000 in
theorem ctX12_fits (l : Launch) (E : VE) (a : Nat → Nat) (x1 : Int32) (p : St)  {Post : Int32 → Prop} (hw : wpX12_fits x1 p Post) (sz : Nat) : Met l yX12_fits (mW yX12_fits cX12_fits 2 (some .boolean)) rmX12_fits (CPre E [.ref (a 0), .int x1] sz (fl [bModel E a p])) (CQi E (fun (z : Int32) (_ : Unit) => Post z) (fun _ => (fl [bModel E a p])) (fl [bModel E a p]) sz) 0 0 (va_A (fl [bModel E a p]) sz) := by
  refine v_met (by decide) (Nat.le_of_ble_eq_true rfl) ?_
  intro pr e s m below meth c A hsz hA C
  subst hsz
  refine v_aload_n (pc := 0) C 0 rfl rfl dX12_fits_0 ?_
  refine v_get (pc := 1) C cfX12 rfl 0 21 rfl (by decide) wfX12_190 rfl dX12_fits_1 ?_
  refine v_iload_n (pc := 4) C 1 rfl rfl dX12_fits_4 ?_
  refine v_iconst (pc := 5) C (-1) ki_m1 dX12_fits_5 ?_
  refine v_ixor (pc := 6) C dX12_fits_6 ?_
  refine v_iand (pc := 7) C dX12_fits_7 ?_
  refine v_if_ne (pc := 8) C 26 (by decide) dX12_fits_8 (fun hc => ?_) (fun hc => ?_)
  · have hw := hw.1 hc
    refine v_iconst (pc := 26) C 0 ki_0 dX12_fits_26 ?_
    exact v_iretz (pc := 27) C rfl () hA rfl hw dX12_fits_27
  · have hw := hw.2 hc
    refine v_iload_n (pc := 11) C 1 rfl rfl dX12_fits_11 ?_
    refine v_aload_n (pc := 12) C 0 rfl rfl dX12_fits_12 ?_
    refine v_get (pc := 13) C cfX12 rfl 0 22 rfl (by decide) wfX12_193 rfl dX12_fits_13 ?_
    refine v_iconst (pc := 16) C (-1) ki_m1 dX12_fits_16 ?_
    refine v_ixor (pc := 17) C dX12_fits_17 ?_
    refine v_iand (pc := 18) C dX12_fits_18 ?_
    refine v_if_ne (pc := 19) C 26 (by decide) dX12_fits_19 (fun hc => ?_) (fun hc => ?_)
    · have hw := hw.1 hc
      refine v_iconst (pc := 26) C 0 ki_0 dX12_fits_26 ?_
      exact v_iretz (pc := 27) C rfl () hA rfl hw dX12_fits_27
    · have hw := hw.2 hc
      refine v_iconst (pc := 22) C 1 ki_1 dX12_fits_22 ?_
      refine v_goto (pc := 23) C 27 (by decide) dX12_fits_23 ?_
      exact v_iretz (pc := 27) C rfl () hA rfl hw dX12_fits_27
set_option maxHeartbeats 4000000 in
set_option maxRecDepth 100000 in
theorem vjX12_lost_51 (C : VC pr s m args meth c E A cX12_lost 10 (some .int) RX12) (hA : va_A w0 s.heap.size = A) (a : Nat → Nat)  {Post : Int32 → St → Prop} (p : St) (hw : wjX12_lost_51  Post p) : V pr l e rmX12_lost s m args below meth c E A 10 0 0 (MQ below (CQi E Post (fun u => (fl [bModel E a u])) w0 s.heap.size) args s 0 0 A) (fl [bModel E a p]) 51 [(0, .ref (a 0))] [] := by
  refine v_aload_n (pc := 51) C 0 rfl rfl dX12_lost_51 ?_
  refine v_goAi (pc := 52) C (wc' := (fun (u : St) => (fl [bModel E a u]))) (fun _ => rfl) (v_runVA (pc := 52) C [] [] (fun sz => ctX12_badLess l E a p hw sz) mfX12_badLess mvX12_badLess wmX12_175 rfl ⟨Nat.le_of_ble_eq_true rfl, Nat.le_of_ble_eq_true rfl⟩ ⟨rfl, rfl⟩ 0 (ci := 12) (qc := (RX12, TX12, 30)) rfl rfl rfl rfl (Nat.le_of_ble_eq_true rfl) ⟨Nat.zero_le _, Nat.zero_le _⟩ dX12_lost_52) (fun r2 p3 hw => ?_)
  exact v_ireti (pc := 55) C p3 hA rfl hw dX12_lost_55
set_option maxHeartbeats 4000000 in
set_option maxRecDepth 100000 in
theorem vlX12_lost_110 (C : VC pr s m args meth c E A cX12_lost 10 (some .int) RX12) (hA : va_A w0 s.heap.size = A) (a : Nat → Nat)  {Post : Int32 → St → Prop} {KX : Int32 → Int32 → Int32 → St → Prop} (hX : ∀ (x6 : Int32) (x7 : Int32) (x8 : Int32) (p : St), KX x6 x7 x8 p → V pr l e rmX12_lost s m args below meth c E A 10 0 0 (MQ below (CQi E Post (fun u => (fl [bModel E a u])) w0 s.heap.size) args s 0 0 A) (fl [bModel E a p]) 152 [(0, .ref (a 0)), (6, .int x6), (7, .int x7), (8, .int x8)] []) : ∀ (n : Nat) (x6 : Int32) (x7 : Int32) (x8 : Int32) (x9 : Int32) (p : St), wLX12_lost_110  Post KX n (x6, x7, x8, x9, p) → V pr l e rmX12_lost s m args below meth c E A 10 0 0 (MQ below (CQi E Post (fun u => (fl [bModel E a u])) w0 s.heap.size) args s 0 0 A) (fl [bModel E a p]) 110 [(0, .ref (a 0)), (6, .int x6), (7, .int x7), (8, .int x8), (9, .int x9)] [] := by
  intro n
  induction n with
  | zero => intro x6 x7 x8 x9 p hw; exact absurd hw id
  | succ n hself =>
    intro x6 x7 x8 x9 p hw
    have hw : wlX12_lost_110  Post KX (wLX12_lost_110  Post KX n) x6 x7 x8 x9 p := hw
    refine v_iload (pc := 110) C 4 rfl dX12_lost_110 ?_
    refine v_aload_n (pc := 112) C 0 rfl rfl dX12_lost_112 ?_
    refine v_get (pc := 113) C cfX12 rfl 0 3 rfl (by decide) wfX12_79 rfl dX12_lost_113 ?_
    refine v_icmp_ge (pc := 116) C 152 (by decide) dX12_lost_116 (fun hc => ?_) (fun hc => ?_)
    · have hw := hw.1 hc
      refine v_sub (lv' := [(0, .ref (a 0)), (6, .int x6), (7, .int x7), (8, .int x8)]) [0, 1, 2, 3] rfl ?_
      exact hX x6 x7 x8 p hw
    · have hw := hw.2 hc
      refine v_iload (pc := 119) C 3 rfl dX12_lost_119 ?_
      refine v_aload_n (pc := 121) C 0 rfl rfl dX12_lost_121 ?_
      refine v_aload_n (pc := 122) C 0 rfl rfl dX12_lost_122 ?_
      refine v_get (pc := 123) C cfX12 rfl 0 2 rfl (by decide) wfX12_13 rfl dX12_lost_123 ?_
      refine v_iload (pc := 126) C 4 rfl dX12_lost_126 ?_
      obtain ⟨hg, hw⟩ := hw
      refine v_iald (pc := 128) C 1 rfl hg rfl dX12_lost_128 ?_
      refine v_goAi (pc := 129) C (wc' := (fun (_ : Unit) => (fl [bModel E a p]))) (fun _ => rfl) (v_runVA (pc := 129) C [.int ((p.A 2) x9.toNatClampNeg)] [.int x8] (fun sz => ctX12_fits l E a ((p.A 2) x9.toNatClampNeg) p hw sz) mfX12_fits mvX12_fits wmX12_208 rfl ⟨Nat.le_of_ble_eq_true rfl, Nat.le_of_ble_eq_true rfl⟩ ⟨rfl, rfl⟩ 0 (ci := 12) (qc := (RX12, TX12, 30)) rfl rfl rfl rfl (Nat.le_of_ble_eq_true rfl) ⟨Nat.zero_le _, Nat.zero_le _⟩ dX12_lost_129) (fun r11 _ hw => ?_)
      refine v_if_eq (pc := 132) C 142 (by decide) dX12_lost_132 (fun hc => ?_) (fun hc => ?_)
      · have hw := hw.1 hc
        refine v_iconst (pc := 142) C 0 ki_0 dX12_lost_142 ?_
        refine v_ior (pc := 143) C dX12_lost_143 ?_
        refine v_topi (fun x8_12 ex => ?_)
        have hw := hw x8_12 ex
        refine v_istore (pc := 144) C [(8, .int x8_12), (0, .ref (a 0)), (6, .int x6), (7, .int x7), (9, .int x9)] rfl (by decide) dX12_lost_144 ?_
        obtain ⟨x9_13, ex⟩ : ∃ y : Int32, y = x9 + 1 := ⟨_, rfl⟩
        have hw := hw x9_13 ex
        refine v_iinc (pc := 146) C 4 rfl (by rw [ex, ki_1]) [(9, .int x9_13), (8, .int x8_12), (0, .ref (a 0)), (6, .int x6), (7, .int x7)] rfl (by decide) dX12_lost_146 ?_
        refine v_goto (pc := 149) C 110 (by decide) dX12_lost_149 ?_
        refine v_sub (lv' := [(0, .ref (a 0)), (6, .int x6), (7, .int x7), (8, .int x8_12), (9, .int x9_13)]) [2, 3, 4, 1, 0] rfl ?_
        exact hself x6 x7 x8_12 x9_13 p hw
      · have hw := hw.2 hc
        refine v_iconst (pc := 135) C 1 ki_1 dX12_lost_135 ?_
        refine v_iload (pc := 136) C 4 rfl dX12_lost_136 ?_
        refine v_ishl (pc := 138) C dX12_lost_138 ?_
        refine v_goto (pc := 139) C 143 (by decide) dX12_lost_139 ?_
        refine v_ior (pc := 143) C dX12_lost_143 ?_
        refine v_topi (fun x8_14 ex => ?_)
        have hw := hw x8_14 ex
        refine v_istore (pc := 144) C [(8, .int x8_14), (0, .ref (a 0)), (6, .int x6), (7, .int x7), (9, .int x9)] rfl (by decide) dX12_lost_144 ?_
        obtain ⟨x9_15, ex⟩ : ∃ y : Int32, y = x9 + 1 := ⟨_, rfl⟩
        have hw := hw x9_15 ex
        refine v_iinc (pc := 146) C 4 rfl (by rw [ex, ki_1]) [(9, .int x9_15), (8, .int x8_14), (0, .ref (a 0)), (6, .int x6), (7, .int x7)] rfl (by decide) dX12_lost_146 ?_
        refine v_goto (pc := 149) C 110 (by decide) dX12_lost_149 ?_
        refine v_sub (lv' := [(0, .ref (a 0)), (6, .int x6), (7, .int x7), (8, .int x8_14), (9, .int x9_15)]) [2, 3, 4, 1, 0] rfl ?_
        exact hself x6 x7 x8_14 x9_15 p hw
set_option maxHeartbeats 4000000 in
set_option maxRecDepth 100000 in
theorem ctX12_lost (l : Launch) (E : VE) (a : Nat → Nat) (x1 : Int32) (x2 : Int32) (x3 : Int32) (x4 : Int32) (x5 : Int32) (x6 : Int32) (p : St)  {Post : Int32 → St → Prop} (hw : wpX12_lost x1 x2 x3 x4 x5 x6 p Post) (sz : Nat) : Met l yX12_lost (mW yX12_lost cX12_lost 10 (some .int)) rmX12_lost (CPre E [.ref (a 0), .int x1, .int x2, .int x3, .int x4, .int x5, .int x6] sz (fl [bModel E a p])) (CQi E Post (fun u => (fl [bModel E a u])) (fl [bModel E a p]) sz) 0 0 (va_A (fl [bModel E a p]) sz) := by
  refine v_met (by decide) (Nat.le_of_ble_eq_true rfl) ?_
  intro pr e s m below meth c A hsz hA C
  subst hsz
  refine v_aload_n (pc := 0) C 0 rfl rfl dX12_lost_0 ?_
  refine v_iload_n (pc := 1) C 1 rfl rfl dX12_lost_1 ?_
  refine v_goAi (pc := 2) C (wc' := (fun (_ : Unit) => (fl [bModel E a p]))) (fun _ => rfl) (v_runVA (pc := 2) C [.int x1] [] (fun sz => ctX12_isSheet l E a x1 p hw sz) mfX12_isSheet mvX12_isSheet wmX12_172 rfl ⟨Nat.le_of_ble_eq_true rfl, Nat.le_of_ble_eq_true rfl⟩ ⟨rfl, rfl⟩ 0 (ci := 12) (qc := (RX12, TX12, 30)) rfl rfl rfl rfl (Nat.le_of_ble_eq_true rfl) ⟨Nat.zero_le _, Nat.zero_le _⟩ dX12_lost_2) (fun r1 _ hw => ?_)
  refine v_if_eq (pc := 5) C 51 (by decide) dX12_lost_5 (fun hc => ?_) (fun hc => ?_)
  · have hw := hw.1 hc
    refine v_sub (lv' := [(0, .ref (a 0))]) [0] rfl ?_
    exact vjX12_lost_51 C hA a  p hw
  · have hw := hw.2 hc
    refine v_aload_n (pc := 8) C 0 rfl rfl dX12_lost_8 ?_
    refine v_iload_n (pc := 9) C 2 rfl rfl dX12_lost_9 ?_
    refine v_goAi (pc := 10) C (wc' := (fun (_ : Unit) => (fl [bModel E a p]))) (fun _ => rfl) (v_runVA (pc := 10) C [.int x2] [] (fun sz => ctX12_areNotes l E a x2 p hw sz) mfX12_areNotes mvX12_areNotes wmX12_199 rfl ⟨Nat.le_of_ble_eq_true rfl, Nat.le_of_ble_eq_true rfl⟩ ⟨rfl, rfl⟩ 0 (ci := 12) (qc := (RX12, TX12, 30)) rfl rfl rfl rfl (Nat.le_of_ble_eq_true rfl) ⟨Nat.zero_le _, Nat.zero_le _⟩ dX12_lost_10) (fun r4 _ hw => ?_)
    refine v_if_eq (pc := 13) C 51 (by decide) dX12_lost_13 (fun hc => ?_) (fun hc => ?_)
    · have hw := hw.1 hc
      refine v_sub (lv' := [(0, .ref (a 0))]) [0] rfl ?_
      exact vjX12_lost_51 C hA a  p hw
    · have hw := hw.2 hc
      refine v_iload_n (pc := 16) C 3 rfl rfl dX12_lost_16 ?_
      refine v_iload (pc := 17) C 4 rfl dX12_lost_17 ?_
      refine v_goBi (pc := 19) C (bs := [bModel E a p]) (cs := []) (cs' := (fun (_ : Unit) => [])) (bs' := (fun (_ : Unit) => [bModel E a p])) (w' := (fun (_ : Unit) => (fl [bModel E a p]))) [] rfl rfl (fun _ => rfl) (fun _ => rfl) (fun _ => rfl) (v_runSB (pc := 19) C [.int x3, .int x4] [] (fun sz => ctX12_isPen l E x3 x4 hw sz) [] rfl rfl rfl mfX12_isPen msX12_isPen wmX12_101 rfl ⟨Nat.le_of_ble_eq_true rfl, Nat.le_of_ble_eq_true rfl⟩ ⟨rfl, rfl⟩ rfl (Nat.le_of_ble_eq_true rfl) ⟨Nat.zero_le _, Nat.zero_le _⟩ dX12_lost_19) (fun r5 _ hw => ?_)
      refine v_if_eq (pc := 22) C 51 (by decide) dX12_lost_22 (fun hc => ?_) (fun hc => ?_)
      · have hw := hw.1 hc
        refine v_sub (lv' := [(0, .ref (a 0))]) [0] rfl ?_
        exact vjX12_lost_51 C hA a  p hw
      · have hw := hw.2 hc
        refine v_iload (pc := 25) C 5 rfl dX12_lost_25 ?_
        refine v_i2l (pc := 27) C dX12_lost_27 ?_
        refine v_lconst (pc := 28) C 0 kl_0 dX12_lost_28 ?_
        refine v_ldc2 (pc := 29) C 5 wlX12_60 dX12_lost_29 ?_
        refine v_goBi (pc := 32) C (bs := [bModel E a p]) (cs := []) (cs' := (fun (_ : Unit) => [])) (bs' := (fun (_ : Unit) => [bModel E a p])) (w' := (fun (_ : Unit) => (fl [bModel E a p]))) [] rfl rfl (fun _ => rfl) (fun _ => rfl) (fun _ => rfl) (v_runSB (pc := 32) C [.long (x5.toInt64), .long 0, .long 5] [] (fun sz => ctX12_in l E (x5.toInt64) 0 5 hw sz) [] rfl rfl rfl mfX12_in msX12_in wmX12_56 rfl ⟨Nat.le_of_ble_eq_true rfl, Nat.le_of_ble_eq_true rfl⟩ ⟨rfl, rfl⟩ rfl (Nat.le_of_ble_eq_true rfl) ⟨Nat.zero_le _, Nat.zero_le _⟩ dX12_lost_32) (fun r6 _ hw => ?_)
        refine v_if_eq (pc := 35) C 51 (by decide) dX12_lost_35 (fun hc => ?_) (fun hc => ?_)
        · have hw := hw.1 hc
          refine v_sub (lv' := [(0, .ref (a 0))]) [0] rfl ?_
          exact vjX12_lost_51 C hA a  p hw
        · have hw := hw.2 hc
          refine v_iload (pc := 38) C 6 rfl dX12_lost_38 ?_
          refine v_i2l (pc := 40) C dX12_lost_40 ?_
          refine v_lconst (pc := 41) C 0 kl_0 dX12_lost_41 ?_
          refine v_ldc2 (pc := 42) C 3 wlX12_202 dX12_lost_42 ?_
          refine v_goBi (pc := 45) C (bs := [bModel E a p]) (cs := []) (cs' := (fun (_ : Unit) => [])) (bs' := (fun (_ : Unit) => [bModel E a p])) (w' := (fun (_ : Unit) => (fl [bModel E a p]))) [] rfl rfl (fun _ => rfl) (fun _ => rfl) (fun _ => rfl) (v_runSB (pc := 45) C [.long (x6.toInt64), .long 0, .long 3] [] (fun sz => ctX12_in l E (x6.toInt64) 0 3 hw sz) [] rfl rfl rfl mfX12_in msX12_in wmX12_56 rfl ⟨Nat.le_of_ble_eq_true rfl, Nat.le_of_ble_eq_true rfl⟩ ⟨rfl, rfl⟩ rfl (Nat.le_of_ble_eq_true rfl) ⟨Nat.zero_le _, Nat.zero_le _⟩ dX12_lost_45) (fun r7 _ hw => ?_)
          refine v_if_ne (pc := 48) C 56 (by decide) dX12_lost_48 (fun hc => ?_) (fun hc => ?_)
          · have hw := hw.1 hc
            refine v_aload_n (pc := 56) C 0 rfl rfl dX12_lost_56 ?_
            refine v_iload_n (pc := 57) C 1 rfl rfl dX12_lost_57 ?_
            refine v_iload_n (pc := 58) C 2 rfl rfl dX12_lost_58 ?_
            refine v_iload_n (pc := 59) C 3 rfl rfl dX12_lost_59 ?_
            refine v_iload (pc := 60) C 4 rfl dX12_lost_60 ?_
            refine v_iload (pc := 62) C 5 rfl dX12_lost_62 ?_
            refine v_goBi (pc := 64) C (bs := [bModel E a p]) (cs := []) (cs' := (fun (_ : Unit) => [])) (bs' := (fun (_ : Unit) => [bModel E a p])) (w' := (fun (_ : Unit) => (fl [bModel E a p]))) [] rfl rfl (fun _ => rfl) (fun _ => rfl) (fun _ => rfl) (v_runSB (pc := 64) C [.int x3, .int x4, .int x5] [.int x2, .int x1, .ref (a 0)] (fun sz => ctX12_forceOf l E x3 x4 x5 hw sz) [] rfl rfl rfl mfX12_forceOf msX12_forceOf wmX12_89 rfl ⟨Nat.le_of_ble_eq_true rfl, Nat.le_of_ble_eq_true rfl⟩ ⟨rfl, rfl⟩ rfl (Nat.le_of_ble_eq_true rfl) ⟨Nat.zero_le _, Nat.zero_le _⟩ dX12_lost_64) (fun r8 _ hw => ?_)
            refine v_goAi (pc := 67) C (wc' := (fun (u : St) => (fl [bModel E a u]))) (fun _ => rfl) (v_runVA (pc := 67) C [.int x1, .int x2, .int r8] [] (fun sz => ctX12_isLost l E a x1 x2 r8 p hw sz) mfX12_isLost mvX12_isLost wmX12_204 rfl ⟨Nat.le_of_ble_eq_true rfl, Nat.le_of_ble_eq_true rfl⟩ ⟨rfl, rfl⟩ 0 (ci := 12) (qc := (RX12, TX12, 30)) rfl rfl rfl rfl (Nat.le_of_ble_eq_true rfl) ⟨Nat.zero_le _, Nat.zero_le _⟩ dX12_lost_67) (fun r9 p10 hw => ?_)
            refine v_istore (pc := 70) C [(7, .int r9), (0, .ref (a 0)), (1, .int x1), (2, .int x2), (3, .int x3), (4, .int x4), (5, .int x5), (6, .int x6)] rfl (by decide) dX12_lost_70 ?_
            refine v_iload (pc := 72) C 7 rfl dX12_lost_72 ?_
            refine v_iconst (pc := 74) C 2 ki_2 dX12_lost_74 ?_
            refine v_icmp_ge (pc := 75) C 104 (by decide) dX12_lost_75 (fun hc => ?_) (fun hc => ?_)
            · have hw := hw.1 hc
              refine v_iconst (pc := 104) C 0 ki_0 dX12_lost_104 ?_
              refine v_istore (pc := 105) C [(8, .int 0), (7, .int r9), (0, .ref (a 0)), (1, .int x1), (2, .int x2), (3, .int x3), (4, .int x4), (5, .int x5), (6, .int x6)] rfl (by decide) dX12_lost_105 ?_
              refine v_iconst (pc := 107) C 0 ki_0 dX12_lost_107 ?_
              refine v_istore (pc := 108) C [(9, .int 0), (8, .int 0), (7, .int r9), (0, .ref (a 0)), (1, .int x1), (2, .int x2), (3, .int x3), (4, .int x4), (5, .int x5), (6, .int x6)] rfl (by decide) dX12_lost_108 ?_
              obtain ⟨n, hw⟩ := hw
              refine v_sub (lv' := [(0, .ref (a 0)), (6, .int x6), (7, .int r9), (8, .int 0), (9, .int 0)]) [3, 9, 2, 1, 0] rfl ?_
              refine vlX12_lost_110 C hA a  (fun y16 y17 y18 p19 hw => ?_) n x6 r9 0 0 p10 hw
              refine v_iload (pc := 152) C 2 rfl dX12_lost_152 ?_
              refine v_if_ne (pc := 154) C 161 (by decide) dX12_lost_154 (fun hc => ?_) (fun hc => ?_)
              · have hw := hw.1 hc
                refine v_iload (pc := 161) C 1 rfl dX12_lost_161 ?_
                refine v_iconst (pc := 163) C 2 ki_2 dX12_lost_163 ?_
                refine v_icmp_ne (pc := 164) C 186 (by decide) dX12_lost_164 (fun hc => ?_) (fun hc => ?_)
                · have hw := hw.1 hc
                  refine v_iload (pc := 186) C 3 rfl dX12_lost_186 ?_
                  exact v_ireti (pc := 188) C p19 hA rfl hw dX12_lost_188
                · have hw := hw.2 hc
                  refine v_iconst (pc := 167) C 1 ki_1 dX12_lost_167 ?_
                  refine v_aload_n (pc := 168) C 0 rfl rfl dX12_lost_168 ?_
                  refine v_get (pc := 169) C cfX12 rfl 0 22 rfl (by decide) wfX12_193 rfl dX12_lost_169 ?_
                  refine v_aload_n (pc := 172) C 0 rfl rfl dX12_lost_172 ?_
                  refine v_get (pc := 173) C cfX12 rfl 0 21 rfl (by decide) wfX12_190 rfl dX12_lost_173 ?_
                  refine v_iconst (pc := 176) C (-1) ki_m1 dX12_lost_176 ?_
                  refine v_ixor (pc := 177) C dX12_lost_177 ?_
                  refine v_iand (pc := 178) C dX12_lost_178 ?_
                  refine v_goBi (pc := 179) C (bs := [bModel E a p19]) (cs := []) (cs' := (fun (_ : Unit) => [])) (bs' := (fun (_ : Unit) => [bModel E a p19])) (w' := (fun (_ : Unit) => (fl [bModel E a p19]))) [] rfl rfl (fun _ => rfl) (fun _ => rfl) (fun _ => rfl) (v_runSB (pc := 179) C [.int ((p19.I 22) &&& ((p19.I 21) ^^^ (-1)))] [.int 1] (fun sz => ctX12_ones l E ((p19.I 22) &&& ((p19.I 21) ^^^ (-1))) hw sz) [] rfl rfl rfl mfX12_ones msX12_ones wmX12_211 rfl ⟨Nat.le_of_ble_eq_true rfl, Nat.le_of_ble_eq_true rfl⟩ ⟨rfl, rfl⟩ rfl (Nat.le_of_ble_eq_true rfl) ⟨Nat.zero_le _, Nat.zero_le _⟩ dX12_lost_179) (fun r20 _ hw => ?_)
                  refine v_ishl (pc := 182) C dX12_lost_182 ?_
                  refine v_goto (pc := 183) C 188 (by decide) dX12_lost_183 ?_
                  exact v_ireti (pc := 188) C p19 hA rfl hw dX12_lost_188
              · have hw := hw.2 hc
                refine v_iconst (pc := 157) C 0 ki_0 dX12_lost_157 ?_
                refine v_goto (pc := 158) C 188 (by decide) dX12_lost_158 ?_
                exact v_ireti (pc := 188) C p19 hA rfl hw dX12_lost_188
            · have hw := hw.2 hc
              refine v_iload (pc := 78) C 0 rfl dX12_lost_78 ?_
              refine v_if_ne (pc := 80) C 87 (by decide) dX12_lost_80 (fun hc => ?_) (fun hc => ?_)
              · have hw := hw.1 hc
                refine v_iload (pc := 87) C 7 rfl dX12_lost_87 ?_
                refine v_if_ne (pc := 89) C 99 (by decide) dX12_lost_89 (fun hc => ?_) (fun hc => ?_)
                · have hw := hw.1 hc
                  refine v_aload_n (pc := 99) C 1 rfl rfl dX12_lost_99 ?_
                  refine v_get (pc := 100) C cfX12 rfl 0 22 rfl (by decide) wfX12_193 rfl dX12_lost_100 ?_
                  exact v_ireti (pc := 103) C p10 hA rfl hw dX12_lost_103
                · have hw := hw.2 hc
                  refine v_aload_n (pc := 92) C 1 rfl rfl dX12_lost_92 ?_
                  refine v_get (pc := 93) C cfX12 rfl 0 21 rfl (by decide) wfX12_190 rfl dX12_lost_93 ?_
                  refine v_goto (pc := 96) C 103 (by decide) dX12_lost_96 ?_
                  exact v_ireti (pc := 103) C p10 hA rfl hw dX12_lost_103
              · have hw := hw.2 hc
                refine v_iconst (pc := 83) C (-1) ki_m1 dX12_lost_83 ?_
                refine v_goto (pc := 84) C 103 (by decide) dX12_lost_84 ?_
                exact v_ireti (pc := 103) C p10 hA rfl hw dX12_lost_103
          · have hw := hw.2 hc
            refine v_sub (lv' := [(0, .ref (a 0))]) [0] rfl ?_
            exact vjX12_lost_51 C hA a  p hw
set_option maxHeartbeats 4000000 in
set_option maxRecDepth 100000 in
theorem vjX12_pen_52 (C : VC pr s m args meth c E A cX12_pen 10 (some .int) RX12) (hA : va_A w0 s.heap.size = A) (a : Nat → Nat)  {Post : Int32 → St → Prop} (p : St) (hw : wjX12_pen_52  Post p) : V pr l e rmX12_pen s m args below meth c E A 10 0 0 (MQ below (CQi E Post (fun u => (fl [bModel E a u])) w0 s.heap.size) args s 0 0 A) (fl [bModel E a p]) 52 [(0, .ref (a 0))] [] := by
  refine v_aload_n (pc := 52) C 0 rfl rfl dX12_pen_52 ?_
  refine v_goAi (pc := 53) C (wc' := (fun (u : St) => (fl [bModel E a u]))) (fun _ => rfl) (v_runVA (pc := 53) C [] [] (fun sz => ctX12_badLess l E a p hw sz) mfX12_badLess mvX12_badLess wmX12_175 rfl ⟨Nat.le_of_ble_eq_true rfl, Nat.le_of_ble_eq_true rfl⟩ ⟨rfl, rfl⟩ 0 (ci := 12) (qc := (RX12, TX12, 30)) rfl rfl rfl rfl (Nat.le_of_ble_eq_true rfl) ⟨Nat.zero_le _, Nat.zero_le _⟩ dX12_pen_53) (fun r2 p3 hw => ?_)
  exact v_ireti (pc := 56) C p3 hA rfl hw dX12_pen_56
set_option maxHeartbeats 4000000 in
set_option maxRecDepth 100000 in
theorem vjX12_pen_125 (C : VC pr s m args meth c E A cX12_pen 10 (some .int) RX12) (hA : va_A w0 s.heap.size = A) (a : Nat → Nat)  {Post : Int32 → St → Prop} {self : (Int32 × Int32 × Int32 × Int32 × Int32 × Int32 × Int32 × Int32 × St) → Prop} {KX : Int32 → Int32 → Int32 → St → Prop} (x1 : Int32) (x2 : Int32) (x3 : Int32) (x4 : Int32) (x5 : Int32) (x7 : Int32) (x8 : Int32) (x9 : Int32) (z0 : Int32) (z1 : Int32) (p : St) (hw : wjX12_pen_125  Post self KX x1 x2 x3 x4 x5 x7 x8 x9 z0 z1 p) (hself : ∀ (x1 : Int32) (x2 : Int32) (x3 : Int32) (x4 : Int32) (x5 : Int32) (x6 : Int32) (x7 : Int32) (x8 : Int32) (p : St), self (x1, x2, x3, x4, x5, x6, x7, x8, p) → V pr l e rmX12_pen s m args below meth c E A 10 0 0 (MQ below (CQi E Post (fun u => (fl [bModel E a u])) w0 s.heap.size) args s 0 0 A) (fl [bModel E a p]) 67 [(0, .ref (a 0)), (1, .int x1), (2, .int x2), (3, .int x3), (4, .int x4), (5, .int x5), (6, .int x6), (7, .int x7), (8, .int x8)] []) (hX : ∀ (x5 : Int32) (x6 : Int32) (x7 : Int32) (p : St), KX x5 x6 x7 p → V pr l e rmX12_pen s m args below meth c E A 10 0 0 (MQ below (CQi E Post (fun u => (fl [bModel E a u])) w0 s.heap.size) args s 0 0 A) (fl [bModel E a p]) 162 [(5, .int x5), (6, .int x6), (7, .int x7)] []) : V pr l e rmX12_pen s m args below meth c E A 10 0 0 (MQ below (CQi E Post (fun u => (fl [bModel E a u])) w0 s.heap.size) args s 0 0 A) (fl [bModel E a p]) 125 [(0, .ref (a 0)), (1, .int x1), (2, .int x2), (3, .int x3), (4, .int x4), (5, .int x5), (7, .int x7), (8, .int x8), (9, .int x9)] [.int z0, .int z1] := by
  refine v_iadd (pc := 125) C dX12_pen_125 ?_
  refine v_topi (fun x6_12 ex => ?_)
  have hw := hw x6_12 ex
  refine v_istore (pc := 126) C [(6, .int x6_12), (0, .ref (a 0)), (1, .int x1), (2, .int x2), (3, .int x3), (4, .int x4), (5, .int x5), (7, .int x7), (8, .int x8), (9, .int x9)] rfl (by decide) dX12_pen_126 ?_
  refine v_iload (pc := 128) C 9 rfl dX12_pen_128 ?_
  refine v_if_eq (pc := 130) C 152 (by decide) dX12_pen_130 (fun hc => ?_) (fun hc => ?_)
  · have hw := hw.1 hc
    refine v_iload (pc := 152) C 7 rfl dX12_pen_152 ?_
    refine v_istore (pc := 154) C [(7, .int x7), (6, .int x6_12), (0, .ref (a 0)), (1, .int x1), (2, .int x2), (3, .int x3), (4, .int x4), (5, .int x5), (8, .int x8), (9, .int x9)] rfl (by decide) dX12_pen_154 ?_
    obtain ⟨x8_13, ex⟩ : ∃ y : Int32, y = x8 + (-1) := ⟨_, rfl⟩
    have hw := hw x8_13 ex
    refine v_iinc (pc := 156) C 8 rfl (by rw [ex, ki_m1]) [(8, .int x8_13), (7, .int x7), (6, .int x6_12), (0, .ref (a 0)), (1, .int x1), (2, .int x2), (3, .int x3), (4, .int x4), (5, .int x5), (9, .int x9)] rfl (by decide) dX12_pen_156 ?_
    refine v_goto (pc := 159) C 67 (by decide) dX12_pen_159 ?_
    refine v_sub (lv' := [(0, .ref (a 0)), (1, .int x1), (2, .int x2), (3, .int x3), (4, .int x4), (5, .int x5), (6, .int x6_12), (7, .int x7), (8, .int x8_13)]) [3, 4, 5, 6, 7, 8, 2, 1, 0] rfl ?_
    exact hself x1 x2 x3 x4 x5 x6_12 x7 x8_13 p hw
  · have hw := hw.2 hc
    refine v_bipush (pc := 133) C 10 kb_10 dX12_pen_133 ?_
    refine v_iload (pc := 135) C 8 rfl dX12_pen_135 ?_
    refine v_bipush (pc := 137) C 9 kb_9 dX12_pen_137 ?_
    refine v_idiv (pc := 139) C (by decide) dX12_pen_139 ?_
    refine v_imul (pc := 140) C dX12_pen_140 ?_
    refine v_iload (pc := 141) C 8 rfl dX12_pen_141 ?_
    refine v_bipush (pc := 143) C 9 kb_9 dX12_pen_143 ?_
    refine v_irem (pc := 145) C (by decide) dX12_pen_145 ?_
    refine v_iadd (pc := 146) C dX12_pen_146 ?_
    refine v_iconst (pc := 147) C 1 ki_1 dX12_pen_147 ?_
    refine v_iadd (pc := 148) C dX12_pen_148 ?_
    refine v_goto (pc := 149) C 154 (by decide) dX12_pen_149 ?_
    refine v_topi (fun x7_14 ex => ?_)
    have hw := hw x7_14 ex
    refine v_istore (pc := 154) C [(7, .int x7_14), (6, .int x6_12), (0, .ref (a 0)), (1, .int x1), (2, .int x2), (3, .int x3), (4, .int x4), (5, .int x5), (8, .int x8), (9, .int x9)] rfl (by decide) dX12_pen_154 ?_
    obtain ⟨x8_15, ex⟩ : ∃ y : Int32, y = x8 + (-1) := ⟨_, rfl⟩
    have hw := hw x8_15 ex
    refine v_iinc (pc := 156) C 8 rfl (by rw [ex, ki_m1]) [(8, .int x8_15), (7, .int x7_14), (6, .int x6_12), (0, .ref (a 0)), (1, .int x1), (2, .int x2), (3, .int x3), (4, .int x4), (5, .int x5), (9, .int x9)] rfl (by decide) dX12_pen_156 ?_
    refine v_goto (pc := 159) C 67 (by decide) dX12_pen_159 ?_
    refine v_sub (lv' := [(0, .ref (a 0)), (1, .int x1), (2, .int x2), (3, .int x3), (4, .int x4), (5, .int x5), (6, .int x6_12), (7, .int x7_14), (8, .int x8_15)]) [3, 4, 5, 6, 7, 8, 2, 1, 0] rfl ?_
    exact hself x1 x2 x3 x4 x5 x6_12 x7_14 x8_15 p hw
set_option maxHeartbeats 4000000 in
set_option maxRecDepth 100000 in
theorem vjX12_pen_111 (C : VC pr s m args meth c E A cX12_pen 10 (some .int) RX12) (hA : va_A w0 s.heap.size = A) (a : Nat → Nat)  {Post : Int32 → St → Prop} {self : (Int32 × Int32 × Int32 × Int32 × Int32 × Int32 × Int32 × Int32 × St) → Prop} {KX : Int32 → Int32 → Int32 → St → Prop} (x1 : Int32) (x2 : Int32) (x3 : Int32) (x4 : Int32) (x5 : Int32) (x6 : Int32) (x7 : Int32) (x8 : Int32) (z0 : Int32) (p : St) (hw : wjX12_pen_111  Post self KX x1 x2 x3 x4 x5 x6 x7 x8 z0 p) (hself : ∀ (x1 : Int32) (x2 : Int32) (x3 : Int32) (x4 : Int32) (x5 : Int32) (x6 : Int32) (x7 : Int32) (x8 : Int32) (p : St), self (x1, x2, x3, x4, x5, x6, x7, x8, p) → V pr l e rmX12_pen s m args below meth c E A 10 0 0 (MQ below (CQi E Post (fun u => (fl [bModel E a u])) w0 s.heap.size) args s 0 0 A) (fl [bModel E a p]) 67 [(0, .ref (a 0)), (1, .int x1), (2, .int x2), (3, .int x3), (4, .int x4), (5, .int x5), (6, .int x6), (7, .int x7), (8, .int x8)] []) (hX : ∀ (x5 : Int32) (x6 : Int32) (x7 : Int32) (p : St), KX x5 x6 x7 p → V pr l e rmX12_pen s m args below meth c E A 10 0 0 (MQ below (CQi E Post (fun u => (fl [bModel E a u])) w0 s.heap.size) args s 0 0 A) (fl [bModel E a p]) 162 [(5, .int x5), (6, .int x6), (7, .int x7)] []) : V pr l e rmX12_pen s m args below meth c E A 10 0 0 (MQ below (CQi E Post (fun u => (fl [bModel E a u])) w0 s.heap.size) args s 0 0 A) (fl [bModel E a p]) 111 [(0, .ref (a 0)), (1, .int x1), (2, .int x2), (3, .int x3), (4, .int x4), (5, .int x5), (6, .int x6), (7, .int x7), (8, .int x8)] [.int z0] := by
  refine v_istore (pc := 111) C [(9, .int z0), (0, .ref (a 0)), (1, .int x1), (2, .int x2), (3, .int x3), (4, .int x4), (5, .int x5), (6, .int x6), (7, .int x7), (8, .int x8)] rfl (by decide) dX12_pen_111 ?_
  refine v_iload (pc := 113) C 7 rfl dX12_pen_113 ?_
  refine v_iload (pc := 115) C 0 rfl dX12_pen_115 ?_
  refine v_if_eq (pc := 117) C 124 (by decide) dX12_pen_117 (fun hc => ?_) (fun hc => ?_)
  · have hw := hw.1 hc
    refine v_iconst (pc := 124) C 0 ki_0 dX12_pen_124 ?_
    refine v_sub (lv' := [(0, .ref (a 0)), (1, .int x1), (2, .int x2), (3, .int x3), (4, .int x4), (5, .int x5), (7, .int x7), (8, .int x8), (9, .int z0)]) [1, 2, 3, 4, 5, 6, 8, 9, 0] rfl ?_
    exact vjX12_pen_125 C hA a  x1 x2 x3 x4 x5 x7 x8 z0 0 x6 p hw hself hX
  · have hw := hw.2 hc
    refine v_iconst (pc := 120) C 1 ki_1 dX12_pen_120 ?_
    refine v_goto (pc := 121) C 125 (by decide) dX12_pen_121 ?_
    refine v_sub (lv' := [(0, .ref (a 0)), (1, .int x1), (2, .int x2), (3, .int x3), (4, .int x4), (5, .int x5), (7, .int x7), (8, .int x8), (9, .int z0)]) [1, 2, 3, 4, 5, 6, 8, 9, 0] rfl ?_
    exact vjX12_pen_125 C hA a  x1 x2 x3 x4 x5 x7 x8 z0 1 x6 p hw hself hX
set_option maxHeartbeats 4000000 in
set_option maxRecDepth 100000 in
theorem vlX12_pen_67 (C : VC pr s m args meth c E A cX12_pen 10 (some .int) RX12) (hA : va_A w0 s.heap.size = A) (a : Nat → Nat)  {Post : Int32 → St → Prop} {KX : Int32 → Int32 → Int32 → St → Prop} (hX : ∀ (x5 : Int32) (x6 : Int32) (x7 : Int32) (p : St), KX x5 x6 x7 p → V pr l e rmX12_pen s m args below meth c E A 10 0 0 (MQ below (CQi E Post (fun u => (fl [bModel E a u])) w0 s.heap.size) args s 0 0 A) (fl [bModel E a p]) 162 [(5, .int x5), (6, .int x6), (7, .int x7)] []) : ∀ (n : Nat) (x1 : Int32) (x2 : Int32) (x3 : Int32) (x4 : Int32) (x5 : Int32) (x6 : Int32) (x7 : Int32) (x8 : Int32) (p : St), wLX12_pen_67  Post KX n (x1, x2, x3, x4, x5, x6, x7, x8, p) → V pr l e rmX12_pen s m args below meth c E A 10 0 0 (MQ below (CQi E Post (fun u => (fl [bModel E a u])) w0 s.heap.size) args s 0 0 A) (fl [bModel E a p]) 67 [(0, .ref (a 0)), (1, .int x1), (2, .int x2), (3, .int x3), (4, .int x4), (5, .int x5), (6, .int x6), (7, .int x7), (8, .int x8)] [] := by
  intro n
  induction n with
  | zero => intro x1 x2 x3 x4 x5 x6 x7 x8 p hw; exact absurd hw id
  | succ n hself =>
    intro x1 x2 x3 x4 x5 x6 x7 x8 p hw
    have hw : wlX12_pen_67  Post KX (wLX12_pen_67  Post KX n) x1 x2 x3 x4 x5 x6 x7 x8 p := hw
    refine v_iload (pc := 67) C 8 rfl dX12_pen_67 ?_
    refine v_if_lt (pc := 69) C 162 (by decide) dX12_pen_69 (fun hc => ?_) (fun hc => ?_)
    · have hw := hw.1 hc
      refine v_sub (lv' := [(5, .int x5), (6, .int x6), (7, .int x7)]) [5, 6, 7] rfl ?_
      exact hX x5 x6 x7 p hw
    · have hw := hw.2 hc
      refine v_aload_n (pc := 72) C 0 rfl rfl dX12_pen_72 ?_
      refine v_iload_n (pc := 73) C 1 rfl rfl dX12_pen_73 ?_
      refine v_iload_n (pc := 74) C 2 rfl rfl dX12_pen_74 ?_
      refine v_iload (pc := 75) C 8 rfl dX12_pen_75 ?_
      refine v_bipush (pc := 77) C 9 kb_9 dX12_pen_77 ?_
      refine v_idiv (pc := 79) C (by decide) dX12_pen_79 ?_
      refine v_iload (pc := 80) C 8 rfl dX12_pen_80 ?_
      refine v_bipush (pc := 82) C 9 kb_9 dX12_pen_82 ?_
      refine v_irem (pc := 84) C (by decide) dX12_pen_84 ?_
      refine v_iconst (pc := 85) C 1 ki_1 dX12_pen_85 ?_
      refine v_iadd (pc := 86) C dX12_pen_86 ?_
      refine v_iload_n (pc := 87) C 3 rfl rfl dX12_pen_87 ?_
      refine v_goBi (pc := 88) C (bs := [bModel E a p]) (cs := []) (cs' := (fun (_ : Unit) => [])) (bs' := (fun (_ : Unit) => [bModel E a p])) (w' := (fun (_ : Unit) => (fl [bModel E a p]))) [] rfl rfl (fun _ => rfl) (fun _ => rfl) (fun _ => rfl) (v_runSB (pc := 88) C [.int (x8 / 9), .int ((x8 - x8 / 9 * 9) + 1), .int x3] [.int x2, .int x1, .ref (a 0)] (fun sz => ctX12_forceOf l E (x8 / 9) ((x8 - x8 / 9 * 9) + 1) x3 hw sz) [] rfl rfl rfl mfX12_forceOf msX12_forceOf wmX12_89 rfl ⟨Nat.le_of_ble_eq_true rfl, Nat.le_of_ble_eq_true rfl⟩ ⟨rfl, rfl⟩ rfl (Nat.le_of_ble_eq_true rfl) ⟨Nat.zero_le _, Nat.zero_le _⟩ dX12_pen_88) (fun r9 _ hw => ?_)
      refine v_goAi (pc := 91) C (wc' := (fun (u : St) => (fl [bModel E a u]))) (fun _ => rfl) (v_runVA (pc := 91) C [.int x1, .int x2, .int r9] [] (fun sz => ctX12_isLost l E a x1 x2 r9 p hw sz) mfX12_isLost mvX12_isLost wmX12_204 rfl ⟨Nat.le_of_ble_eq_true rfl, Nat.le_of_ble_eq_true rfl⟩ ⟨rfl, rfl⟩ 0 (ci := 12) (qc := (RX12, TX12, 30)) rfl rfl rfl rfl (Nat.le_of_ble_eq_true rfl) ⟨Nat.zero_le _, Nat.zero_le _⟩ dX12_pen_91) (fun r10 p11 hw => ?_)
      refine v_if_eq (pc := 94) C 110 (by decide) dX12_pen_94 (fun hc => ?_) (fun hc => ?_)
      · have hw := hw.1 hc
        refine v_iconst (pc := 110) C 0 ki_0 dX12_pen_110 ?_
        refine v_sub (lv' := [(0, .ref (a 0)), (1, .int x1), (2, .int x2), (3, .int x3), (4, .int x4), (5, .int x5), (6, .int x6), (7, .int x7), (8, .int x8)]) [0, 1, 2, 3, 4, 5, 6, 7, 8] rfl ?_
        exact vjX12_pen_111 C hA a  x1 x2 x3 x4 x5 x6 x7 x8 0 p11 hw hself hX
      · have hw := hw.2 hc
        refine v_aload_n (pc := 97) C 0 rfl rfl dX12_pen_97 ?_
        refine v_iload (pc := 98) C 4 rfl dX12_pen_98 ?_
        refine v_goAi (pc := 100) C (wc' := (fun (_ : Unit) => (fl [bModel E a p11]))) (fun _ => rfl) (v_runVA (pc := 100) C [.int x4] [] (fun sz => ctX12_fits l E a x4 p11 hw sz) mfX12_fits mvX12_fits wmX12_208 rfl ⟨Nat.le_of_ble_eq_true rfl, Nat.le_of_ble_eq_true rfl⟩ ⟨rfl, rfl⟩ 0 (ci := 12) (qc := (RX12, TX12, 30)) rfl rfl rfl rfl (Nat.le_of_ble_eq_true rfl) ⟨Nat.zero_le _, Nat.zero_le _⟩ dX12_pen_100) (fun r16 _ hw => ?_)
        refine v_if_eq (pc := 103) C 110 (by decide) dX12_pen_103 (fun hc => ?_) (fun hc => ?_)
        · have hw := hw.1 hc
          refine v_iconst (pc := 110) C 0 ki_0 dX12_pen_110 ?_
          refine v_sub (lv' := [(0, .ref (a 0)), (1, .int x1), (2, .int x2), (3, .int x3), (4, .int x4), (5, .int x5), (6, .int x6), (7, .int x7), (8, .int x8)]) [0, 1, 2, 3, 4, 5, 6, 7, 8] rfl ?_
          exact vjX12_pen_111 C hA a  x1 x2 x3 x4 x5 x6 x7 x8 0 p11 hw hself hX
        · have hw := hw.2 hc
          refine v_iconst (pc := 106) C 1 ki_1 dX12_pen_106 ?_
          refine v_goto (pc := 107) C 111 (by decide) dX12_pen_107 ?_
          refine v_sub (lv' := [(0, .ref (a 0)), (1, .int x1), (2, .int x2), (3, .int x3), (4, .int x4), (5, .int x5), (6, .int x6), (7, .int x7), (8, .int x8)]) [0, 1, 2, 3, 4, 5, 6, 7, 8] rfl ?_
          exact vjX12_pen_111 C hA a  x1 x2 x3 x4 x5 x6 x7 x8 1 p11 hw hself hX
set_option maxHeartbeats 4000000 in
set_option maxRecDepth 100000 in
theorem ctX12_pen (l : Launch) (E : VE) (a : Nat → Nat) (x1 : Int32) (x2 : Int32) (x3 : Int32) (x4 : Int32) (x5 : Int32) (p : St)  {Post : Int32 → St → Prop} (hw : wpX12_pen x1 x2 x3 x4 x5 p Post) (sz : Nat) : Met l yX12_pen (mW yX12_pen cX12_pen 10 (some .int)) rmX12_pen (CPre E [.ref (a 0), .int x1, .int x2, .int x3, .int x4, .int x5] sz (fl [bModel E a p])) (CQi E Post (fun u => (fl [bModel E a u])) (fl [bModel E a p]) sz) 0 0 (va_A (fl [bModel E a p]) sz) := by
  refine v_met (by decide) (Nat.le_of_ble_eq_true rfl) ?_
  intro pr e s m below meth c A hsz hA C
  subst hsz
  refine v_aload_n (pc := 0) C 0 rfl rfl dX12_pen_0 ?_
  refine v_iload_n (pc := 1) C 1 rfl rfl dX12_pen_1 ?_
  refine v_goAi (pc := 2) C (wc' := (fun (_ : Unit) => (fl [bModel E a p]))) (fun _ => rfl) (v_runVA (pc := 2) C [.int x1] [] (fun sz => ctX12_isSheet l E a x1 p hw sz) mfX12_isSheet mvX12_isSheet wmX12_172 rfl ⟨Nat.le_of_ble_eq_true rfl, Nat.le_of_ble_eq_true rfl⟩ ⟨rfl, rfl⟩ 0 (ci := 12) (qc := (RX12, TX12, 30)) rfl rfl rfl rfl (Nat.le_of_ble_eq_true rfl) ⟨Nat.zero_le _, Nat.zero_le _⟩ dX12_pen_2) (fun r1 _ hw => ?_)
  refine v_if_eq (pc := 5) C 52 (by decide) dX12_pen_5 (fun hc => ?_) (fun hc => ?_)
  · have hw := hw.1 hc
    refine v_sub (lv' := [(0, .ref (a 0))]) [0] rfl ?_
    exact vjX12_pen_52 C hA a  p hw
  · have hw := hw.2 hc
    refine v_aload_n (pc := 8) C 0 rfl rfl dX12_pen_8 ?_
    refine v_iload_n (pc := 9) C 2 rfl rfl dX12_pen_9 ?_
    refine v_goAi (pc := 10) C (wc' := (fun (_ : Unit) => (fl [bModel E a p]))) (fun _ => rfl) (v_runVA (pc := 10) C [.int x2] [] (fun sz => ctX12_areNotes l E a x2 p hw sz) mfX12_areNotes mvX12_areNotes wmX12_199 rfl ⟨Nat.le_of_ble_eq_true rfl, Nat.le_of_ble_eq_true rfl⟩ ⟨rfl, rfl⟩ 0 (ci := 12) (qc := (RX12, TX12, 30)) rfl rfl rfl rfl (Nat.le_of_ble_eq_true rfl) ⟨Nat.zero_le _, Nat.zero_le _⟩ dX12_pen_10) (fun r4 _ hw => ?_)
    refine v_if_eq (pc := 13) C 52 (by decide) dX12_pen_13 (fun hc => ?_) (fun hc => ?_)
    · have hw := hw.1 hc
      refine v_sub (lv' := [(0, .ref (a 0))]) [0] rfl ?_
      exact vjX12_pen_52 C hA a  p hw
    · have hw := hw.2 hc
      refine v_iload_n (pc := 16) C 3 rfl rfl dX12_pen_16 ?_
      refine v_i2l (pc := 17) C dX12_pen_17 ?_
      refine v_lconst (pc := 18) C 0 kl_0 dX12_pen_18 ?_
      refine v_ldc2 (pc := 19) C 5 wlX12_60 dX12_pen_19 ?_
      refine v_goBi (pc := 22) C (bs := [bModel E a p]) (cs := []) (cs' := (fun (_ : Unit) => [])) (bs' := (fun (_ : Unit) => [bModel E a p])) (w' := (fun (_ : Unit) => (fl [bModel E a p]))) [] rfl rfl (fun _ => rfl) (fun _ => rfl) (fun _ => rfl) (v_runSB (pc := 22) C [.long (x3.toInt64), .long 0, .long 5] [] (fun sz => ctX12_in l E (x3.toInt64) 0 5 hw sz) [] rfl rfl rfl mfX12_in msX12_in wmX12_56 rfl ⟨Nat.le_of_ble_eq_true rfl, Nat.le_of_ble_eq_true rfl⟩ ⟨rfl, rfl⟩ rfl (Nat.le_of_ble_eq_true rfl) ⟨Nat.zero_le _, Nat.zero_le _⟩ dX12_pen_22) (fun r5 _ hw => ?_)
      refine v_if_eq (pc := 25) C 52 (by decide) dX12_pen_25 (fun hc => ?_) (fun hc => ?_)
      · have hw := hw.1 hc
        refine v_sub (lv' := [(0, .ref (a 0))]) [0] rfl ?_
        exact vjX12_pen_52 C hA a  p hw
      · have hw := hw.2 hc
        refine v_iload (pc := 28) C 4 rfl dX12_pen_28 ?_
        refine v_i2l (pc := 30) C dX12_pen_30 ?_
        refine v_lconst (pc := 31) C 1 kl_1 dX12_pen_31 ?_
        refine v_ldc2 (pc := 32) C 4095 wlX12_104 dX12_pen_32 ?_
        refine v_goBi (pc := 35) C (bs := [bModel E a p]) (cs := []) (cs' := (fun (_ : Unit) => [])) (bs' := (fun (_ : Unit) => [bModel E a p])) (w' := (fun (_ : Unit) => (fl [bModel E a p]))) [] rfl rfl (fun _ => rfl) (fun _ => rfl) (fun _ => rfl) (v_runSB (pc := 35) C [.long (x4.toInt64), .long 1, .long 4095] [] (fun sz => ctX12_in l E (x4.toInt64) 1 4095 hw sz) [] rfl rfl rfl mfX12_in msX12_in wmX12_56 rfl ⟨Nat.le_of_ble_eq_true rfl, Nat.le_of_ble_eq_true rfl⟩ ⟨rfl, rfl⟩ rfl (Nat.le_of_ble_eq_true rfl) ⟨Nat.zero_le _, Nat.zero_le _⟩ dX12_pen_35) (fun r6 _ hw => ?_)
        refine v_if_eq (pc := 38) C 52 (by decide) dX12_pen_38 (fun hc => ?_) (fun hc => ?_)
        · have hw := hw.1 hc
          refine v_sub (lv' := [(0, .ref (a 0))]) [0] rfl ?_
          exact vjX12_pen_52 C hA a  p hw
        · have hw := hw.2 hc
          refine v_iload (pc := 41) C 5 rfl dX12_pen_41 ?_
          refine v_i2l (pc := 43) C dX12_pen_43 ?_
          refine v_lconst (pc := 44) C 0 kl_0 dX12_pen_44 ?_
          refine v_lconst (pc := 45) C 1 kl_1 dX12_pen_45 ?_
          refine v_goBi (pc := 46) C (bs := [bModel E a p]) (cs := []) (cs' := (fun (_ : Unit) => [])) (bs' := (fun (_ : Unit) => [bModel E a p])) (w' := (fun (_ : Unit) => (fl [bModel E a p]))) [] rfl rfl (fun _ => rfl) (fun _ => rfl) (fun _ => rfl) (v_runSB (pc := 46) C [.long (x5.toInt64), .long 0, .long 1] [] (fun sz => ctX12_in l E (x5.toInt64) 0 1 hw sz) [] rfl rfl rfl mfX12_in msX12_in wmX12_56 rfl ⟨Nat.le_of_ble_eq_true rfl, Nat.le_of_ble_eq_true rfl⟩ ⟨rfl, rfl⟩ rfl (Nat.le_of_ble_eq_true rfl) ⟨Nat.zero_le _, Nat.zero_le _⟩ dX12_pen_46) (fun r7 _ hw => ?_)
          refine v_if_ne (pc := 49) C 57 (by decide) dX12_pen_49 (fun hc => ?_) (fun hc => ?_)
          · have hw := hw.1 hc
            refine v_iconst (pc := 57) C 0 ki_0 dX12_pen_57 ?_
            refine v_istore (pc := 58) C [(6, .int 0), (0, .ref (a 0)), (1, .int x1), (2, .int x2), (3, .int x3), (4, .int x4), (5, .int x5)] rfl (by decide) dX12_pen_58 ?_
            refine v_iconst (pc := 60) C (-1) ki_m1 dX12_pen_60 ?_
            refine v_topi (fun x7_8 ex => ?_)
            have hw := hw x7_8 ex
            refine v_istore (pc := 61) C [(7, .int x7_8), (6, .int 0), (0, .ref (a 0)), (1, .int x1), (2, .int x2), (3, .int x3), (4, .int x4), (5, .int x5)] rfl (by decide) dX12_pen_61 ?_
            refine v_bipush (pc := 63) C 53 kb_53 dX12_pen_63 ?_
            refine v_istore (pc := 65) C [(8, .int 53), (7, .int x7_8), (6, .int 0), (0, .ref (a 0)), (1, .int x1), (2, .int x2), (3, .int x3), (4, .int x4), (5, .int x5)] rfl (by decide) dX12_pen_65 ?_
            obtain ⟨n, hw⟩ := hw
            refine v_sub (lv' := [(0, .ref (a 0)), (1, .int x1), (2, .int x2), (3, .int x3), (4, .int x4), (5, .int x5), (6, .int 0), (7, .int x7_8), (8, .int 53)]) [3, 4, 5, 6, 7, 8, 2, 1, 0] rfl ?_
            refine vlX12_pen_67 C hA a  (fun y17 y18 y19 p20 hw => ?_) n x1 x2 x3 x4 x5 0 x7_8 53 p hw
            refine v_iload (pc := 162) C 0 rfl dX12_pen_162 ?_
            refine v_if_ne (pc := 164) C 172 (by decide) dX12_pen_164 (fun hc => ?_) (fun hc => ?_)
            · have hw := hw.1 hc
              refine v_iload (pc := 172) C 2 rfl dX12_pen_172 ?_
              exact v_ireti (pc := 174) C p20 hA rfl hw dX12_pen_174
            · have hw := hw.2 hc
              refine v_iload (pc := 167) C 1 rfl dX12_pen_167 ?_
              refine v_goto (pc := 169) C 174 (by decide) dX12_pen_169 ?_
              exact v_ireti (pc := 174) C p20 hA rfl hw dX12_pen_174
          · have hw := hw.2 hc
            refine v_sub (lv' := [(0, .ref (a 0))]) [0] rfl ?_
            exact vjX12_pen_52 C hA a  p hw
end

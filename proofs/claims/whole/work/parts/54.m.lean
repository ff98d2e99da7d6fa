section
variable {pr : Program} {l : Launch} {e : Env} {s : State} {m : MethodId} {args : Array Value} {below : List Frame} {meth : Method} {c : Code} {E : VE} {A : Nat → Prop} {w0 : va_W}
theorem dX4_placeOf_0 : decode cX4_placeOf 0 = .ok (.iconst 2, 1) := by decide +kernel
theorem dX4_placeOf_1 : decode cX4_placeOf 1 = .ok (.iload_n 0, 1) := by decide +kernel
theorem dX4_placeOf_2 : decode cX4_placeOf 2 = .ok (.bipush 14, 2) := by decide +kernel
theorem dX4_placeOf_4 : decode cX4_placeOf 4 = .ok (.imul, 1) := by decide +kernel
theorem dX4_placeOf_5 : decode cX4_placeOf 5 = .ok (.iadd, 1) := by decide +kernel
theorem dX4_placeOf_6 : decode cX4_placeOf 6 = .ok (.iload_n 1, 1) := by decide +kernel
theorem dX4_placeOf_7 : decode cX4_placeOf 7 = .ok (.iadd, 1) := by decide +kernel
theorem dX4_placeOf_8 : decode cX4_placeOf 8 = .ok (.ireturn, 1) := by decide +kernel
theorem dX4_dentOf_0 : decode cX4_dentOf 0 = .ok (.aload_n 0, 1) := by decide +kernel
theorem dX4_dentOf_1 : decode cX4_dentOf 1 = .ok (.getfield 11, 3) := by decide +kernel
theorem dX4_dentOf_4 : decode cX4_dentOf 4 = .ok (.iload_n 1, 1) := by decide +kernel
theorem dX4_dentOf_5 : decode cX4_dentOf 5 = .ok (.iconst 2, 1) := by decide +kernel
theorem dX4_dentOf_6 : decode cX4_dentOf 6 = .ok (.iload_n 2, 1) := by decide +kernel
theorem dX4_dentOf_7 : decode cX4_dentOf 7 = .ok (.iadd, 1) := by decide +kernel
theorem dX4_dentOf_8 : decode cX4_dentOf 8 = .ok (.invokestatic 55, 3) := by decide +kernel
theorem dX4_dentOf_11 : decode cX4_dentOf 11 = .ok (.iaload, 1) := by decide +kernel
theorem dX4_dentOf_12 : decode cX4_dentOf 12 = .ok (.ireturn, 1) := by decide +kernel
theorem dX4_noteCount_0 : decode cX4_noteCount 0 = .ok (.aload_n 0, 1) := by decide +kernel
theorem dX4_noteCount_1 : decode cX4_noteCount 1 = .ok (.getfield 11, 3) := by decide +kernel
theorem dX4_noteCount_4 : decode cX4_noteCount 4 = .ok (.iconst 1, 1) := by decide +kernel
theorem dX4_noteCount_5 : decode cX4_noteCount 5 = .ok (.iaload, 1) := by decide +kernel
theorem dX4_noteCount_6 : decode cX4_noteCount 6 = .ok (.ireturn, 1) := by decide +kernel
theorem dX4_forceDown_0 : decode cX4_forceDown 0 = .ok (.iload_n 2, 1) := by decide +kernel
theorem dX4_forceDown_1 : decode cX4_forceDown 1 = .ok (.ifCond .lt 9, 3) := by decide +kernel
theorem dX4_forceDown_4 : decode cX4_forceDown 4 = .ok (.iload_n 2, 1) := by decide +kernel
theorem dX4_forceDown_5 : decode cX4_forceDown 5 = .ok (.bipush 6, 2) := by decide +kernel
theorem dX4_forceDown_7 : decode cX4_forceDown 7 = .ok (.if_icmp .lt 7, 3) := by decide +kernel
theorem dX4_forceDown_10 : decode cX4_forceDown 10 = .ok (.iconst 0, 1) := by decide +kernel
theorem dX4_forceDown_11 : decode cX4_forceDown 11 = .ok (.goto 14, 3) := by decide +kernel
theorem dX4_forceDown_14 : decode cX4_forceDown 14 = .ok (.aload_n 0, 1) := by decide +kernel
theorem dX4_forceDown_15 : decode cX4_forceDown 15 = .ok (.getfield 40, 3) := by decide +kernel
theorem dX4_forceDown_18 : decode cX4_forceDown 18 = .ok (.iload_n 1, 1) := by decide +kernel
theorem dX4_forceDown_19 : decode cX4_forceDown 19 = .ok (.bipush 6, 2) := by decide +kernel
theorem dX4_forceDown_21 : decode cX4_forceDown 21 = .ok (.imul, 1) := by decide +kernel
theorem dX4_forceDown_22 : decode cX4_forceDown 22 = .ok (.iload_n 2, 1) := by decide +kernel
theorem dX4_forceDown_23 : decode cX4_forceDown 23 = .ok (.iadd, 1) := by decide +kernel
theorem dX4_forceDown_24 : decode cX4_forceDown 24 = .ok (.iaload, 1) := by decide +kernel
theorem dX4_forceDown_25 : decode cX4_forceDown 25 = .ok (.ireturn, 1) := by decide +kernel
theorem dX4_forceOn_0 : decode cX4_forceOn 0 = .ok (.aload_n 0, 1) := by decide +kernel
theorem dX4_forceOn_1 : decode cX4_forceOn 1 = .ok (.iload_n 1, 1) := by decide +kernel
theorem dX4_forceOn_2 : decode cX4_forceOn 2 = .ok (.iload_n 2, 1) := by decide +kernel
theorem dX4_forceOn_3 : decode cX4_forceOn 3 = .ok (.aload_n 0, 1) := by decide +kernel
theorem dX4_forceOn_4 : decode cX4_forceOn 4 = .ok (.getfield 37, 3) := by decide +kernel
theorem dX4_forceOn_7 : decode cX4_forceOn 7 = .ok (.iload_n 1, 1) := by decide +kernel
theorem dX4_forceOn_8 : decode cX4_forceOn 8 = .ok (.iaload, 1) := by decide +kernel
theorem dX4_forceOn_9 : decode cX4_forceOn 9 = .ok (.isub, 1) := by decide +kernel
theorem dX4_forceOn_10 : decode cX4_forceOn 10 = .ok (.invokevirtual 80, 3) := by decide +kernel
theorem dX4_forceOn_13 : decode cX4_forceOn 13 = .ok (.ireturn, 1) := by decide +kernel
theorem dX11_dentInto_0 : decode cX11_dentInto 0 = .ok (.iconst 0, 1) := by decide +kernel
theorem dX11_dentInto_1 : decode cX11_dentInto 1 = .ok (.istore 4, 2) := by decide +kernel
theorem dX11_dentInto_3 : decode cX11_dentInto 3 = .ok (.iload 4, 2) := by decide +kernel
theorem dX11_dentInto_5 : decode cX11_dentInto 5 = .ok (.bipush 12, 2) := by decide +kernel
theorem dX11_dentInto_7 : decode cX11_dentInto 7 = .ok (.if_icmp .ge 49, 3) := by decide +kernel
theorem dX11_dentInto_10 : decode cX11_dentInto 10 = .ok (.iload_n 1, 1) := by decide +kernel
theorem dX11_dentInto_11 : decode cX11_dentInto 11 = .ok (.iload 4, 2) := by decide +kernel
theorem dX11_dentInto_13 : decode cX11_dentInto 13 = .ok (.iadd, 1) := by decide +kernel
theorem dX11_dentInto_14 : decode cX11_dentInto 14 = .ok (.istore 5, 2) := by decide +kernel
theorem dX11_dentInto_16 : decode cX11_dentInto 16 = .ok (.iload_n 2, 1) := by decide +kernel
theorem dX11_dentInto_17 : decode cX11_dentInto 17 = .ok (.iload 4, 2) := by decide +kernel
theorem dX11_dentInto_19 : decode cX11_dentInto 19 = .ok (.ishr, 1) := by decide +kernel
theorem dX11_dentInto_20 : decode cX11_dentInto 20 = .ok (.iconst 1, 1) := by decide +kernel
theorem dX11_dentInto_21 : decode cX11_dentInto 21 = .ok (.iand, 1) := by decide +kernel
theorem dX11_dentInto_22 : decode cX11_dentInto 22 = .ok (.ifCond .eq 28, 3) := by decide +kernel
theorem dX11_dentInto_25 : decode cX11_dentInto 25 = .ok (.iload 5, 2) := by decide +kernel
theorem dX11_dentInto_27 : decode cX11_dentInto 27 = .ok (.ifCond .lt 23, 3) := by decide +kernel
theorem dX11_dentInto_30 : decode cX11_dentInto 30 = .ok (.iload 5, 2) := by decide +kernel
theorem dX11_dentInto_32 : decode cX11_dentInto 32 = .ok (.aload_n 0, 1) := by decide +kernel
theorem dX11_dentInto_33 : decode cX11_dentInto 33 = .ok (.arraylength, 1) := by decide +kernel
theorem dX11_dentInto_34 : decode cX11_dentInto 34 = .ok (.if_icmp .ge 16, 3) := by decide +kernel
theorem dX11_dentInto_37 : decode cX11_dentInto 37 = .ok (.aload_n 0, 1) := by decide +kernel
theorem dX11_dentInto_38 : decode cX11_dentInto 38 = .ok (.iload 5, 2) := by decide +kernel
theorem dX11_dentInto_40 : decode cX11_dentInto 40 = .ok (.iaload, 1) := by decide +kernel
theorem dX11_dentInto_41 : decode cX11_dentInto 41 = .ok (.iload_n 3, 1) := by decide +kernel
theorem dX11_dentInto_42 : decode cX11_dentInto 42 = .ok (.if_icmp .ge 8, 3) := by decide +kernel
theorem dX11_dentInto_45 : decode cX11_dentInto 45 = .ok (.aload_n 0, 1) := by decide +kernel
theorem dX11_dentInto_46 : decode cX11_dentInto 46 = .ok (.iload 5, 2) := by decide +kernel
theorem dX11_dentInto_48 : decode cX11_dentInto 48 = .ok (.iload_n 3, 1) := by decide +kernel
theorem dX11_dentInto_49 : decode cX11_dentInto 49 = .ok (.iastore, 1) := by decide +kernel
theorem dX11_dentInto_50 : decode cX11_dentInto 50 = .ok (.iinc 4 1, 3) := by decide +kernel
theorem dX11_dentInto_53 : decode cX11_dentInto 53 = .ok (.goto (-50), 3) := by decide +kernel
theorem dX11_dentInto_56 : decode cX11_dentInto 56 = .ok (.return_, 1) := by decide +kernel
theorem dX2_look_0 : decode cX2_look 0 = .ok (.iconst 0, 1) := by decide +kernel
theorem dX2_look_1 : decode cX2_look 1 = .ok (.istore 4, 2) := by decide +kernel
theorem dX2_look_3 : decode cX2_look 3 = .ok (.iload 4, 2) := by decide +kernel
theorem dX2_look_5 : decode cX2_look 5 = .ok (.bipush 12, 2) := by decide +kernel
theorem dX2_look_7 : decode cX2_look 7 = .ok (.if_icmp .ge 31, 3) := by decide +kernel
theorem dX2_look_10 : decode cX2_look 10 = .ok (.aload_n 0, 1) := by decide +kernel
theorem dX2_look_11 : decode cX2_look 11 = .ok (.getfield 9, 3) := by decide +kernel
theorem dX2_look_14 : decode cX2_look 14 = .ok (.iload 4, 2) := by decide +kernel
theorem dX2_look_16 : decode cX2_look 16 = .ok (.aload_n 1, 1) := by decide +kernel
theorem dX2_look_17 : decode cX2_look 17 = .ok (.iload_n 2, 1) := by decide +kernel
theorem dX2_look_18 : decode cX2_look 18 = .ok (.iload 4, 2) := by decide +kernel
theorem dX2_look_20 : decode cX2_look 20 = .ok (.invokevirtual 25, 3) := by decide +kernel
theorem dX2_look_23 : decode cX2_look 23 = .ok (.iastore, 1) := by decide +kernel
theorem dX2_look_24 : decode cX2_look 24 = .ok (.aload_n 0, 1) := by decide +kernel
theorem dX2_look_25 : decode cX2_look 25 = .ok (.getfield 15, 3) := by decide +kernel
theorem dX2_look_28 : decode cX2_look 28 = .ok (.iload 4, 2) := by decide +kernel
theorem dX2_look_30 : decode cX2_look 30 = .ok (.iconst 0, 1) := by decide +kernel
theorem dX2_look_31 : decode cX2_look 31 = .ok (.iastore, 1) := by decide +kernel
theorem dX2_look_32 : decode cX2_look 32 = .ok (.iinc 4 1, 3) := by decide +kernel
theorem dX2_look_35 : decode cX2_look 35 = .ok (.goto (-32), 3) := by decide +kernel
theorem dX2_look_38 : decode cX2_look 38 = .ok (.iconst 0, 1) := by decide +kernel
theorem dX2_look_39 : decode cX2_look 39 = .ok (.istore 4, 2) := by decide +kernel
theorem dX2_look_41 : decode cX2_look 41 = .ok (.iload 4, 2) := by decide +kernel
theorem dX2_look_43 : decode cX2_look 43 = .ok (.aload_n 1, 1) := by decide +kernel
theorem dX2_look_44 : decode cX2_look 44 = .ok (.invokevirtual 31, 3) := by decide +kernel
theorem dX2_look_47 : decode cX2_look 47 = .ok (.if_icmp .ge 40, 3) := by decide +kernel
theorem dX2_look_50 : decode cX2_look 50 = .ok (.iload_n 3, 1) := by decide +kernel
theorem dX2_look_51 : decode cX2_look 51 = .ok (.iload 4, 2) := by decide +kernel
theorem dX2_look_53 : decode cX2_look 53 = .ok (.ishr, 1) := by decide +kernel
theorem dX2_look_54 : decode cX2_look 54 = .ok (.iconst 1, 1) := by decide +kernel
theorem dX2_look_55 : decode cX2_look 55 = .ok (.iand, 1) := by decide +kernel
theorem dX2_look_56 : decode cX2_look 56 = .ok (.ifCond .eq 25, 3) := by decide +kernel
theorem dX2_look_59 : decode cX2_look 59 = .ok (.aload_n 0, 1) := by decide +kernel
theorem dX2_look_60 : decode cX2_look 60 = .ok (.getfield 15, 3) := by decide +kernel
theorem dX2_look_63 : decode cX2_look 63 = .ok (.iconst 0, 1) := by decide +kernel
theorem dX2_look_64 : decode cX2_look 64 = .ok (.aload_n 1, 1) := by decide +kernel
theorem dX2_look_65 : decode cX2_look 65 = .ok (.getfield 35, 3) := by decide +kernel
theorem dX2_look_68 : decode cX2_look 68 = .ok (.iload 4, 2) := by decide +kernel
theorem dX2_look_70 : decode cX2_look 70 = .ok (.iaload, 1) := by decide +kernel
theorem dX2_look_71 : decode cX2_look 71 = .ok (.aload_n 1, 1) := by decide +kernel
theorem dX2_look_72 : decode cX2_look 72 = .ok (.iload 4, 2) := by decide +kernel
theorem dX2_look_74 : decode cX2_look 74 = .ok (.iload_n 2, 1) := by decide +kernel
theorem dX2_look_75 : decode cX2_look 75 = .ok (.invokevirtual 38, 3) := by decide +kernel
theorem dX2_look_78 : decode cX2_look 78 = .ok (.invokestatic 41, 3) := by decide +kernel
theorem dX2_look_81 : decode cX2_look 81 = .ok (.iinc 4 1, 3) := by decide +kernel
theorem dX2_look_84 : decode cX2_look 84 = .ok (.goto (-43), 3) := by decide +kernel
theorem dX2_look_87 : decode cX2_look 87 = .ok (.return_, 1) := by decide +kernel
theorem dX2_guess_0 : decode cX2_guess 0 = .ok (.aload_n 0, 1) := by decide +kernel
theorem dX2_guess_1 : decode cX2_guess 1 = .ok (.iconst 0, 1) := by decide +kernel
theorem dX2_guess_2 : decode cX2_guess 2 = .ok (.putfield 18, 3) := by decide +kernel
theorem dX2_guess_5 : decode cX2_guess 5 = .ok (.aload_n 0, 1) := by decide +kernel
theorem dX2_guess_6 : decode cX2_guess 6 = .ok (.iconst 0, 1) := by decide +kernel
theorem dX2_guess_7 : decode cX2_guess 7 = .ok (.putfield 22, 3) := by decide +kernel
theorem dX2_guess_10 : decode cX2_guess 10 = .ok (.iload_n 1, 1) := by decide +kernel
theorem dX2_guess_11 : decode cX2_guess 11 = .ok (.ifCond .gt 5, 3) := by decide +kernel
theorem dX2_guess_14 : decode cX2_guess 14 = .ok (.iconst 0, 1) := by decide +kernel
theorem dX2_guess_15 : decode cX2_guess 15 = .ok (.ireturn, 1) := by decide +kernel
theorem dX2_guess_16 : decode cX2_guess 16 = .ok (.iconst 0, 1) := by decide +kernel
theorem dX2_guess_17 : decode cX2_guess 17 = .ok (.istore_n 2, 1) := by decide +kernel
theorem dX2_guess_18 : decode cX2_guess 18 = .ok (.iload_n 2, 1) := by decide +kernel
theorem dX2_guess_19 : decode cX2_guess 19 = .ok (.bipush 12, 2) := by decide +kernel
theorem dX2_guess_21 : decode cX2_guess 21 = .ok (.if_icmp .ge 88, 3) := by decide +kernel
theorem dX2_guess_24 : decode cX2_guess 24 = .ok (.aload_n 0, 1) := by decide +kernel
theorem dX2_guess_25 : decode cX2_guess 25 = .ok (.getfield 9, 3) := by decide +kernel
theorem dX2_guess_28 : decode cX2_guess 28 = .ok (.iload_n 2, 1) := by decide +kernel
theorem dX2_guess_29 : decode cX2_guess 29 = .ok (.iaload, 1) := by decide +kernel
theorem dX2_guess_30 : decode cX2_guess 30 = .ok (.aload_n 0, 1) := by decide +kernel
theorem dX2_guess_31 : decode cX2_guess 31 = .ok (.getfield 15, 3) := by decide +kernel
theorem dX2_guess_34 : decode cX2_guess 34 = .ok (.iload_n 2, 1) := by decide +kernel
theorem dX2_guess_35 : decode cX2_guess 35 = .ok (.iaload, 1) := by decide +kernel
theorem dX2_guess_36 : decode cX2_guess 36 = .ok (.if_icmp .eq 7, 3) := by decide +kernel
theorem dX2_guess_39 : decode cX2_guess 39 = .ok (.iconst 1, 1) := by decide +kernel
theorem dX2_guess_40 : decode cX2_guess 40 = .ok (.goto 4, 3) := by decide +kernel
theorem dX2_guess_43 : decode cX2_guess 43 = .ok (.iconst 0, 1) := by decide +kernel
theorem dX2_guess_44 : decode cX2_guess 44 = .ok (.istore_n 3, 1) := by decide +kernel
theorem dX2_guess_45 : decode cX2_guess 45 = .ok (.iload_n 3, 1) := by decide +kernel
theorem dX2_guess_46 : decode cX2_guess 46 = .ok (.ifCond .eq 15, 3) := by decide +kernel
theorem dX2_guess_49 : decode cX2_guess 49 = .ok (.aload_n 0, 1) := by decide +kernel
theorem dX2_guess_50 : decode cX2_guess 50 = .ok (.getfield 9, 3) := by decide +kernel
theorem dX2_guess_53 : decode cX2_guess 53 = .ok (.iload_n 2, 1) := by decide +kernel
theorem dX2_guess_54 : decode cX2_guess 54 = .ok (.iaload, 1) := by decide +kernel
theorem dX2_guess_55 : decode cX2_guess 55 = .ok (.iload_n 1, 1) := by decide +kernel
theorem dX2_guess_56 : decode cX2_guess 56 = .ok (.if_icmp .eq 5, 3) := by decide +kernel
theorem dX2_guess_59 : decode cX2_guess 59 = .ok (.iconst 0, 1) := by decide +kernel
theorem dX2_guess_60 : decode cX2_guess 60 = .ok (.ireturn, 1) := by decide +kernel
theorem dX2_guess_61 : decode cX2_guess 61 = .ok (.iload_n 3, 1) := by decide +kernel
theorem dX2_guess_62 : decode cX2_guess 62 = .ok (.ifCond .eq 15, 3) := by decide +kernel
theorem dX2_guess_65 : decode cX2_guess 65 = .ok (.aload_n 0, 1) := by decide +kernel
theorem dX2_guess_66 : decode cX2_guess 66 = .ok (.dup, 1) := by decide +kernel
theorem dX2_guess_67 : decode cX2_guess 67 = .ok (.getfield 18, 3) := by decide +kernel
theorem dX2_guess_70 : decode cX2_guess 70 = .ok (.iconst 1, 1) := by decide +kernel
theorem dX2_guess_71 : decode cX2_guess 71 = .ok (.iload_n 2, 1) := by decide +kernel
theorem dX2_guess_72 : decode cX2_guess 72 = .ok (.ishl, 1) := by decide +kernel
theorem dX2_guess_73 : decode cX2_guess 73 = .ok (.ior, 1) := by decide +kernel
theorem dX2_guess_74 : decode cX2_guess 74 = .ok (.putfield 18, 3) := by decide +kernel
theorem dX2_guess_77 : decode cX2_guess 77 = .ok (.iload_n 3, 1) := by decide +kernel
theorem dX2_guess_78 : decode cX2_guess 78 = .ok (.ifCond .ne 13, 3) := by decide +kernel
theorem dX2_guess_81 : decode cX2_guess 81 = .ok (.aload_n 0, 1) := by decide +kernel
theorem dX2_guess_82 : decode cX2_guess 82 = .ok (.getfield 15, 3) := by decide +kernel
theorem dX2_guess_85 : decode cX2_guess 85 = .ok (.iload_n 2, 1) := by decide +kernel
theorem dX2_guess_86 : decode cX2_guess 86 = .ok (.iaload, 1) := by decide +kernel
theorem dX2_guess_87 : decode cX2_guess 87 = .ok (.iload_n 1, 1) := by decide +kernel
theorem dX2_guess_88 : decode cX2_guess 88 = .ok (.if_icmp .lt 15, 3) := by decide +kernel
theorem dX2_guess_91 : decode cX2_guess 91 = .ok (.aload_n 0, 1) := by decide +kernel
theorem dX2_guess_92 : decode cX2_guess 92 = .ok (.dup, 1) := by decide +kernel
theorem dX2_guess_93 : decode cX2_guess 93 = .ok (.getfield 22, 3) := by decide +kernel
theorem dX2_guess_96 : decode cX2_guess 96 = .ok (.iconst 1, 1) := by decide +kernel
theorem dX2_guess_97 : decode cX2_guess 97 = .ok (.iload_n 2, 1) := by decide +kernel
theorem dX2_guess_98 : decode cX2_guess 98 = .ok (.ishl, 1) := by decide +kernel
theorem dX2_guess_99 : decode cX2_guess 99 = .ok (.ior, 1) := by decide +kernel
theorem dX2_guess_100 : decode cX2_guess 100 = .ok (.putfield 22, 3) := by decide +kernel
theorem dX2_guess_103 : decode cX2_guess 103 = .ok (.iinc 2 1, 3) := by decide +kernel
theorem dX2_guess_106 : decode cX2_guess 106 = .ok (.goto (-88), 3) := by decide +kernel
theorem dX2_guess_109 : decode cX2_guess 109 = .ok (.iconst 1, 1) := by decide +kernel
theorem dX2_guess_110 : decode cX2_guess 110 = .ok (.ireturn, 1) := by decide +kernel
theorem dX2_isFit_0 : decode cX2_isFit 0 = .ok (.iload_n 1, 1) := by decide +kernel
theorem dX2_isFit_1 : decode cX2_isFit 1 = .ok (.aload_n 0, 1) := by decide +kernel
theorem dX2_isFit_2 : decode cX2_isFit 2 = .ok (.getfield 18, 3) := by decide +kernel
theorem dX2_isFit_5 : decode cX2_isFit 5 = .ok (.iand, 1) := by decide +kernel
theorem dX2_isFit_6 : decode cX2_isFit 6 = .ok (.aload_n 0, 1) := by decide +kernel
theorem dX2_isFit_7 : decode cX2_isFit 7 = .ok (.getfield 18, 3) := by decide +kernel
theorem dX2_isFit_10 : decode cX2_isFit 10 = .ok (.if_icmp .ne 18, 3) := by decide +kernel
theorem dX2_isFit_13 : decode cX2_isFit 13 = .ok (.iload_n 1, 1) := by decide +kernel
theorem dX2_isFit_14 : decode cX2_isFit 14 = .ok (.aload_n 0, 1) := by decide +kernel
theorem dX2_isFit_15 : decode cX2_isFit 15 = .ok (.getfield 22, 3) := by decide +kernel
theorem dX2_isFit_18 : decode cX2_isFit 18 = .ok (.iconst (-1), 1) := by decide +kernel
theorem dX2_isFit_19 : decode cX2_isFit 19 = .ok (.ixor, 1) := by decide +kernel
theorem dX2_isFit_20 : decode cX2_isFit 20 = .ok (.iand, 1) := by decide +kernel
theorem dX2_isFit_21 : decode cX2_isFit 21 = .ok (.ifCond .ne 7, 3) := by decide +kernel
theorem dX2_isFit_24 : decode cX2_isFit 24 = .ok (.iconst 1, 1) := by decide +kernel
theorem dX2_isFit_25 : decode cX2_isFit 25 = .ok (.goto 4, 3) := by decide +kernel
theorem dX2_isFit_28 : decode cX2_isFit 28 = .ok (.iconst 0, 1) := by decide +kernel
theorem dX2_isFit_29 : decode cX2_isFit 29 = .ok (.ireturn, 1) := by decide +kernel
theorem dX4_beginAnew_0 : decode cX4_beginAnew 0 = .ok (.aload_n 0, 1) := by decide +kernel
theorem dX4_beginAnew_1 : decode cX4_beginAnew 1 = .ok (.iload_n 1, 1) := by decide +kernel
theorem dX4_beginAnew_2 : decode cX4_beginAnew 2 = .ok (.putfield 22, 3) := by decide +kernel
theorem dX4_beginAnew_5 : decode cX4_beginAnew 5 = .ok (.aload_n 0, 1) := by decide +kernel
theorem dX4_beginAnew_6 : decode cX4_beginAnew 6 = .ok (.iconst 0, 1) := by decide +kernel
theorem dX4_beginAnew_7 : decode cX4_beginAnew 7 = .ok (.putfield 25, 3) := by decide +kernel
theorem dX4_beginAnew_10 : decode cX4_beginAnew 10 = .ok (.aload_n 0, 1) := by decide +kernel
theorem dX4_beginAnew_11 : decode cX4_beginAnew 11 = .ok (.iconst 0, 1) := by decide +kernel
theorem dX4_beginAnew_12 : decode cX4_beginAnew 12 = .ok (.putfield 18, 3) := by decide +kernel
theorem dX4_beginAnew_15 : decode cX4_beginAnew 15 = .ok (.aload_n 0, 1) := by decide +kernel
theorem dX4_beginAnew_16 : decode cX4_beginAnew 16 = .ok (.iconst 0, 1) := by decide +kernel
theorem dX4_beginAnew_17 : decode cX4_beginAnew 17 = .ok (.putfield 46, 3) := by decide +kernel
theorem dX4_beginAnew_20 : decode cX4_beginAnew 20 = .ok (.iconst 0, 1) := by decide +kernel
theorem dX4_beginAnew_21 : decode cX4_beginAnew 21 = .ok (.istore_n 2, 1) := by decide +kernel
theorem dX4_beginAnew_22 : decode cX4_beginAnew 22 = .ok (.iload_n 2, 1) := by decide +kernel
theorem dX4_beginAnew_23 : decode cX4_beginAnew 23 = .ok (.aload_n 0, 1) := by decide +kernel
theorem dX4_beginAnew_24 : decode cX4_beginAnew 24 = .ok (.getfield 11, 3) := by decide +kernel
theorem dX4_beginAnew_27 : decode cX4_beginAnew 27 = .ok (.arraylength, 1) := by decide +kernel
theorem dX4_beginAnew_28 : decode cX4_beginAnew 28 = .ok (.if_icmp .ge 16, 3) := by decide +kernel
theorem dX4_beginAnew_31 : decode cX4_beginAnew 31 = .ok (.aload_n 0, 1) := by decide +kernel
theorem dX4_beginAnew_32 : decode cX4_beginAnew 32 = .ok (.getfield 11, 3) := by decide +kernel
theorem dX4_beginAnew_35 : decode cX4_beginAnew 35 = .ok (.iload_n 2, 1) := by decide +kernel
theorem dX4_beginAnew_36 : decode cX4_beginAnew 36 = .ok (.iconst 0, 1) := by decide +kernel
theorem dX4_beginAnew_37 : decode cX4_beginAnew 37 = .ok (.iastore, 1) := by decide +kernel
theorem dX4_beginAnew_38 : decode cX4_beginAnew 38 = .ok (.iinc 2 1, 3) := by decide +kernel
theorem dX4_beginAnew_41 : decode cX4_beginAnew 41 = .ok (.goto (-19), 3) := by decide +kernel
theorem dX4_beginAnew_44 : decode cX4_beginAnew 44 = .ok (.return_, 1) := by decide +kernel
theorem dX4_copyFrom_0 : decode cX4_copyFrom 0 = .ok (.aload_n 0, 1) := by decide +kernel
theorem dX4_copyFrom_1 : decode cX4_copyFrom 1 = .ok (.aload_n 1, 1) := by decide +kernel
theorem dX4_copyFrom_2 : decode cX4_copyFrom 2 = .ok (.getfield 22, 3) := by decide +kernel
theorem dX4_copyFrom_5 : decode cX4_copyFrom 5 = .ok (.putfield 22, 3) := by decide +kernel
theorem dX4_copyFrom_8 : decode cX4_copyFrom 8 = .ok (.aload_n 0, 1) := by decide +kernel
theorem dX4_copyFrom_9 : decode cX4_copyFrom 9 = .ok (.aload_n 1, 1) := by decide +kernel
theorem dX4_copyFrom_10 : decode cX4_copyFrom 10 = .ok (.getfield 25, 3) := by decide +kernel
theorem dX4_copyFrom_13 : decode cX4_copyFrom 13 = .ok (.putfield 25, 3) := by decide +kernel
theorem dX4_copyFrom_16 : decode cX4_copyFrom 16 = .ok (.aload_n 0, 1) := by decide +kernel
theorem dX4_copyFrom_17 : decode cX4_copyFrom 17 = .ok (.aload_n 1, 1) := by decide +kernel
theorem dX4_copyFrom_18 : decode cX4_copyFrom 18 = .ok (.getfield 18, 3) := by decide +kernel
theorem dX4_copyFrom_21 : decode cX4_copyFrom 21 = .ok (.putfield 18, 3) := by decide +kernel
theorem dX4_copyFrom_24 : decode cX4_copyFrom 24 = .ok (.aload_n 0, 1) := by decide +kernel
theorem dX4_copyFrom_25 : decode cX4_copyFrom 25 = .ok (.aload_n 1, 1) := by decide +kernel
theorem dX4_copyFrom_26 : decode cX4_copyFrom 26 = .ok (.getfield 46, 3) := by decide +kernel
theorem dX4_copyFrom_29 : decode cX4_copyFrom 29 = .ok (.putfield 46, 3) := by decide +kernel
theorem dX4_copyFrom_32 : decode cX4_copyFrom 32 = .ok (.aload_n 1, 1) := by decide +kernel
theorem dX4_copyFrom_33 : decode cX4_copyFrom 33 = .ok (.getfield 11, 3) := by decide +kernel
theorem dX4_copyFrom_36 : decode cX4_copyFrom 36 = .ok (.iconst 0, 1) := by decide +kernel
theorem dX4_copyFrom_37 : decode cX4_copyFrom 37 = .ok (.aload_n 0, 1) := by decide +kernel
theorem dX4_copyFrom_38 : decode cX4_copyFrom 38 = .ok (.getfield 11, 3) := by decide +kernel
theorem dX4_copyFrom_41 : decode cX4_copyFrom 41 = .ok (.iconst 0, 1) := by decide +kernel
theorem dX4_copyFrom_42 : decode cX4_copyFrom 42 = .ok (.bipush 86, 2) := by decide +kernel
theorem dX4_copyFrom_44 : decode cX4_copyFrom 44 = .ok (.invokestatic 49, 3) := by decide +kernel
theorem dX4_copyFrom_47 : decode cX4_copyFrom 47 = .ok (.aload_n 1, 1) := by decide +kernel
theorem dX4_copyFrom_48 : decode cX4_copyFrom 48 = .ok (.getfield 15, 3) := by decide +kernel
theorem dX4_copyFrom_51 : decode cX4_copyFrom 51 = .ok (.iconst 0, 1) := by decide +kernel
theorem dX4_copyFrom_52 : decode cX4_copyFrom 52 = .ok (.aload_n 0, 1) := by decide +kernel
theorem dX4_copyFrom_53 : decode cX4_copyFrom 53 = .ok (.getfield 15, 3) := by decide +kernel
theorem dX4_copyFrom_56 : decode cX4_copyFrom 56 = .ok (.iconst 0, 1) := by decide +kernel
theorem dX4_copyFrom_57 : decode cX4_copyFrom 57 = .ok (.aload_n 0, 1) := by decide +kernel
theorem dX4_copyFrom_58 : decode cX4_copyFrom 58 = .ok (.getfield 18, 3) := by decide +kernel
theorem dX4_copyFrom_61 : decode cX4_copyFrom 61 = .ok (.bipush 86, 2) := by decide +kernel
theorem dX4_copyFrom_63 : decode cX4_copyFrom 63 = .ok (.imul, 1) := by decide +kernel
theorem dX4_copyFrom_64 : decode cX4_copyFrom 64 = .ok (.invokestatic 49, 3) := by decide +kernel
theorem dX4_copyFrom_67 : decode cX4_copyFrom 67 = .ok (.aload_n 1, 1) := by decide +kernel
theorem dX4_copyFrom_68 : decode cX4_copyFrom 68 = .ok (.getfield 28, 3) := by decide +kernel
theorem dX4_copyFrom_71 : decode cX4_copyFrom 71 = .ok (.iconst 0, 1) := by decide +kernel
theorem dX4_copyFrom_72 : decode cX4_copyFrom 72 = .ok (.aload_n 0, 1) := by decide +kernel
theorem dX4_copyFrom_73 : decode cX4_copyFrom 73 = .ok (.getfield 28, 3) := by decide +kernel
theorem dX4_copyFrom_76 : decode cX4_copyFrom 76 = .ok (.iconst 0, 1) := by decide +kernel
theorem dX4_copyFrom_77 : decode cX4_copyFrom 77 = .ok (.bipush 10, 2) := by decide +kernel
theorem dX4_copyFrom_79 : decode cX4_copyFrom 79 = .ok (.invokestatic 49, 3) := by decide +kernel
theorem dX4_copyFrom_82 : decode cX4_copyFrom 82 = .ok (.aload_n 1, 1) := by decide +kernel
theorem dX4_copyFrom_83 : decode cX4_copyFrom 83 = .ok (.getfield 31, 3) := by decide +kernel
theorem dX4_copyFrom_86 : decode cX4_copyFrom 86 = .ok (.iconst 0, 1) := by decide +kernel
theorem dX4_copyFrom_87 : decode cX4_copyFrom 87 = .ok (.aload_n 0, 1) := by decide +kernel
theorem dX4_copyFrom_88 : decode cX4_copyFrom 88 = .ok (.getfield 31, 3) := by decide +kernel
theorem dX4_copyFrom_91 : decode cX4_copyFrom 91 = .ok (.iconst 0, 1) := by decide +kernel
theorem dX4_copyFrom_92 : decode cX4_copyFrom 92 = .ok (.bipush 10, 2) := by decide +kernel
theorem dX4_copyFrom_94 : decode cX4_copyFrom 94 = .ok (.invokestatic 49, 3) := by decide +kernel
theorem dX4_copyFrom_97 : decode cX4_copyFrom 97 = .ok (.aload_n 1, 1) := by decide +kernel
theorem dX4_copyFrom_98 : decode cX4_copyFrom 98 = .ok (.getfield 34, 3) := by decide +kernel
theorem dX4_copyFrom_101 : decode cX4_copyFrom 101 = .ok (.iconst 0, 1) := by decide +kernel
theorem dX4_copyFrom_102 : decode cX4_copyFrom 102 = .ok (.aload_n 0, 1) := by decide +kernel
theorem dX4_copyFrom_103 : decode cX4_copyFrom 103 = .ok (.getfield 34, 3) := by decide +kernel
theorem dX4_copyFrom_106 : decode cX4_copyFrom 106 = .ok (.iconst 0, 1) := by decide +kernel
theorem dX4_copyFrom_107 : decode cX4_copyFrom 107 = .ok (.bipush 10, 2) := by decide +kernel
theorem dX4_copyFrom_109 : decode cX4_copyFrom 109 = .ok (.invokestatic 49, 3) := by decide +kernel
theorem dX4_copyFrom_112 : decode cX4_copyFrom 112 = .ok (.aload_n 1, 1) := by decide +kernel
theorem dX4_copyFrom_113 : decode cX4_copyFrom 113 = .ok (.getfield 37, 3) := by decide +kernel
theorem dX4_copyFrom_116 : decode cX4_copyFrom 116 = .ok (.iconst 0, 1) := by decide +kernel
theorem dX4_copyFrom_117 : decode cX4_copyFrom 117 = .ok (.aload_n 0, 1) := by decide +kernel
theorem dX4_copyFrom_118 : decode cX4_copyFrom 118 = .ok (.getfield 37, 3) := by decide +kernel
theorem dX4_copyFrom_121 : decode cX4_copyFrom 121 = .ok (.iconst 0, 1) := by decide +kernel
theorem dX4_copyFrom_122 : decode cX4_copyFrom 122 = .ok (.bipush 10, 2) := by decide +kernel
theorem dX4_copyFrom_124 : decode cX4_copyFrom 124 = .ok (.invokestatic 49, 3) := by decide +kernel
theorem dX4_copyFrom_127 : decode cX4_copyFrom 127 = .ok (.aload_n 1, 1) := by decide +kernel
theorem dX4_copyFrom_128 : decode cX4_copyFrom 128 = .ok (.getfield 40, 3) := by decide +kernel
theorem dX4_copyFrom_131 : decode cX4_copyFrom 131 = .ok (.iconst 0, 1) := by decide +kernel
theorem dX4_copyFrom_132 : decode cX4_copyFrom 132 = .ok (.aload_n 0, 1) := by decide +kernel
theorem dX4_copyFrom_133 : decode cX4_copyFrom 133 = .ok (.getfield 40, 3) := by decide +kernel
theorem dX4_copyFrom_136 : decode cX4_copyFrom 136 = .ok (.iconst 0, 1) := by decide +kernel
theorem dX4_copyFrom_137 : decode cX4_copyFrom 137 = .ok (.bipush 60, 2) := by decide +kernel
theorem dX4_copyFrom_139 : decode cX4_copyFrom 139 = .ok (.invokestatic 49, 3) := by decide +kernel
theorem dX4_copyFrom_142 : decode cX4_copyFrom 142 = .ok (.aload_n 1, 1) := by decide +kernel
theorem dX4_copyFrom_143 : decode cX4_copyFrom 143 = .ok (.getfield 43, 3) := by decide +kernel
theorem dX4_copyFrom_146 : decode cX4_copyFrom 146 = .ok (.iconst 0, 1) := by decide +kernel
theorem dX4_copyFrom_147 : decode cX4_copyFrom 147 = .ok (.aload_n 0, 1) := by decide +kernel
theorem dX4_copyFrom_148 : decode cX4_copyFrom 148 = .ok (.getfield 43, 3) := by decide +kernel
theorem dX4_copyFrom_151 : decode cX4_copyFrom 151 = .ok (.iconst 0, 1) := by decide +kernel
theorem dX4_copyFrom_152 : decode cX4_copyFrom 152 = .ok (.bipush 8, 2) := by decide +kernel
theorem dX4_copyFrom_154 : decode cX4_copyFrom 154 = .ok (.invokestatic 49, 3) := by decide +kernel
theorem dX4_copyFrom_157 : decode cX4_copyFrom 157 = .ok (.return_, 1) := by decide +kernel
theorem dX4_keepForUndo_0 : decode cX4_keepForUndo 0 = .ok (.aload_n 0, 1) := by decide +kernel
theorem dX4_keepForUndo_1 : decode cX4_keepForUndo 1 = .ok (.getfield 18, 3) := by decide +kernel
theorem dX4_keepForUndo_4 : decode cX4_keepForUndo 4 = .ok (.bipush 8, 2) := by decide +kernel
theorem dX4_keepForUndo_6 : decode cX4_keepForUndo 6 = .ok (.if_icmp .lt 26, 3) := by decide +kernel
theorem dX4_keepForUndo_9 : decode cX4_keepForUndo 9 = .ok (.aload_n 0, 1) := by decide +kernel
theorem dX4_keepForUndo_10 : decode cX4_keepForUndo 10 = .ok (.getfield 15, 3) := by decide +kernel
theorem dX4_keepForUndo_13 : decode cX4_keepForUndo 13 = .ok (.bipush 86, 2) := by decide +kernel
theorem dX4_keepForUndo_15 : decode cX4_keepForUndo 15 = .ok (.aload_n 0, 1) := by decide +kernel
theorem dX4_keepForUndo_16 : decode cX4_keepForUndo 16 = .ok (.getfield 15, 3) := by decide +kernel
theorem dX4_keepForUndo_19 : decode cX4_keepForUndo 19 = .ok (.iconst 0, 1) := by decide +kernel
theorem dX4_keepForUndo_20 : decode cX4_keepForUndo 20 = .ok (.sipush 602, 3) := by decide +kernel
theorem dX4_keepForUndo_23 : decode cX4_keepForUndo 23 = .ok (.invokestatic 49, 3) := by decide +kernel
theorem dX4_keepForUndo_26 : decode cX4_keepForUndo 26 = .ok (.aload_n 0, 1) := by decide +kernel
theorem dX4_keepForUndo_27 : decode cX4_keepForUndo 27 = .ok (.bipush 7, 2) := by decide +kernel
theorem dX4_keepForUndo_29 : decode cX4_keepForUndo 29 = .ok (.putfield 18, 3) := by decide +kernel
theorem dX4_keepForUndo_32 : decode cX4_keepForUndo 32 = .ok (.aload_n 0, 1) := by decide +kernel
theorem dX4_keepForUndo_33 : decode cX4_keepForUndo 33 = .ok (.getfield 11, 3) := by decide +kernel
theorem dX4_keepForUndo_36 : decode cX4_keepForUndo 36 = .ok (.iconst 0, 1) := by decide +kernel
theorem dX4_keepForUndo_37 : decode cX4_keepForUndo 37 = .ok (.aload_n 0, 1) := by decide +kernel
theorem dX4_keepForUndo_38 : decode cX4_keepForUndo 38 = .ok (.getfield 15, 3) := by decide +kernel
theorem dX4_keepForUndo_41 : decode cX4_keepForUndo 41 = .ok (.aload_n 0, 1) := by decide +kernel
theorem dX4_keepForUndo_42 : decode cX4_keepForUndo 42 = .ok (.getfield 18, 3) := by decide +kernel
theorem dX4_keepForUndo_45 : decode cX4_keepForUndo 45 = .ok (.bipush 86, 2) := by decide +kernel
theorem dX4_keepForUndo_47 : decode cX4_keepForUndo 47 = .ok (.imul, 1) := by decide +kernel
theorem dX4_keepForUndo_48 : decode cX4_keepForUndo 48 = .ok (.bipush 86, 2) := by decide +kernel
theorem dX4_keepForUndo_50 : decode cX4_keepForUndo 50 = .ok (.invokestatic 49, 3) := by decide +kernel
theorem dX4_keepForUndo_53 : decode cX4_keepForUndo 53 = .ok (.aload_n 0, 1) := by decide +kernel
theorem dX4_keepForUndo_54 : decode cX4_keepForUndo 54 = .ok (.dup, 1) := by decide +kernel
theorem dX4_keepForUndo_55 : decode cX4_keepForUndo 55 = .ok (.getfield 18, 3) := by decide +kernel
theorem dX4_keepForUndo_58 : decode cX4_keepForUndo 58 = .ok (.iconst 1, 1) := by decide +kernel
theorem dX4_keepForUndo_59 : decode cX4_keepForUndo 59 = .ok (.iadd, 1) := by decide +kernel
theorem dX4_keepForUndo_60 : decode cX4_keepForUndo 60 = .ok (.putfield 18, 3) := by decide +kernel
theorem dX4_keepForUndo_63 : decode cX4_keepForUndo 63 = .ok (.return_, 1) := by decide +kernel
theorem dX4_goBack_0 : decode cX4_goBack 0 = .ok (.aload_n 0, 1) := by decide +kernel
theorem dX4_goBack_1 : decode cX4_goBack 1 = .ok (.getfield 18, 3) := by decide +kernel
theorem dX4_goBack_4 : decode cX4_goBack 4 = .ok (.ifCond .le 34, 3) := by decide +kernel
theorem dX4_goBack_7 : decode cX4_goBack 7 = .ok (.aload_n 0, 1) := by decide +kernel
theorem dX4_goBack_8 : decode cX4_goBack 8 = .ok (.dup, 1) := by decide +kernel
theorem dX4_goBack_9 : decode cX4_goBack 9 = .ok (.getfield 18, 3) := by decide +kernel
theorem dX4_goBack_12 : decode cX4_goBack 12 = .ok (.iconst 1, 1) := by decide +kernel
theorem dX4_goBack_13 : decode cX4_goBack 13 = .ok (.isub, 1) := by decide +kernel
theorem dX4_goBack_14 : decode cX4_goBack 14 = .ok (.putfield 18, 3) := by decide +kernel
theorem dX4_goBack_17 : decode cX4_goBack 17 = .ok (.aload_n 0, 1) := by decide +kernel
theorem dX4_goBack_18 : decode cX4_goBack 18 = .ok (.getfield 15, 3) := by decide +kernel
theorem dX4_goBack_21 : decode cX4_goBack 21 = .ok (.aload_n 0, 1) := by decide +kernel
theorem dX4_goBack_22 : decode cX4_goBack 22 = .ok (.getfield 18, 3) := by decide +kernel
theorem dX4_goBack_25 : decode cX4_goBack 25 = .ok (.bipush 86, 2) := by decide +kernel
theorem dX4_goBack_27 : decode cX4_goBack 27 = .ok (.imul, 1) := by decide +kernel
theorem dX4_goBack_28 : decode cX4_goBack 28 = .ok (.aload_n 0, 1) := by decide +kernel
theorem dX4_goBack_29 : decode cX4_goBack 29 = .ok (.getfield 11, 3) := by decide +kernel
theorem dX4_goBack_32 : decode cX4_goBack 32 = .ok (.iconst 0, 1) := by decide +kernel
theorem dX4_goBack_33 : decode cX4_goBack 33 = .ok (.bipush 86, 2) := by decide +kernel
theorem dX4_goBack_35 : decode cX4_goBack 35 = .ok (.invokestatic 49, 3) := by decide +kernel
theorem dX4_goBack_38 : decode cX4_goBack 38 = .ok (.return_, 1) := by decide +kernel
theorem dX4_top_0 : decode cX4_top 0 = .ok (.aload_n 0, 1) := by decide +kernel
theorem dX4_top_1 : decode cX4_top 1 = .ok (.getfield 11, 3) := by decide +kernel
theorem dX4_top_4 : decode cX4_top 4 = .ok (.iconst 0, 1) := by decide +kernel
theorem dX4_top_5 : decode cX4_top 5 = .ok (.iaload, 1) := by decide +kernel
theorem dX4_top_6 : decode cX4_top 6 = .ok (.ireturn, 1) := by decide +kernel
theorem dX4_isUsedUp_0 : decode cX4_isUsedUp 0 = .ok (.aload_n 0, 1) := by decide +kernel
theorem dX4_isUsedUp_1 : decode cX4_isUsedUp 1 = .ok (.getfield 11, 3) := by decide +kernel
theorem dX4_isUsedUp_4 : decode cX4_isUsedUp 4 = .ok (.iconst 0, 1) := by decide +kernel
theorem dX4_isUsedUp_5 : decode cX4_isUsedUp 5 = .ok (.iaload, 1) := by decide +kernel
theorem dX4_isUsedUp_6 : decode cX4_isUsedUp 6 = .ok (.aload_n 0, 1) := by decide +kernel
theorem dX4_isUsedUp_7 : decode cX4_isUsedUp 7 = .ok (.getfield 22, 3) := by decide +kernel
theorem dX4_isUsedUp_10 : decode cX4_isUsedUp 10 = .ok (.if_icmp .lt 7, 3) := by decide +kernel
theorem dX4_isUsedUp_13 : decode cX4_isUsedUp 13 = .ok (.iconst 1, 1) := by decide +kernel
theorem dX4_isUsedUp_14 : decode cX4_isUsedUp 14 = .ok (.goto 4, 3) := by decide +kernel
theorem dX4_isUsedUp_17 : decode cX4_isUsedUp 17 = .ok (.iconst 0, 1) := by decide +kernel
theorem dX4_isUsedUp_18 : decode cX4_isUsedUp 18 = .ok (.ireturn, 1) := by decide +kernel
theorem dX4_hasSheet_0 : decode cX4_hasSheet 0 = .ok (.iload_n 1, 1) := by decide +kernel
theorem dX4_hasSheet_1 : decode cX4_hasSheet 1 = .ok (.ifCond .lt 15, 3) := by decide +kernel
theorem dX4_hasSheet_4 : decode cX4_hasSheet 4 = .ok (.iload_n 1, 1) := by decide +kernel
theorem dX4_hasSheet_5 : decode cX4_hasSheet 5 = .ok (.aload_n 0, 1) := by decide +kernel
theorem dX4_hasSheet_6 : decode cX4_hasSheet 6 = .ok (.getfield 22, 3) := by decide +kernel
theorem dX4_hasSheet_9 : decode cX4_hasSheet 9 = .ok (.if_icmp .ge 7, 3) := by decide +kernel
theorem dX4_hasSheet_12 : decode cX4_hasSheet 12 = .ok (.iconst 1, 1) := by decide +kernel
theorem dX4_hasSheet_13 : decode cX4_hasSheet 13 = .ok (.goto 4, 3) := by decide +kernel
theorem dX4_hasSheet_16 : decode cX4_hasSheet 16 = .ok (.iconst 0, 1) := by decide +kernel
theorem dX4_hasSheet_17 : decode cX4_hasSheet 17 = .ok (.ireturn, 1) := by decide +kernel
theorem dX4_hasSheets_0 : decode cX4_hasSheets 0 = .ok (.iload_n 1, 1) := by decide +kernel
theorem dX4_hasSheets_1 : decode cX4_hasSheets 1 = .ok (.ifCond .lt 17, 3) := by decide +kernel
theorem dX4_hasSheets_4 : decode cX4_hasSheets 4 = .ok (.iload_n 1, 1) := by decide +kernel
theorem dX4_hasSheets_5 : decode cX4_hasSheets 5 = .ok (.iconst 1, 1) := by decide +kernel
theorem dX4_hasSheets_6 : decode cX4_hasSheets 6 = .ok (.aload_n 0, 1) := by decide +kernel
theorem dX4_hasSheets_7 : decode cX4_hasSheets 7 = .ok (.getfield 22, 3) := by decide +kernel
theorem dX4_hasSheets_10 : decode cX4_hasSheets 10 = .ok (.ishl, 1) := by decide +kernel
theorem dX4_hasSheets_11 : decode cX4_hasSheets 11 = .ok (.if_icmp .ge 7, 3) := by decide +kernel
theorem dX4_hasSheets_14 : decode cX4_hasSheets 14 = .ok (.iconst 1, 1) := by decide +kernel
theorem dX4_hasSheets_15 : decode cX4_hasSheets 15 = .ok (.goto 4, 3) := by decide +kernel
theorem dX4_hasSheets_18 : decode cX4_hasSheets 18 = .ok (.iconst 0, 1) := by decide +kernel
theorem dX4_hasSheets_19 : decode cX4_hasSheets 19 = .ok (.ireturn, 1) := by decide +kernel
theorem dX4_hasNote_0 : decode cX4_hasNote 0 = .ok (.iload_n 1, 1) := by decide +kernel
theorem dX4_hasNote_1 : decode cX4_hasNote 1 = .ok (.ifCond .lt 17, 3) := by decide +kernel
theorem dX4_hasNote_4 : decode cX4_hasNote 4 = .ok (.iload_n 1, 1) := by decide +kernel
theorem dX4_hasNote_5 : decode cX4_hasNote 5 = .ok (.aload_n 0, 1) := by decide +kernel
theorem dX4_hasNote_6 : decode cX4_hasNote 6 = .ok (.getfield 11, 3) := by decide +kernel
theorem dX4_hasNote_9 : decode cX4_hasNote 9 = .ok (.iconst 1, 1) := by decide +kernel
theorem dX4_hasNote_10 : decode cX4_hasNote 10 = .ok (.iaload, 1) := by decide +kernel
theorem dX4_hasNote_11 : decode cX4_hasNote 11 = .ok (.if_icmp .ge 7, 3) := by decide +kernel
theorem dX4_hasNote_14 : decode cX4_hasNote 14 = .ok (.iconst 1, 1) := by decide +kernel
theorem dX4_hasNote_15 : decode cX4_hasNote 15 = .ok (.goto 4, 3) := by decide +kernel
theorem dX4_hasNote_18 : decode cX4_hasNote 18 = .ok (.iconst 0, 1) := by decide +kernel
theorem dX4_hasNote_19 : decode cX4_hasNote 19 = .ok (.ireturn, 1) := by decide +kernel
theorem dX4_hasNotes_0 : decode cX4_hasNotes 0 = .ok (.iload_n 1, 1) := by decide +kernel
theorem dX4_hasNotes_1 : decode cX4_hasNotes 1 = .ok (.ifCond .lt 19, 3) := by decide +kernel
theorem dX4_hasNotes_4 : decode cX4_hasNotes 4 = .ok (.iload_n 1, 1) := by decide +kernel
theorem dX4_hasNotes_5 : decode cX4_hasNotes 5 = .ok (.iconst 1, 1) := by decide +kernel
theorem dX4_hasNotes_6 : decode cX4_hasNotes 6 = .ok (.aload_n 0, 1) := by decide +kernel
theorem dX4_hasNotes_7 : decode cX4_hasNotes 7 = .ok (.getfield 11, 3) := by decide +kernel
theorem dX4_hasNotes_10 : decode cX4_hasNotes 10 = .ok (.iconst 1, 1) := by decide +kernel
theorem dX4_hasNotes_11 : decode cX4_hasNotes 11 = .ok (.iaload, 1) := by decide +kernel
theorem dX4_hasNotes_12 : decode cX4_hasNotes 12 = .ok (.ishl, 1) := by decide +kernel
theorem dX4_hasNotes_13 : decode cX4_hasNotes 13 = .ok (.if_icmp .ge 7, 3) := by decide +kernel
theorem dX4_hasNotes_16 : decode cX4_hasNotes 16 = .ok (.iconst 1, 1) := by decide +kernel
theorem dX4_hasNotes_17 : decode cX4_hasNotes 17 = .ok (.goto 4, 3) := by decide +kernel
theorem dX4_hasNotes_20 : decode cX4_hasNotes 20 = .ok (.iconst 0, 1) := by decide +kernel
theorem dX4_hasNotes_21 : decode cX4_hasNotes 21 = .ok (.ireturn, 1) := by decide +kernel
theorem dX4_inkOf_0 : decode cX4_inkOf 0 = .ok (.aload_n 0, 1) := by decide +kernel
theorem dX4_inkOf_1 : decode cX4_inkOf 1 = .ok (.getfield 11, 3) := by decide +kernel
theorem dX4_inkOf_4 : decode cX4_inkOf 4 = .ok (.iload_n 1, 1) := by decide +kernel
theorem dX4_inkOf_5 : decode cX4_inkOf 5 = .ok (.iconst 0, 1) := by decide +kernel
theorem dX4_inkOf_6 : decode cX4_inkOf 6 = .ok (.invokestatic 55, 3) := by decide +kernel
theorem dX4_inkOf_9 : decode cX4_inkOf 9 = .ok (.iaload, 1) := by decide +kernel
theorem dX4_inkOf_10 : decode cX4_inkOf 10 = .ok (.ireturn, 1) := by decide +kernel
theorem dX4_copyOf_0 : decode cX4_copyOf 0 = .ok (.aload_n 0, 1) := by decide +kernel
theorem dX4_copyOf_1 : decode cX4_copyOf 1 = .ok (.getfield 11, 3) := by decide +kernel
theorem dX4_copyOf_4 : decode cX4_copyOf 4 = .ok (.iload_n 1, 1) := by decide +kernel
theorem dX4_copyOf_5 : decode cX4_copyOf 5 = .ok (.iconst 1, 1) := by decide +kernel
theorem dX4_copyOf_6 : decode cX4_copyOf 6 = .ok (.invokestatic 55, 3) := by decide +kernel
theorem dX4_copyOf_9 : decode cX4_copyOf 9 = .ok (.iaload, 1) := by decide +kernel
theorem dX4_copyOf_10 : decode cX4_copyOf 10 = .ok (.ireturn, 1) := by decide +kernel
set_option maxHeartbeats 4000000 in
set_option maxRecDepth 100000 in
theorem ctX4_placeOf (l : Launch) (E : VE)  (x0 : Int32) (x1 : Int32)   {Post : Int32 → Prop} (hw : wpX4_placeOf x0 x1 Post) (sz : Nat) : Met l yX4_placeOf (mW yX4_placeOf cX4_placeOf 2 (some .int)) rmX4_placeOf (CPre E [.int x0, .int x1] sz (fl [])) (CQi E (fun (z : Int32) (_ : Unit) => Post z) (fun _ => (fl [])) (fl []) sz) 0 0 (va_A (fl []) sz) := by
  refine v_met (by decide) (Nat.le_of_ble_eq_true rfl) ?_
  intro pr e s m below meth c A hsz hA C
  subst hsz
  refine v_iconst (pc := 0) C 2 ki_2 dX4_placeOf_0 ?_
  refine v_iload_n (pc := 1) C 0 rfl rfl dX4_placeOf_1 ?_
  refine v_bipush (pc := 2) C 14 kb_14 dX4_placeOf_2 ?_
  refine v_imul (pc := 4) C dX4_placeOf_4 ?_
  refine v_iadd (pc := 5) C dX4_placeOf_5 ?_
  refine v_iload_n (pc := 6) C 1 rfl rfl dX4_placeOf_6 ?_
  refine v_iadd (pc := 7) C dX4_placeOf_7 ?_
  exact v_ireti (pc := 8) C () hA rfl hw dX4_placeOf_8
set_option maxHeartbeats 4000000 in
set_option maxRecDepth 100000 in
theorem ctX4_dentOf (l : Launch) (E : VE) (a : Nat → Nat) (x1 : Int32) (x2 : Int32) (p : St)  {Post : Int32 → Prop} (hw : wpX4_dentOf x1 x2 p Post) (sz : Nat) : Met l yX4_dentOf (mW yX4_dentOf cX4_dentOf 3 (some .int)) rmX4_dentOf (CPre E [.ref (a 0), .int x1, .int x2] sz (fl [bPad E a p])) (CQi E (fun (z : Int32) (_ : Unit) => Post z) (fun _ => (fl [bPad E a p])) (fl [bPad E a p]) sz) 0 0 (va_A (fl [bPad E a p]) sz) := by
  refine v_met (by decide) (Nat.le_of_ble_eq_true rfl) ?_
  intro pr e s m below meth c A hsz hA C
  subst hsz
  refine v_aload_n (pc := 0) C 0 rfl rfl dX4_dentOf_0 ?_
  refine v_get (pc := 1) C cfX4 rfl 0 0 rfl (by decide) wfX4_11 rfl dX4_dentOf_1 ?_
  refine v_iload_n (pc := 4) C 1 rfl rfl dX4_dentOf_4 ?_
  refine v_iconst (pc := 5) C 2 ki_2 dX4_dentOf_5 ?_
  refine v_iload_n (pc := 6) C 2 rfl rfl dX4_dentOf_6 ?_
  refine v_iadd (pc := 7) C dX4_dentOf_7 ?_
  refine v_goBi (pc := 8) C (bs := [bPad E a p]) (cs := []) (cs' := (fun (_ : Unit) => [])) (bs' := (fun (_ : Unit) => [bPad E a p])) (w' := (fun (_ : Unit) => (fl [bPad E a p]))) [] rfl rfl (fun _ => rfl) (fun _ => rfl) (fun _ => rfl) (v_runSB (pc := 8) C [.int x1, .int ((2 : Int32) + x2)] [.ref (a 1)] (fun sz => ctX4_placeOf l E x1 ((2 : Int32) + x2) hw sz) [] rfl rfl rfl mfX4_placeOf msX4_placeOf wmX4_55 rfl ⟨Nat.le_of_ble_eq_true rfl, Nat.le_of_ble_eq_true rfl⟩ ⟨rfl, rfl⟩ rfl (Nat.le_of_ble_eq_true rfl) ⟨Nat.zero_le _, Nat.zero_le _⟩ dX4_dentOf_8) (fun r1 _ hw => ?_)
  obtain ⟨hg, hw⟩ := hw
  refine v_iald (pc := 11) C 1 rfl hg rfl dX4_dentOf_11 ?_
  exact v_ireti (pc := 12) C () hA rfl hw dX4_dentOf_12
set_option maxHeartbeats 4000000 in
set_option maxRecDepth 100000 in
theorem ctX4_noteCount (l : Launch) (E : VE) (a : Nat → Nat)  (p : St)  {Post : Int32 → Prop} (hw : wpX4_noteCount p Post) (sz : Nat) : Met l yX4_noteCount (mW yX4_noteCount cX4_noteCount 1 (some .int)) rmX4_noteCount (CPre E [.ref (a 0)] sz (fl [bPad E a p])) (CQi E (fun (z : Int32) (_ : Unit) => Post z) (fun _ => (fl [bPad E a p])) (fl [bPad E a p]) sz) 0 0 (va_A (fl [bPad E a p]) sz) := by
  refine v_met (by decide) (Nat.le_of_ble_eq_true rfl) ?_
  intro pr e s m below meth c A hsz hA C
  subst hsz
  refine v_aload_n (pc := 0) C 0 rfl rfl dX4_noteCount_0 ?_
  refine v_get (pc := 1) C cfX4 rfl 0 0 rfl (by decide) wfX4_11 rfl dX4_noteCount_1 ?_
  refine v_iconst (pc := 4) C 1 ki_1 dX4_noteCount_4 ?_
  refine v_iald (pc := 5) C 1 rfl vi_1_86 tn_1 dX4_noteCount_5 ?_
  exact v_ireti (pc := 6) C () hA rfl hw dX4_noteCount_6
set_option maxHeartbeats 4000000 in
set_option maxRecDepth 100000 in
theorem ctX4_forceDown (l : Launch) (E : VE) (a : Nat → Nat) (x1 : Int32) (x2 : Int32) (p : St)  {Post : Int32 → Prop} (hw : wpX4_forceDown x1 x2 p Post) (sz : Nat) : Met l yX4_forceDown (mW yX4_forceDown cX4_forceDown 3 (some .int)) rmX4_forceDown (CPre E [.ref (a 0), .int x1, .int x2] sz (fl [bPad E a p])) (CQi E (fun (z : Int32) (_ : Unit) => Post z) (fun _ => (fl [bPad E a p])) (fl [bPad E a p]) sz) 0 0 (va_A (fl [bPad E a p]) sz) := by
  refine v_met (by decide) (Nat.le_of_ble_eq_true rfl) ?_
  intro pr e s m below meth c A hsz hA C
  subst hsz
  refine v_iload_n (pc := 0) C 2 rfl rfl dX4_forceDown_0 ?_
  refine v_if_lt (pc := 1) C 10 (by decide) dX4_forceDown_1 (fun hc => ?_) (fun hc => ?_)
  · have hw := hw.1 hc
    refine v_iconst (pc := 10) C 0 ki_0 dX4_forceDown_10 ?_
    refine v_goto (pc := 11) C 25 (by decide) dX4_forceDown_11 ?_
    exact v_ireti (pc := 25) C () hA rfl hw dX4_forceDown_25
  · have hw := hw.2 hc
    refine v_iload_n (pc := 4) C 2 rfl rfl dX4_forceDown_4 ?_
    refine v_bipush (pc := 5) C 6 kb_6 dX4_forceDown_5 ?_
    refine v_icmp_lt (pc := 7) C 14 (by decide) dX4_forceDown_7 (fun hc => ?_) (fun hc => ?_)
    · have hw := hw.1 hc
      refine v_aload_n (pc := 14) C 0 rfl rfl dX4_forceDown_14 ?_
      refine v_get (pc := 15) C cfX4 rfl 0 9 rfl (by decide) wfX4_40 rfl dX4_forceDown_15 ?_
      refine v_iload_n (pc := 18) C 1 rfl rfl dX4_forceDown_18 ?_
      refine v_bipush (pc := 19) C 6 kb_6 dX4_forceDown_19 ?_
      refine v_imul (pc := 21) C dX4_forceDown_21 ?_
      refine v_iload_n (pc := 22) C 2 rfl rfl dX4_forceDown_22 ?_
      refine v_iadd (pc := 23) C dX4_forceDown_23 ?_
      obtain ⟨hg, hw⟩ := hw
      refine v_iald (pc := 24) C 7 rfl hg rfl dX4_forceDown_24 ?_
      exact v_ireti (pc := 25) C () hA rfl hw dX4_forceDown_25
    · have hw := hw.2 hc
      refine v_iconst (pc := 10) C 0 ki_0 dX4_forceDown_10 ?_
      refine v_goto (pc := 11) C 25 (by decide) dX4_forceDown_11 ?_
      exact v_ireti (pc := 25) C () hA rfl hw dX4_forceDown_25
set_option maxHeartbeats 4000000 in
set_option maxRecDepth 100000 in
theorem ctX4_forceOn (l : Launch) (E : VE) (a : Nat → Nat) (x1 : Int32) (x2 : Int32) (p : St)  {Post : Int32 → Prop} (hw : wpX4_forceOn x1 x2 p Post) (sz : Nat) : Met l yX4_forceOn (mW yX4_forceOn cX4_forceOn 3 (some .int)) rmX4_forceOn (CPre E [.ref (a 0), .int x1, .int x2] sz (fl [bPad E a p])) (CQi E (fun (z : Int32) (_ : Unit) => Post z) (fun _ => (fl [bPad E a p])) (fl [bPad E a p]) sz) 0 0 (va_A (fl [bPad E a p]) sz) := by
  refine v_met (by decide) (Nat.le_of_ble_eq_true rfl) ?_
  intro pr e s m below meth c A hsz hA C
  subst hsz
  refine v_aload_n (pc := 0) C 0 rfl rfl dX4_forceOn_0 ?_
  refine v_iload_n (pc := 1) C 1 rfl rfl dX4_forceOn_1 ?_
  refine v_iload_n (pc := 2) C 2 rfl rfl dX4_forceOn_2 ?_
  refine v_aload_n (pc := 3) C 0 rfl rfl dX4_forceOn_3 ?_
  refine v_get (pc := 4) C cfX4 rfl 0 8 rfl (by decide) wfX4_37 rfl dX4_forceOn_4 ?_
  refine v_iload_n (pc := 7) C 1 rfl rfl dX4_forceOn_7 ?_
  obtain ⟨hg, hw⟩ := hw
  refine v_iald (pc := 8) C 6 rfl hg rfl dX4_forceOn_8 ?_
  refine v_isub (pc := 9) C dX4_forceOn_9 ?_
  refine v_goAi (pc := 10) C (wc' := (fun (_ : Unit) => (fl [bPad E a p]))) (fun _ => rfl) (v_runVA (pc := 10) C [.int x1, .int (x2 - ((p.A 8) x1.toNatClampNeg))] [] (fun sz => ctX4_forceDown l E a x1 (x2 - ((p.A 8) x1.toNatClampNeg)) p hw sz) mfX4_forceDown mvX4_forceDown wmX4_80 rfl ⟨Nat.le_of_ble_eq_true rfl, Nat.le_of_ble_eq_true rfl⟩ ⟨rfl, rfl⟩ 0 (ci := 4) (qc := (RX4, TX4, 12)) rfl rfl rfl rfl (Nat.le_of_ble_eq_true rfl) ⟨Nat.zero_le _, Nat.zero_le _⟩ dX4_forceOn_10) (fun r1 _ hw => ?_)
  exact v_ireti (pc := 13) C () hA rfl hw dX4_forceOn_13
set_option maxHeartbeats 4000000 in
set_option maxRecDepth 100000 in
theorem vlX11_dentInto_3 (C : VC pr s m args meth c E A cX11_dentInto 6 none RX11) (hA : va_A w0 s.heap.size = A) (a : Nat → Nat) (n0 : Nat) {Post : (Nat → Int32) → Prop} {KX : (Nat → Int32) → Prop} (hX : ∀ (p : (Nat → Int32)), KX p → V pr l e rmX11_dentInto s m args below meth c E A 6 0 0 (MQ below (CQv E Post (fun u => (fl [bArr E a n0 u])) w0 s.heap.size) args s 0 0 A) (fl [bArr E a n0 p]) 56 [] []) : ∀ (n : Nat) (x1 : Int32) (x2 : Int32) (x3 : Int32) (x4 : Int32) (p : (Nat → Int32)), wLX11_dentInto_3 n0 Post KX n (x1, x2, x3, x4, p) → V pr l e rmX11_dentInto s m args below meth c E A 6 0 0 (MQ below (CQv E Post (fun u => (fl [bArr E a n0 u])) w0 s.heap.size) args s 0 0 A) (fl [bArr E a n0 p]) 3 [(0, .ref (a 0)), (1, .int x1), (2, .int x2), (3, .int x3), (4, .int x4)] [] := by
  intro n
  induction n with
  | zero => intro x1 x2 x3 x4 p hw; exact absurd hw id
  | succ n hself =>
    intro x1 x2 x3 x4 p hw
    have hw : wlX11_dentInto_3 n0 Post KX (wLX11_dentInto_3 n0 Post KX n) x1 x2 x3 x4 p := hw
    refine v_iload (pc := 3) C 4 rfl dX11_dentInto_3 ?_
    refine v_bipush (pc := 5) C 12 kb_12 dX11_dentInto_5 ?_
    refine v_icmp_ge (pc := 7) C 56 (by decide) dX11_dentInto_7 (fun hc => ?_) (fun hc => ?_)
    · have hw := hw.1 hc
      refine v_sub (lv' := []) [] rfl ?_
      exact hX p hw
    · have hw := hw.2 hc
      refine v_iload_n (pc := 10) C 1 rfl rfl dX11_dentInto_10 ?_
      refine v_iload (pc := 11) C 4 rfl dX11_dentInto_11 ?_
      refine v_iadd (pc := 13) C dX11_dentInto_13 ?_
      refine v_topi (fun x5_1 ex => ?_)
      have hw := hw x5_1 ex
      refine v_istore (pc := 14) C [(5, .int x5_1), (0, .ref (a 0)), (1, .int x1), (2, .int x2), (3, .int x3), (4, .int x4)] rfl (by decide) dX11_dentInto_14 ?_
      refine v_iload_n (pc := 16) C 3 rfl rfl dX11_dentInto_16 ?_
      refine v_iload (pc := 17) C 5 rfl dX11_dentInto_17 ?_
      refine v_ishr (pc := 19) C dX11_dentInto_19 ?_
      refine v_iconst (pc := 20) C 1 ki_1 dX11_dentInto_20 ?_
      refine v_iand (pc := 21) C dX11_dentInto_21 ?_
      refine v_if_eq (pc := 22) C 50 (by decide) dX11_dentInto_22 (fun hc => ?_) (fun hc => ?_)
      · have hw := hw.1 hc
        obtain ⟨x4_2, ex⟩ : ∃ y : Int32, y = x4 + 1 := ⟨_, rfl⟩
        have hw := hw x4_2 ex
        refine v_iinc (pc := 50) C 5 rfl (by rw [ex, ki_1]) [(4, .int x4_2), (5, .int x5_1), (0, .ref (a 0)), (1, .int x1), (2, .int x2), (3, .int x3)] rfl (by decide) dX11_dentInto_50 ?_
        refine v_goto (pc := 53) C 3 (by decide) dX11_dentInto_53 ?_
        refine v_sub (lv' := [(0, .ref (a 0)), (1, .int x1), (2, .int x2), (3, .int x3), (4, .int x4_2)]) [2, 3, 4, 5, 0] rfl ?_
        exact hself x1 x2 x3 x4_2 p hw
      · have hw := hw.2 hc
        refine v_iload (pc := 25) C 0 rfl dX11_dentInto_25 ?_
        refine v_if_lt (pc := 27) C 50 (by decide) dX11_dentInto_27 (fun hc => ?_) (fun hc => ?_)
        · have hw := hw.1 hc
          obtain ⟨x4_3, ex⟩ : ∃ y : Int32, y = x4 + 1 := ⟨_, rfl⟩
          have hw := hw x4_3 ex
          refine v_iinc (pc := 50) C 5 rfl (by rw [ex, ki_1]) [(4, .int x4_3), (5, .int x5_1), (0, .ref (a 0)), (1, .int x1), (2, .int x2), (3, .int x3)] rfl (by decide) dX11_dentInto_50 ?_
          refine v_goto (pc := 53) C 3 (by decide) dX11_dentInto_53 ?_
          refine v_sub (lv' := [(0, .ref (a 0)), (1, .int x1), (2, .int x2), (3, .int x3), (4, .int x4_3)]) [2, 3, 4, 5, 0] rfl ?_
          exact hself x1 x2 x3 x4_3 p hw
        · have hw := hw.2 hc
          refine v_iload (pc := 30) C 0 rfl dX11_dentInto_30 ?_
          refine v_aload_n (pc := 32) C 1 rfl rfl dX11_dentInto_32 ?_
          refine v_alen (pc := 33) C 0 (v := (Int32.ofNat n0)) rfl rfl dX11_dentInto_33 ?_
          refine v_icmp_ge (pc := 34) C 50 (by decide) dX11_dentInto_34 (fun hc => ?_) (fun hc => ?_)
          · have hw := hw.1 hc
            obtain ⟨x4_4, ex⟩ : ∃ y : Int32, y = x4 + 1 := ⟨_, rfl⟩
            have hw := hw x4_4 ex
            refine v_iinc (pc := 50) C 5 rfl (by rw [ex, ki_1]) [(4, .int x4_4), (5, .int x5_1), (0, .ref (a 0)), (1, .int x1), (2, .int x2), (3, .int x3)] rfl (by decide) dX11_dentInto_50 ?_
            refine v_goto (pc := 53) C 3 (by decide) dX11_dentInto_53 ?_
            refine v_sub (lv' := [(0, .ref (a 0)), (1, .int x1), (2, .int x2), (3, .int x3), (4, .int x4_4)]) [2, 3, 4, 5, 0] rfl ?_
            exact hself x1 x2 x3 x4_4 p hw
          · have hw := hw.2 hc
            refine v_aload_n (pc := 37) C 1 rfl rfl dX11_dentInto_37 ?_
            refine v_iload (pc := 38) C 0 rfl dX11_dentInto_38 ?_
            obtain ⟨hg, hw⟩ := hw
            refine v_iald (pc := 40) C 0 rfl hg rfl dX11_dentInto_40 ?_
            refine v_iload_n (pc := 41) C 4 rfl rfl dX11_dentInto_41 ?_
            refine v_icmp_ge (pc := 42) C 50 (by decide) dX11_dentInto_42 (fun hc => ?_) (fun hc => ?_)
            · have hw := hw.1 hc
              obtain ⟨x4_5, ex⟩ : ∃ y : Int32, y = x4 + 1 := ⟨_, rfl⟩
              have hw := hw x4_5 ex
              refine v_iinc (pc := 50) C 5 rfl (by rw [ex, ki_1]) [(4, .int x4_5), (5, .int x5_1), (0, .ref (a 0)), (1, .int x1), (2, .int x2), (3, .int x3)] rfl (by decide) dX11_dentInto_50 ?_
              refine v_goto (pc := 53) C 3 (by decide) dX11_dentInto_53 ?_
              refine v_sub (lv' := [(0, .ref (a 0)), (1, .int x1), (2, .int x2), (3, .int x3), (4, .int x4_5)]) [2, 3, 4, 5, 0] rfl ?_
              exact hself x1 x2 x3 x4_5 p hw
            · have hw := hw.2 hc
              refine v_aload_n (pc := 45) C 1 rfl rfl dX11_dentInto_45 ?_
              refine v_iload (pc := 46) C 0 rfl dX11_dentInto_46 ?_
              refine v_iload_n (pc := 48) C 4 rfl rfl dX11_dentInto_48 ?_
              obtain ⟨hg, hw⟩ := hw
              obtain ⟨p6, es⟩ : ∃ y : (Nat → Int32), y = (upd p x5_1.toNatClampNeg x3) := ⟨_, rfl⟩
              have hw := hw p6 es
              refine v_iast (pc := 49) C 0 (w' := (fl [bArr E a n0 p6])) rfl rfl (by subst es; rfl) hg dX11_dentInto_49 ?_
              obtain ⟨x4_7, ex⟩ : ∃ y : Int32, y = x4 + 1 := ⟨_, rfl⟩
              have hw := hw x4_7 ex
              refine v_iinc (pc := 50) C 5 rfl (by rw [ex, ki_1]) [(4, .int x4_7), (5, .int x5_1), (0, .ref (a 0)), (1, .int x1), (2, .int x2), (3, .int x3)] rfl (by decide) dX11_dentInto_50 ?_
              refine v_goto (pc := 53) C 3 (by decide) dX11_dentInto_53 ?_
              refine v_sub (lv' := [(0, .ref (a 0)), (1, .int x1), (2, .int x2), (3, .int x3), (4, .int x4_7)]) [2, 3, 4, 5, 0] rfl ?_
              exact hself x1 x2 x3 x4_7 p6 hw
set_option maxHeartbeats 4000000 in
set_option maxRecDepth 100000 in
theorem ctX11_dentInto (l : Launch) (E : VE) (a : Nat → Nat) (x1 : Int32) (x2 : Int32) (x3 : Int32) (p : (Nat → Int32)) (n0 : Nat) {Post : (Nat → Int32) → Prop} (hw : wpX11_dentInto x1 x2 x3 p n0 Post) (sz : Nat) : Met l yX11_dentInto (mW yX11_dentInto cX11_dentInto 6 none) rmX11_dentInto (CPre E [.ref (a 0), .int x1, .int x2, .int x3] sz (fl [bArr E a n0 p])) (CQv E Post (fun u => (fl [bArr E a n0 u])) (fl [bArr E a n0 p]) sz) 0 0 (va_A (fl [bArr E a n0 p]) sz) := by
  refine v_met (by decide) (Nat.le_of_ble_eq_true rfl) ?_
  intro pr e s m below meth c A hsz hA C
  subst hsz
  refine v_iconst (pc := 0) C 0 ki_0 dX11_dentInto_0 ?_
  refine v_istore (pc := 1) C [(4, .int 0), (0, .ref (a 0)), (1, .int x1), (2, .int x2), (3, .int x3)] rfl (by decide) dX11_dentInto_1 ?_
  obtain ⟨n, hw⟩ := hw
  refine v_sub (lv' := [(0, .ref (a 0)), (1, .int x1), (2, .int x2), (3, .int x3), (4, .int 0)]) [1, 2, 3, 4, 0] rfl ?_
  refine vlX11_dentInto_3 C hA a n0 (fun p8 hw => ?_) n x1 x2 x3 0 p hw
  exact v_vret (pc := 56) C p8 hA rfl hw dX11_dentInto_56
set_option maxHeartbeats 4000000 in
set_option maxRecDepth 100000 in
theorem vlX2_look_3 (C : VC pr s m args meth c E A cX2_look 5 none RX2) (hA : va_A w0 s.heap.size = A) (a : Nat → Nat) (b : Nat → Nat) (q : St) {Post : St → Prop} {KX : Int32 → Int32 → St → Prop} (hX : ∀ (x2 : Int32) (x3 : Int32) (p : St), KX x2 x3 p → V pr l e rmX2_look s m args below meth c E A 5 0 0 (MQ below (CQv E Post (fun u => (fl [bLost E a u, bPad E b q])) w0 s.heap.size) args s 0 0 A) (fl [bLost E a p, bPad E b q]) 38 [(0, .ref (a 0)), (1, .ref (b 0)), (2, .int x2), (3, .int x3)] []) : ∀ (n : Nat) (x2 : Int32) (x3 : Int32) (x4 : Int32) (p : St), wLX2_look_3 q Post KX n (x2, x3, x4, p) → V pr l e rmX2_look s m args below meth c E A 5 0 0 (MQ below (CQv E Post (fun u => (fl [bLost E a u, bPad E b q])) w0 s.heap.size) args s 0 0 A) (fl [bLost E a p, bPad E b q]) 3 [(0, .ref (a 0)), (1, .ref (b 0)), (2, .int x2), (3, .int x3), (4, .int x4)] [] := by
  intro n
  induction n with
  | zero => intro x2 x3 x4 p hw; exact absurd hw id
  | succ n hself =>
    intro x2 x3 x4 p hw
    have hw : wlX2_look_3 q Post KX (wLX2_look_3 q Post KX n) x2 x3 x4 p := hw
    refine v_iload (pc := 3) C 4 rfl dX2_look_3 ?_
    refine v_bipush (pc := 5) C 12 kb_12 dX2_look_5 ?_
    refine v_icmp_ge (pc := 7) C 38 (by decide) dX2_look_7 (fun hc => ?_) (fun hc => ?_)
    · have hw := hw.1 hc
      refine v_sub (lv' := [(0, .ref (a 0)), (1, .ref (b 0)), (2, .int x2), (3, .int x3)]) [0, 1, 2, 3] rfl ?_
      exact hX x2 x3 p hw
    · have hw := hw.2 hc
      refine v_aload_n (pc := 10) C 0 rfl rfl dX2_look_10 ?_
      refine v_get (pc := 11) C cfX2 rfl 0 0 rfl (by decide) wfX2_9 rfl dX2_look_11 ?_
      refine v_iload (pc := 14) C 4 rfl dX2_look_14 ?_
      refine v_aload_n (pc := 16) C 1 rfl rfl dX2_look_16 ?_
      refine v_iload_n (pc := 17) C 2 rfl rfl dX2_look_17 ?_
      refine v_iload (pc := 18) C 4 rfl dX2_look_18 ?_
      refine v_goBi (pc := 20) C (bs := [bLost E a p, bPad E b q]) (cs := [bPad E b q]) (cs' := (fun (_ : Unit) => [bPad E b q])) (bs' := (fun (_ : Unit) => [bLost E a p, bPad E b q])) (w' := (fun (_ : Unit) => (fl [bLost E a p, bPad E b q]))) [1] rfl rfl (fun _ => rfl) (fun _ => rfl) (fun _ => rfl) (v_runVB (pc := 20) C [.int x2, .int x4] [.int x4, .ref (a 1)] (fun sz => ctX4_dentOf l E b x2 x4 q hw sz) [1] rfl rfl rfl mfX4_dentOf mvX4_dentOf wmX2_25 rfl ⟨Nat.le_of_ble_eq_true rfl, Nat.le_of_ble_eq_true rfl⟩ ⟨rfl, rfl⟩ 3 (ci := 4) (qc := (RX4, TX4, 12)) rfl rfl rfl rfl (Nat.le_of_ble_eq_true rfl) ⟨Nat.zero_le _, Nat.zero_le _⟩ dX2_look_20) (fun r1 _ hw => ?_)
      obtain ⟨hg, hw⟩ := hw
      obtain ⟨p2, es⟩ : ∃ y : St, y = p.sA 0 (upd (p.A 0) x4.toNatClampNeg r1) := ⟨_, rfl⟩
      have hw := hw p2 es
      refine v_iast (pc := 23) C 1 (w' := (fl [bLost E a p2, bPad E b q])) rfl rfl (by subst es; rfl) hg dX2_look_23 ?_
      refine v_aload_n (pc := 24) C 0 rfl rfl dX2_look_24 ?_
      refine v_get (pc := 25) C cfX2 rfl 0 1 rfl (by decide) wfX2_15 rfl dX2_look_25 ?_
      refine v_iload (pc := 28) C 4 rfl dX2_look_28 ?_
      refine v_iconst (pc := 30) C 0 ki_0 dX2_look_30 ?_
      obtain ⟨hg, hw⟩ := hw
      obtain ⟨p3, es⟩ : ∃ y : St, y = p2.sA 1 (upd (p2.A 1) x4.toNatClampNeg 0) := ⟨_, rfl⟩
      have hw := hw p3 es
      refine v_iast (pc := 31) C 2 (w' := (fl [bLost E a p3, bPad E b q])) rfl rfl (by subst es; rfl) hg dX2_look_31 ?_
      obtain ⟨x4_4, ex⟩ : ∃ y : Int32, y = x4 + 1 := ⟨_, rfl⟩
      have hw := hw x4_4 ex
      refine v_iinc (pc := 32) C 4 rfl (by rw [ex, ki_1]) [(4, .int x4_4), (0, .ref (a 0)), (1, .ref (b 0)), (2, .int x2), (3, .int x3)] rfl (by decide) dX2_look_32 ?_
      refine v_goto (pc := 35) C 3 (by decide) dX2_look_35 ?_
      refine v_sub (lv' := [(0, .ref (a 0)), (1, .ref (b 0)), (2, .int x2), (3, .int x3), (4, .int x4_4)]) [1, 2, 3, 4, 0] rfl ?_
      exact hself x2 x3 x4_4 p3 hw
set_option maxHeartbeats 4000000 in
set_option maxRecDepth 100000 in
theorem vlX2_look_41 (C : VC pr s m args meth c E A cX2_look 5 none RX2) (hA : va_A w0 s.heap.size = A) (a : Nat → Nat) (b : Nat → Nat) (q : St) {Post : St → Prop} {KX : St → Prop} (hX : ∀ (p : St), KX p → V pr l e rmX2_look s m args below meth c E A 5 0 0 (MQ below (CQv E Post (fun u => (fl [bLost E a u, bPad E b q])) w0 s.heap.size) args s 0 0 A) (fl [bLost E a p, bPad E b q]) 87 [] []) : ∀ (n : Nat) (x2 : Int32) (x3 : Int32) (x4 : Int32) (p : St), wLX2_look_41 q Post KX n (x2, x3, x4, p) → V pr l e rmX2_look s m args below meth c E A 5 0 0 (MQ below (CQv E Post (fun u => (fl [bLost E a u, bPad E b q])) w0 s.heap.size) args s 0 0 A) (fl [bLost E a p, bPad E b q]) 41 [(0, .ref (a 0)), (1, .ref (b 0)), (2, .int x2), (3, .int x3), (4, .int x4)] [] := by
  intro n
  induction n with
  | zero => intro x2 x3 x4 p hw; exact absurd hw id
  | succ n hself =>
    intro x2 x3 x4 p hw
    have hw : wlX2_look_41 q Post KX (wLX2_look_41 q Post KX n) x2 x3 x4 p := hw
    refine v_iload (pc := 41) C 4 rfl dX2_look_41 ?_
    refine v_aload_n (pc := 43) C 1 rfl rfl dX2_look_43 ?_
    refine v_goBi (pc := 44) C (bs := [bLost E a p, bPad E b q]) (cs := [bPad E b q]) (cs' := (fun (_ : Unit) => [bPad E b q])) (bs' := (fun (_ : Unit) => [bLost E a p, bPad E b q])) (w' := (fun (_ : Unit) => (fl [bLost E a p, bPad E b q]))) [1] rfl rfl (fun _ => rfl) (fun _ => rfl) (fun _ => rfl) (v_runVB (pc := 44) C [] [.int x4] (fun sz => ctX4_noteCount l E b q hw sz) [1] rfl rfl rfl mfX4_noteCount mvX4_noteCount wmX2_31 rfl ⟨Nat.le_of_ble_eq_true rfl, Nat.le_of_ble_eq_true rfl⟩ ⟨rfl, rfl⟩ 3 (ci := 4) (qc := (RX4, TX4, 12)) rfl rfl rfl rfl (Nat.le_of_ble_eq_true rfl) ⟨Nat.zero_le _, Nat.zero_le _⟩ dX2_look_44) (fun r8 _ hw => ?_)
    refine v_icmp_ge (pc := 47) C 87 (by decide) dX2_look_47 (fun hc => ?_) (fun hc => ?_)
    · have hw := hw.1 hc
      refine v_sub (lv' := []) [] rfl ?_
      exact hX p hw
    · have hw := hw.2 hc
      refine v_iload_n (pc := 50) C 3 rfl rfl dX2_look_50 ?_
      refine v_iload (pc := 51) C 4 rfl dX2_look_51 ?_
      refine v_ishr (pc := 53) C dX2_look_53 ?_
      refine v_iconst (pc := 54) C 1 ki_1 dX2_look_54 ?_
      refine v_iand (pc := 55) C dX2_look_55 ?_
      refine v_if_eq (pc := 56) C 81 (by decide) dX2_look_56 (fun hc => ?_) (fun hc => ?_)
      · have hw := hw.1 hc
        obtain ⟨x4_9, ex⟩ : ∃ y : Int32, y = x4 + 1 := ⟨_, rfl⟩
        have hw := hw x4_9 ex
        refine v_iinc (pc := 81) C 4 rfl (by rw [ex, ki_1]) [(4, .int x4_9), (0, .ref (a 0)), (1, .ref (b 0)), (2, .int x2), (3, .int x3)] rfl (by decide) dX2_look_81 ?_
        refine v_goto (pc := 84) C 41 (by decide) dX2_look_84 ?_
        refine v_sub (lv' := [(0, .ref (a 0)), (1, .ref (b 0)), (2, .int x2), (3, .int x3), (4, .int x4_9)]) [1, 2, 3, 4, 0] rfl ?_
        exact hself x2 x3 x4_9 p hw
      · have hw := hw.2 hc
        refine v_aload_n (pc := 59) C 0 rfl rfl dX2_look_59 ?_
        refine v_get (pc := 60) C cfX2 rfl 0 1 rfl (by decide) wfX2_15 rfl dX2_look_60 ?_
        refine v_iconst (pc := 63) C 0 ki_0 dX2_look_63 ?_
        refine v_aload_n (pc := 64) C 1 rfl rfl dX2_look_64 ?_
        refine v_getN (pc := 65) C cfX4 rfl 3 7 rfl (by decide) wfX2_35 rfl dX2_look_65 ?_
        refine v_iload (pc := 68) C 4 rfl dX2_look_68 ?_
        obtain ⟨hg, hw⟩ := hw
        refine v_iald (pc := 70) C 8 rfl hg rfl dX2_look_70 ?_
        refine v_aload_n (pc := 71) C 1 rfl rfl dX2_look_71 ?_
        refine v_iload (pc := 72) C 4 rfl dX2_look_72 ?_
        refine v_iload_n (pc := 74) C 2 rfl rfl dX2_look_74 ?_
        refine v_goBi (pc := 75) C (bs := [bLost E a p, bPad E b q]) (cs := [bPad E b q]) (cs' := (fun (_ : Unit) => [bPad E b q])) (bs' := (fun (_ : Unit) => [bLost E a p, bPad E b q])) (w' := (fun (_ : Unit) => (fl [bLost E a p, bPad E b q]))) [1] rfl rfl (fun _ => rfl) (fun _ => rfl) (fun _ => rfl) (v_runVB (pc := 75) C [.int x4, .int x2] [.int ((q.A 7) x4.toNatClampNeg), .int 0, .ref (a 2)] (fun sz => ctX4_forceOn l E b x4 x2 q hw sz) [1] rfl rfl rfl mfX4_forceOn mvX4_forceOn wmX2_38 rfl ⟨Nat.le_of_ble_eq_true rfl, Nat.le_of_ble_eq_true rfl⟩ ⟨rfl, rfl⟩ 3 (ci := 4) (qc := (RX4, TX4, 12)) rfl rfl rfl rfl (Nat.le_of_ble_eq_true rfl) ⟨Nat.zero_le _, Nat.zero_le _⟩ dX2_look_75) (fun r10 _ hw => ?_)
        refine v_gov (pc := 78) C (wc := (fl [bArr E (fun _ => (a 2)) 12 (p.A 1)])) (wc' := (fun (u : (Nat → Int32)) => (fl [bArr E (fun _ => (a 2)) 12 u]))) (w' := (fun (u : (Nat → Int32)) => (fl [bLost E a (p.sA 1 u), bPad E b q]))) [2] rfl (fun _ => rfl) (fun _ => rfl) (v_runSN (pc := 78) C [.ref (a 2), .int 0, .int ((q.A 7) x4.toNatClampNeg), .int r10] [] (fun sz => ctX11_dentInto l E (fun _ => (a 2)) 0 ((q.A 7) x4.toNatClampNeg) r10 (p.A 1) 12 hw sz) [2] rfl rfl mfX11_dentInto msX11_dentInto wmX2_41 rfl ⟨Nat.le_of_ble_eq_true rfl, Nat.le_of_ble_eq_true rfl⟩ ⟨rfl, rfl⟩ rfl (Nat.le_of_ble_eq_true rfl) ⟨Nat.zero_le _, Nat.zero_le _⟩ dX2_look_78) (fun p11 hw => ?_)
        obtain ⟨x4_12, ex⟩ : ∃ y : Int32, y = x4 + 1 := ⟨_, rfl⟩
        have hw := hw x4_12 ex
        refine v_iinc (pc := 81) C 4 rfl (by rw [ex, ki_1]) [(4, .int x4_12), (0, .ref (a 0)), (1, .ref (b 0)), (2, .int x2), (3, .int x3)] rfl (by decide) dX2_look_81 ?_
        refine v_goto (pc := 84) C 41 (by decide) dX2_look_84 ?_
        refine v_sub (lv' := [(0, .ref (a 0)), (1, .ref (b 0)), (2, .int x2), (3, .int x3), (4, .int x4_12)]) [1, 2, 3, 4, 0] rfl ?_
        exact hself x2 x3 x4_12 (p.sA 1 p11) hw
set_option maxHeartbeats 4000000 in
set_option maxRecDepth 100000 in
theorem ctX2_look (l : Launch) (E : VE) (a : Nat → Nat) (b : Nat → Nat) (x2 : Int32) (x3 : Int32) (p : St) (q : St)  {Post : St → Prop} (hw : wpX2_look x2 x3 p q Post) (sz : Nat) : Met l yX2_look (mW yX2_look cX2_look 5 none) rmX2_look (CPre E [.ref (a 0), .ref (b 0), .int x2, .int x3] sz (fl [bLost E a p, bPad E b q])) (CQv E Post (fun u => (fl [bLost E a u, bPad E b q])) (fl [bLost E a p, bPad E b q]) sz) 0 0 (va_A (fl [bLost E a p, bPad E b q]) sz) := by
  refine v_met (by decide) (Nat.le_of_ble_eq_true rfl) ?_
  intro pr e s m below meth c A hsz hA C
  subst hsz
  refine v_iconst (pc := 0) C 0 ki_0 dX2_look_0 ?_
  refine v_istore (pc := 1) C [(4, .int 0), (0, .ref (a 0)), (1, .ref (b 0)), (2, .int x2), (3, .int x3)] rfl (by decide) dX2_look_1 ?_
  obtain ⟨n, hw⟩ := hw
  refine v_sub (lv' := [(0, .ref (a 0)), (1, .ref (b 0)), (2, .int x2), (3, .int x3), (4, .int 0)]) [1, 2, 3, 4, 0] rfl ?_
  refine vlX2_look_3 C hA a b q (fun y5 y6 p7 hw => ?_) n x2 x3 0 p hw
  refine v_iconst (pc := 38) C 0 ki_0 dX2_look_38 ?_
  refine v_istore (pc := 39) C [(4, .int 0), (0, .ref (a 0)), (1, .ref (b 0)), (2, .int y5), (3, .int y6)] rfl (by decide) dX2_look_39 ?_
  obtain ⟨n, hw⟩ := hw
  refine v_sub (lv' := [(0, .ref (a 0)), (1, .ref (b 0)), (2, .int y5), (3, .int y6), (4, .int 0)]) [1, 2, 3, 4, 0] rfl ?_
  refine vlX2_look_41 C hA a b q (fun p13 hw => ?_) n y5 y6 0 p7 hw
  exact v_vret (pc := 87) C p13 hA rfl hw dX2_look_87
set_option maxHeartbeats 4000000 in
set_option maxRecDepth 100000 in
theorem vjX2_guess_91 (C : VC pr s m args meth c E A cX2_guess 4 (some .boolean) RX2) (hA : va_A w0 s.heap.size = A) (a : Nat → Nat)  {Post : Int32 → St → Prop} {self : (Int32 × Int32 × St) → Prop} {KX : St → Prop} (x1 : Int32) (x2 : Int32) (p : St) (hw : wjX2_guess_91  Post self KX x1 x2 p) (hself : ∀ (x1 : Int32) (x2 : Int32) (p : St), self (x1, x2, p) → V pr l e rmX2_guess s m args below meth c E A 4 0 0 (MQ below (CQi E Post (fun u => (fl [bLost E a u])) w0 s.heap.size) args s 0 0 A) (fl [bLost E a p]) 18 [(0, .ref (a 0)), (1, .int x1), (2, .int x2)] []) (hX : ∀ (p : St), KX p → V pr l e rmX2_guess s m args below meth c E A 4 0 0 (MQ below (CQi E Post (fun u => (fl [bLost E a u])) w0 s.heap.size) args s 0 0 A) (fl [bLost E a p]) 109 [] []) : V pr l e rmX2_guess s m args below meth c E A 4 0 0 (MQ below (CQi E Post (fun u => (fl [bLost E a u])) w0 s.heap.size) args s 0 0 A) (fl [bLost E a p]) 91 [(0, .ref (a 0)), (1, .int x1), (2, .int x2)] [] := by
  refine v_aload_n (pc := 91) C 0 rfl rfl dX2_guess_91 ?_
  refine v_dup (pc := 92) C rfl dX2_guess_92 ?_
  refine v_get (pc := 93) C cfX2 rfl 0 3 rfl (by decide) wfX2_22 rfl dX2_guess_93 ?_
  refine v_iconst (pc := 96) C 1 ki_1 dX2_guess_96 ?_
  refine v_iload_n (pc := 97) C 2 rfl rfl dX2_guess_97 ?_
  refine v_ishl (pc := 98) C dX2_guess_98 ?_
  refine v_ior (pc := 99) C dX2_guess_99 ?_
  obtain ⟨p3, es⟩ : ∃ y : St, y = p.sI 3 ((p.I 3) ||| ((1 : Int32) <<< (x2 &&& 31))) := ⟨_, rfl⟩
  have hw := hw p3 es
  refine v_put (pc := 100) C cfX2 rfl 0 3 (ty := .int) (w' := (fl [bLost E a p3])) rfl (by subst es; rfl) (by decide) wfX2_22 rfl rfl rfl rfl (Nat.le_of_ble_eq_true rfl) dX2_guess_100 ?_
  obtain ⟨x2_4, ex⟩ : ∃ y : Int32, y = x2 + 1 := ⟨_, rfl⟩
  have hw := hw x2_4 ex
  refine v_iinc (pc := 103) C 2 rfl (by rw [ex, ki_1]) [(2, .int x2_4), (0, .ref (a 0)), (1, .int x1)] rfl (by decide) dX2_guess_103 ?_
  refine v_goto (pc := 106) C 18 (by decide) dX2_guess_106 ?_
  refine v_sub (lv' := [(0, .ref (a 0)), (1, .int x1), (2, .int x2_4)]) [1, 2, 0] rfl ?_
  exact hself x1 x2_4 p3 hw
set_option maxHeartbeats 4000000 in
set_option maxRecDepth 100000 in
theorem vjX2_guess_77 (C : VC pr s m args meth c E A cX2_guess 4 (some .boolean) RX2) (hA : va_A w0 s.heap.size = A) (a : Nat → Nat)  {Post : Int32 → St → Prop} {self : (Int32 × Int32 × St) → Prop} {KX : St → Prop} (x1 : Int32) (x2 : Int32) (x3 : Int32) (p : St) (hw : wjX2_guess_77  Post self KX x1 x2 x3 p) (hself : ∀ (x1 : Int32) (x2 : Int32) (p : St), self (x1, x2, p) → V pr l e rmX2_guess s m args below meth c E A 4 0 0 (MQ below (CQi E Post (fun u => (fl [bLost E a u])) w0 s.heap.size) args s 0 0 A) (fl [bLost E a p]) 18 [(0, .ref (a 0)), (1, .int x1), (2, .int x2)] []) (hX : ∀ (p : St), KX p → V pr l e rmX2_guess s m args below meth c E A 4 0 0 (MQ below (CQi E Post (fun u => (fl [bLost E a u])) w0 s.heap.size) args s 0 0 A) (fl [bLost E a p]) 109 [] []) : V pr l e rmX2_guess s m args below meth c E A 4 0 0 (MQ below (CQi E Post (fun u => (fl [bLost E a u])) w0 s.heap.size) args s 0 0 A) (fl [bLost E a p]) 77 [(0, .ref (a 0)), (1, .int x1), (2, .int x2), (3, .int x3)] [] := by
  refine v_iload_n (pc := 77) C 3 rfl rfl dX2_guess_77 ?_
  refine v_if_ne (pc := 78) C 91 (by decide) dX2_guess_78 (fun hc => ?_) (fun hc => ?_)
  · have hw := hw.1 hc
    refine v_sub (lv' := [(0, .ref (a 0)), (1, .int x1), (2, .int x2)]) [0, 1, 2] rfl ?_
    exact vjX2_guess_91 C hA a  x1 x2 p hw hself hX
  · have hw := hw.2 hc
    refine v_aload_n (pc := 81) C 0 rfl rfl dX2_guess_81 ?_
    refine v_get (pc := 82) C cfX2 rfl 0 1 rfl (by decide) wfX2_15 rfl dX2_guess_82 ?_
    refine v_iload_n (pc := 85) C 2 rfl rfl dX2_guess_85 ?_
    obtain ⟨hg, hw⟩ := hw
    refine v_iald (pc := 86) C 2 rfl hg rfl dX2_guess_86 ?_
    refine v_iload_n (pc := 87) C 1 rfl rfl dX2_guess_87 ?_
    refine v_icmp_lt (pc := 88) C 103 (by decide) dX2_guess_88 (fun hc => ?_) (fun hc => ?_)
    · have hw := hw.1 hc
      obtain ⟨x2_5, ex⟩ : ∃ y : Int32, y = x2 + 1 := ⟨_, rfl⟩
      have hw := hw x2_5 ex
      refine v_iinc (pc := 103) C 2 rfl (by rw [ex, ki_1]) [(2, .int x2_5), (0, .ref (a 0)), (1, .int x1), (3, .int x3)] rfl (by decide) dX2_guess_103 ?_
      refine v_goto (pc := 106) C 18 (by decide) dX2_guess_106 ?_
      refine v_sub (lv' := [(0, .ref (a 0)), (1, .int x1), (2, .int x2_5)]) [1, 2, 0] rfl ?_
      exact hself x1 x2_5 p hw
    · have hw := hw.2 hc
      refine v_sub (lv' := [(0, .ref (a 0)), (1, .int x1), (2, .int x2)]) [0, 1, 2] rfl ?_
      exact vjX2_guess_91 C hA a  x1 x2 p hw hself hX
set_option maxHeartbeats 4000000 in
set_option maxRecDepth 100000 in
theorem vjX2_guess_61 (C : VC pr s m args meth c E A cX2_guess 4 (some .boolean) RX2) (hA : va_A w0 s.heap.size = A) (a : Nat → Nat)  {Post : Int32 → St → Prop} {self : (Int32 × Int32 × St) → Prop} {KX : St → Prop} (x1 : Int32) (x2 : Int32) (x3 : Int32) (p : St) (hw : wjX2_guess_61  Post self KX x1 x2 x3 p) (hself : ∀ (x1 : Int32) (x2 : Int32) (p : St), self (x1, x2, p) → V pr l e rmX2_guess s m args below meth c E A 4 0 0 (MQ below (CQi E Post (fun u => (fl [bLost E a u])) w0 s.heap.size) args s 0 0 A) (fl [bLost E a p]) 18 [(0, .ref (a 0)), (1, .int x1), (2, .int x2)] []) (hX : ∀ (p : St), KX p → V pr l e rmX2_guess s m args below meth c E A 4 0 0 (MQ below (CQi E Post (fun u => (fl [bLost E a u])) w0 s.heap.size) args s 0 0 A) (fl [bLost E a p]) 109 [] []) : V pr l e rmX2_guess s m args below meth c E A 4 0 0 (MQ below (CQi E Post (fun u => (fl [bLost E a u])) w0 s.heap.size) args s 0 0 A) (fl [bLost E a p]) 61 [(0, .ref (a 0)), (1, .int x1), (2, .int x2), (3, .int x3)] [] := by
  refine v_iload_n (pc := 61) C 3 rfl rfl dX2_guess_61 ?_
  refine v_if_eq (pc := 62) C 77 (by decide) dX2_guess_62 (fun hc => ?_) (fun hc => ?_)
  · have hw := hw.1 hc
    refine v_sub (lv' := [(0, .ref (a 0)), (1, .int x1), (2, .int x2), (3, .int x3)]) [0, 1, 2, 3] rfl ?_
    exact vjX2_guess_77 C hA a  x1 x2 x3 p hw hself hX
  · have hw := hw.2 hc
    refine v_aload_n (pc := 65) C 0 rfl rfl dX2_guess_65 ?_
    refine v_dup (pc := 66) C rfl dX2_guess_66 ?_
    refine v_get (pc := 67) C cfX2 rfl 0 2 rfl (by decide) wfX2_18 rfl dX2_guess_67 ?_
    refine v_iconst (pc := 70) C 1 ki_1 dX2_guess_70 ?_
    refine v_iload_n (pc := 71) C 2 rfl rfl dX2_guess_71 ?_
    refine v_ishl (pc := 72) C dX2_guess_72 ?_
    refine v_ior (pc := 73) C dX2_guess_73 ?_
    obtain ⟨p6, es⟩ : ∃ y : St, y = p.sI 2 ((p.I 2) ||| ((1 : Int32) <<< (x2 &&& 31))) := ⟨_, rfl⟩
    have hw := hw p6 es
    refine v_put (pc := 74) C cfX2 rfl 0 2 (ty := .int) (w' := (fl [bLost E a p6])) rfl (by subst es; rfl) (by decide) wfX2_18 rfl rfl rfl rfl (Nat.le_of_ble_eq_true rfl) dX2_guess_74 ?_
    refine v_sub (lv' := [(0, .ref (a 0)), (1, .int x1), (2, .int x2), (3, .int x3)]) [0, 1, 2, 3] rfl ?_
    exact vjX2_guess_77 C hA a  x1 x2 x3 p6 hw hself hX
set_option maxHeartbeats 4000000 in
set_option maxRecDepth 100000 in
theorem vjX2_guess_44 (C : VC pr s m args meth c E A cX2_guess 4 (some .boolean) RX2) (hA : va_A w0 s.heap.size = A) (a : Nat → Nat)  {Post : Int32 → St → Prop} {self : (Int32 × Int32 × St) → Prop} {KX : St → Prop} (x1 : Int32) (x2 : Int32) (z0 : Int32) (p : St) (hw : wjX2_guess_44  Post self KX x1 x2 z0 p) (hself : ∀ (x1 : Int32) (x2 : Int32) (p : St), self (x1, x2, p) → V pr l e rmX2_guess s m args below meth c E A 4 0 0 (MQ below (CQi E Post (fun u => (fl [bLost E a u])) w0 s.heap.size) args s 0 0 A) (fl [bLost E a p]) 18 [(0, .ref (a 0)), (1, .int x1), (2, .int x2)] []) (hX : ∀ (p : St), KX p → V pr l e rmX2_guess s m args below meth c E A 4 0 0 (MQ below (CQi E Post (fun u => (fl [bLost E a u])) w0 s.heap.size) args s 0 0 A) (fl [bLost E a p]) 109 [] []) : V pr l e rmX2_guess s m args below meth c E A 4 0 0 (MQ below (CQi E Post (fun u => (fl [bLost E a u])) w0 s.heap.size) args s 0 0 A) (fl [bLost E a p]) 44 [(0, .ref (a 0)), (1, .int x1), (2, .int x2)] [.int z0] := by
  refine v_istore_n (pc := 44) C [(3, .int z0), (0, .ref (a 0)), (1, .int x1), (2, .int x2)] rfl rfl (by decide) dX2_guess_44 ?_
  refine v_iload_n (pc := 45) C 0 rfl rfl dX2_guess_45 ?_
  refine v_if_eq (pc := 46) C 61 (by decide) dX2_guess_46 (fun hc => ?_) (fun hc => ?_)
  · have hw := hw.1 hc
    refine v_sub (lv' := [(0, .ref (a 0)), (1, .int x1), (2, .int x2), (3, .int z0)]) [1, 2, 3, 0] rfl ?_
    exact vjX2_guess_61 C hA a  x1 x2 z0 p hw hself hX
  · have hw := hw.2 hc
    refine v_aload_n (pc := 49) C 1 rfl rfl dX2_guess_49 ?_
    refine v_get (pc := 50) C cfX2 rfl 0 0 rfl (by decide) wfX2_9 rfl dX2_guess_50 ?_
    refine v_iload_n (pc := 53) C 3 rfl rfl dX2_guess_53 ?_
    obtain ⟨hg, hw⟩ := hw
    refine v_iald (pc := 54) C 1 rfl hg rfl dX2_guess_54 ?_
    refine v_iload_n (pc := 55) C 2 rfl rfl dX2_guess_55 ?_
    refine v_icmp_eq (pc := 56) C 61 (by decide) dX2_guess_56 (fun hc => ?_) (fun hc => ?_)
    · have hw := hw.1 hc
      refine v_sub (lv' := [(0, .ref (a 0)), (1, .int x1), (2, .int x2), (3, .int z0)]) [1, 2, 3, 0] rfl ?_
      exact vjX2_guess_61 C hA a  x1 x2 z0 p hw hself hX
    · have hw := hw.2 hc
      refine v_iconst (pc := 59) C 0 ki_0 dX2_guess_59 ?_
      exact v_iretz (pc := 60) C rfl p hA rfl hw dX2_guess_60
set_option maxHeartbeats 4000000 in
set_option maxRecDepth 100000 in
theorem vlX2_guess_18 (C : VC pr s m args meth c E A cX2_guess 4 (some .boolean) RX2) (hA : va_A w0 s.heap.size = A) (a : Nat → Nat)  {Post : Int32 → St → Prop} {KX : St → Prop} (hX : ∀ (p : St), KX p → V pr l e rmX2_guess s m args below meth c E A 4 0 0 (MQ below (CQi E Post (fun u => (fl [bLost E a u])) w0 s.heap.size) args s 0 0 A) (fl [bLost E a p]) 109 [] []) : ∀ (n : Nat) (x1 : Int32) (x2 : Int32) (p : St), wLX2_guess_18  Post KX n (x1, x2, p) → V pr l e rmX2_guess s m args below meth c E A 4 0 0 (MQ below (CQi E Post (fun u => (fl [bLost E a u])) w0 s.heap.size) args s 0 0 A) (fl [bLost E a p]) 18 [(0, .ref (a 0)), (1, .int x1), (2, .int x2)] [] := by
  intro n
  induction n with
  | zero => intro x1 x2 p hw; exact absurd hw id
  | succ n hself =>
    intro x1 x2 p hw
    have hw : wlX2_guess_18  Post KX (wLX2_guess_18  Post KX n) x1 x2 p := hw
    refine v_iload_n (pc := 18) C 2 rfl rfl dX2_guess_18 ?_
    refine v_bipush (pc := 19) C 12 kb_12 dX2_guess_19 ?_
    refine v_icmp_ge (pc := 21) C 109 (by decide) dX2_guess_21 (fun hc => ?_) (fun hc => ?_)
    · have hw := hw.1 hc
      refine v_sub (lv' := []) [] rfl ?_
      exact hX p hw
    · have hw := hw.2 hc
      refine v_aload_n (pc := 24) C 0 rfl rfl dX2_guess_24 ?_
      refine v_get (pc := 25) C cfX2 rfl 0 0 rfl (by decide) wfX2_9 rfl dX2_guess_25 ?_
      refine v_iload_n (pc := 28) C 2 rfl rfl dX2_guess_28 ?_
      obtain ⟨hg, hw⟩ := hw
      refine v_iald (pc := 29) C 1 rfl hg rfl dX2_guess_29 ?_
      refine v_aload_n (pc := 30) C 0 rfl rfl dX2_guess_30 ?_
      refine v_get (pc := 31) C cfX2 rfl 0 1 rfl (by decide) wfX2_15 rfl dX2_guess_31 ?_
      refine v_iload_n (pc := 34) C 2 rfl rfl dX2_guess_34 ?_
      obtain ⟨hg, hw⟩ := hw
      refine v_iald (pc := 35) C 2 rfl hg rfl dX2_guess_35 ?_
      refine v_icmp_eq (pc := 36) C 43 (by decide) dX2_guess_36 (fun hc => ?_) (fun hc => ?_)
      · have hw := hw.1 hc
        refine v_iconst (pc := 43) C 0 ki_0 dX2_guess_43 ?_
        refine v_sub (lv' := [(0, .ref (a 0)), (1, .int x1), (2, .int x2)]) [0, 1, 2] rfl ?_
        exact vjX2_guess_44 C hA a  x1 x2 0 p hw hself hX
      · have hw := hw.2 hc
        refine v_iconst (pc := 39) C 1 ki_1 dX2_guess_39 ?_
        refine v_goto (pc := 40) C 44 (by decide) dX2_guess_40 ?_
        refine v_sub (lv' := [(0, .ref (a 0)), (1, .int x1), (2, .int x2)]) [0, 1, 2] rfl ?_
        exact vjX2_guess_44 C hA a  x1 x2 1 p hw hself hX
set_option maxHeartbeats 4000000 in
set_option maxRecDepth 100000 in
theorem ctX2_guess (l : Launch) (E : VE) (a : Nat → Nat) (x1 : Int32) (p : St)  {Post : Int32 → St → Prop} (hw : wpX2_guess x1 p Post) (sz : Nat) : Met l yX2_guess (mW yX2_guess cX2_guess 4 (some .boolean)) rmX2_guess (CPre E [.ref (a 0), .int x1] sz (fl [bLost E a p])) (CQi E Post (fun u => (fl [bLost E a u])) (fl [bLost E a p]) sz) 0 0 (va_A (fl [bLost E a p]) sz) := by
  refine v_met (by decide) (Nat.le_of_ble_eq_true rfl) ?_
  intro pr e s m below meth c A hsz hA C
  subst hsz
  refine v_aload_n (pc := 0) C 0 rfl rfl dX2_guess_0 ?_
  refine v_iconst (pc := 1) C 0 ki_0 dX2_guess_1 ?_
  obtain ⟨p1, es⟩ : ∃ y : St, y = p.sI 2 0 := ⟨_, rfl⟩
  have hw := hw p1 es
  refine v_put (pc := 2) C cfX2 rfl 0 2 (ty := .int) (w' := (fl [bLost E a p1])) rfl (by subst es; rfl) (by decide) wfX2_18 rfl rfl rfl rfl (Nat.le_of_ble_eq_true rfl) dX2_guess_2 ?_
  refine v_aload_n (pc := 5) C 0 rfl rfl dX2_guess_5 ?_
  refine v_iconst (pc := 6) C 0 ki_0 dX2_guess_6 ?_
  obtain ⟨p2, es⟩ : ∃ y : St, y = p1.sI 3 0 := ⟨_, rfl⟩
  have hw := hw p2 es
  refine v_put (pc := 7) C cfX2 rfl 0 3 (ty := .int) (w' := (fl [bLost E a p2])) rfl (by subst es; rfl) (by decide) wfX2_22 rfl rfl rfl rfl (Nat.le_of_ble_eq_true rfl) dX2_guess_7 ?_
  refine v_iload_n (pc := 10) C 1 rfl rfl dX2_guess_10 ?_
  refine v_if_gt (pc := 11) C 16 (by decide) dX2_guess_11 (fun hc => ?_) (fun hc => ?_)
  · have hw := hw.1 hc
    refine v_iconst (pc := 16) C 0 ki_0 dX2_guess_16 ?_
    refine v_istore_n (pc := 17) C [(2, .int 0), (0, .ref (a 0)), (1, .int x1)] rfl rfl (by decide) dX2_guess_17 ?_
    obtain ⟨n, hw⟩ := hw
    refine v_sub (lv' := [(0, .ref (a 0)), (1, .int x1), (2, .int 0)]) [1, 2, 0] rfl ?_
    refine vlX2_guess_18 C hA a  (fun p7 hw => ?_) n x1 0 p2 hw
    refine v_iconst (pc := 109) C 1 ki_1 dX2_guess_109 ?_
    exact v_iretz (pc := 110) C rfl p7 hA rfl hw dX2_guess_110
  · have hw := hw.2 hc
    refine v_iconst (pc := 14) C 0 ki_0 dX2_guess_14 ?_
    exact v_iretz (pc := 15) C rfl p2 hA rfl hw dX2_guess_15
set_option maxHeartbeats 4000000 in
set_option maxRecDepth 100000 in
theorem ctX2_isFit (l : Launch) (E : VE) (a : Nat → Nat) (x1 : Int32) (p : St)  {Post : Int32 → Prop} (hw : wpX2_isFit x1 p Post) (sz : Nat) : Met l yX2_isFit (mW yX2_isFit cX2_isFit 2 (some .boolean)) rmX2_isFit (CPre E [.ref (a 0), .int x1] sz (fl [bLost E a p])) (CQi E (fun (z : Int32) (_ : Unit) => Post z) (fun _ => (fl [bLost E a p])) (fl [bLost E a p]) sz) 0 0 (va_A (fl [bLost E a p]) sz) := by
  refine v_met (by decide) (Nat.le_of_ble_eq_true rfl) ?_
  intro pr e s m below meth c A hsz hA C
  subst hsz
  refine v_iload_n (pc := 0) C 1 rfl rfl dX2_isFit_0 ?_
  refine v_aload_n (pc := 1) C 0 rfl rfl dX2_isFit_1 ?_
  refine v_get (pc := 2) C cfX2 rfl 0 2 rfl (by decide) wfX2_18 rfl dX2_isFit_2 ?_
  refine v_iand (pc := 5) C dX2_isFit_5 ?_
  refine v_aload_n (pc := 6) C 0 rfl rfl dX2_isFit_6 ?_
  refine v_get (pc := 7) C cfX2 rfl 0 2 rfl (by decide) wfX2_18 rfl dX2_isFit_7 ?_
  refine v_icmp_ne (pc := 10) C 28 (by decide) dX2_isFit_10 (fun hc => ?_) (fun hc => ?_)
  · have hw := hw.1 hc
    refine v_iconst (pc := 28) C 0 ki_0 dX2_isFit_28 ?_
    exact v_iretz (pc := 29) C rfl () hA rfl hw dX2_isFit_29
  · have hw := hw.2 hc
    refine v_iload_n (pc := 13) C 1 rfl rfl dX2_isFit_13 ?_
    refine v_aload_n (pc := 14) C 0 rfl rfl dX2_isFit_14 ?_
    refine v_get (pc := 15) C cfX2 rfl 0 3 rfl (by decide) wfX2_22 rfl dX2_isFit_15 ?_
    refine v_iconst (pc := 18) C (-1) ki_m1 dX2_isFit_18 ?_
    refine v_ixor (pc := 19) C dX2_isFit_19 ?_
    refine v_iand (pc := 20) C dX2_isFit_20 ?_
    refine v_if_ne (pc := 21) C 28 (by decide) dX2_isFit_21 (fun hc => ?_) (fun hc => ?_)
    · have hw := hw.1 hc
      refine v_iconst (pc := 28) C 0 ki_0 dX2_isFit_28 ?_
      exact v_iretz (pc := 29) C rfl () hA rfl hw dX2_isFit_29
    · have hw := hw.2 hc
      refine v_iconst (pc := 24) C 1 ki_1 dX2_isFit_24 ?_
      refine v_goto (pc := 25) C 29 (by decide) dX2_isFit_25 ?_
      exact v_iretz (pc := 29) C rfl () hA rfl hw dX2_isFit_29
set_option maxHeartbeats 4000000 in
set_option maxRecDepth 100000 in
theorem vlX4_beginAnew_22 (C : VC pr s m args meth c E A cX4_beginAnew 3 none RX4) (hA : va_A w0 s.heap.size = A) (a : Nat → Nat)  {Post : St → Prop} {KX : St → Prop} (hX : ∀ (p : St), KX p → V pr l e rmX4_beginAnew s m args below meth c E A 3 0 0 (MQ below (CQv E Post (fun u => (fl [bPad E a u])) w0 s.heap.size) args s 0 0 A) (fl [bPad E a p]) 44 [] []) : ∀ (n : Nat) (x2 : Int32) (p : St), wLX4_beginAnew_22  Post KX n (x2, p) → V pr l e rmX4_beginAnew s m args below meth c E A 3 0 0 (MQ below (CQv E Post (fun u => (fl [bPad E a u])) w0 s.heap.size) args s 0 0 A) (fl [bPad E a p]) 22 [(0, .ref (a 0)), (2, .int x2)] [] := by
  intro n
  induction n with
  | zero => intro x2 p hw; exact absurd hw id
  | succ n hself =>
    intro x2 p hw
    have hw : wlX4_beginAnew_22  Post KX (wLX4_beginAnew_22  Post KX n) x2 p := hw
    refine v_iload_n (pc := 22) C 1 rfl rfl dX4_beginAnew_22 ?_
    refine v_aload_n (pc := 23) C 0 rfl rfl dX4_beginAnew_23 ?_
    refine v_get (pc := 24) C cfX4 rfl 0 0 rfl (by decide) wfX4_11 rfl dX4_beginAnew_24 ?_
    refine v_alen (pc := 27) C 1 (v := 86) rfl (show Int32.ofNat 86 = 86 by decide) dX4_beginAnew_27 ?_
    refine v_icmp_ge (pc := 28) C 44 (by decide) dX4_beginAnew_28 (fun hc => ?_) (fun hc => ?_)
    · have hw := hw.1 hc
      refine v_sub (lv' := []) [] rfl ?_
      exact hX p hw
    · have hw := hw.2 hc
      refine v_aload_n (pc := 31) C 0 rfl rfl dX4_beginAnew_31 ?_
      refine v_get (pc := 32) C cfX4 rfl 0 0 rfl (by decide) wfX4_11 rfl dX4_beginAnew_32 ?_
      refine v_iload_n (pc := 35) C 1 rfl rfl dX4_beginAnew_35 ?_
      refine v_iconst (pc := 36) C 0 ki_0 dX4_beginAnew_36 ?_
      obtain ⟨hg, hw⟩ := hw
      obtain ⟨p5, es⟩ : ∃ y : St, y = p.sA 0 (upd (p.A 0) x2.toNatClampNeg 0) := ⟨_, rfl⟩
      have hw := hw p5 es
      refine v_iast (pc := 37) C 1 (w' := (fl [bPad E a p5])) rfl rfl (by subst es; rfl) hg dX4_beginAnew_37 ?_
      obtain ⟨x2_6, ex⟩ : ∃ y : Int32, y = x2 + 1 := ⟨_, rfl⟩
      have hw := hw x2_6 ex
      refine v_iinc (pc := 38) C 1 rfl (by rw [ex, ki_1]) [(2, .int x2_6), (0, .ref (a 0))] rfl (by decide) dX4_beginAnew_38 ?_
      refine v_goto (pc := 41) C 22 (by decide) dX4_beginAnew_41 ?_
      refine v_sub (lv' := [(0, .ref (a 0)), (2, .int x2_6)]) [1, 0] rfl ?_
      exact hself x2_6 p5 hw
set_option maxHeartbeats 4000000 in
set_option maxRecDepth 100000 in
theorem ctX4_beginAnew (l : Launch) (E : VE) (a : Nat → Nat) (x1 : Int32) (p : St)  {Post : St → Prop} (hw : wpX4_beginAnew x1 p Post) (sz : Nat) : Met l yX4_beginAnew (mW yX4_beginAnew cX4_beginAnew 3 none) rmX4_beginAnew (CPre E [.ref (a 0), .int x1] sz (fl [bPad E a p])) (CQv E Post (fun u => (fl [bPad E a u])) (fl [bPad E a p]) sz) 0 0 (va_A (fl [bPad E a p]) sz) := by
  refine v_met (by decide) (Nat.le_of_ble_eq_true rfl) ?_
  intro pr e s m below meth c A hsz hA C
  subst hsz
  refine v_aload_n (pc := 0) C 0 rfl rfl dX4_beginAnew_0 ?_
  refine v_iload_n (pc := 1) C 1 rfl rfl dX4_beginAnew_1 ?_
  obtain ⟨p1, es⟩ : ∃ y : St, y = p.sI 3 x1 := ⟨_, rfl⟩
  have hw := hw p1 es
  refine v_put (pc := 2) C cfX4 rfl 0 3 (ty := .int) (w' := (fl [bPad E a p1])) rfl (by subst es; rfl) (by decide) wfX4_22 rfl rfl rfl rfl (Nat.le_of_ble_eq_true rfl) dX4_beginAnew_2 ?_
  refine v_aload_n (pc := 5) C 0 rfl rfl dX4_beginAnew_5 ?_
  refine v_iconst (pc := 6) C 0 ki_0 dX4_beginAnew_6 ?_
  obtain ⟨p2, es⟩ : ∃ y : St, y = p1.sI 4 0 := ⟨_, rfl⟩
  have hw := hw p2 es
  refine v_put (pc := 7) C cfX4 rfl 0 4 (ty := .int) (w' := (fl [bPad E a p2])) rfl (by subst es; rfl) (by decide) wfX4_25 rfl rfl rfl rfl (Nat.le_of_ble_eq_true rfl) dX4_beginAnew_7 ?_
  refine v_aload_n (pc := 10) C 0 rfl rfl dX4_beginAnew_10 ?_
  refine v_iconst (pc := 11) C 0 ki_0 dX4_beginAnew_11 ?_
  obtain ⟨p3, es⟩ : ∃ y : St, y = p2.sI 2 0 := ⟨_, rfl⟩
  have hw := hw p3 es
  refine v_put (pc := 12) C cfX4 rfl 0 2 (ty := .int) (w' := (fl [bPad E a p3])) rfl (by subst es; rfl) (by decide) wfX4_18 rfl rfl rfl rfl (Nat.le_of_ble_eq_true rfl) dX4_beginAnew_12 ?_
  refine v_aload_n (pc := 15) C 0 rfl rfl dX4_beginAnew_15 ?_
  refine v_iconst (pc := 16) C 0 ki_0 dX4_beginAnew_16 ?_
  obtain ⟨p4, es⟩ : ∃ y : St, y = p3.sI 11 0 := ⟨_, rfl⟩
  have hw := hw p4 es
  refine v_put (pc := 17) C cfX4 rfl 0 11 (ty := .int) (w' := (fl [bPad E a p4])) rfl (by subst es; rfl) (by decide) wfX4_46 rfl rfl rfl rfl (Nat.le_of_ble_eq_true rfl) dX4_beginAnew_17 ?_
  refine v_iconst (pc := 20) C 0 ki_0 dX4_beginAnew_20 ?_
  refine v_istore_n (pc := 21) C [(2, .int 0), (0, .ref (a 0)), (1, .int x1)] rfl rfl (by decide) dX4_beginAnew_21 ?_
  obtain ⟨n, hw⟩ := hw
  refine v_sub (lv' := [(0, .ref (a 0)), (2, .int 0)]) [1, 0] rfl ?_
  refine vlX4_beginAnew_22 C hA a  (fun p7 hw => ?_) n 0 p4 hw
  exact v_vret (pc := 44) C p7 hA rfl hw dX4_beginAnew_44
set_option maxHeartbeats 4000000 in
set_option maxRecDepth 100000 in
theorem ctX4_copyFrom (l : Launch) (E : VE) (a : Nat → Nat) (b : Nat → Nat)  (p : St) (q : St)  {Post : St → Prop} (hw : wpX4_copyFrom p q Post) (sz : Nat) : Met l yX4_copyFrom (mW yX4_copyFrom cX4_copyFrom 2 none) rmX4_copyFrom (CPre E [.ref (a 0), .ref (b 0)] sz (fl [bPad E a p, bPad E b q])) (CQv E Post (fun u => (fl [bPad E a u, bPad E b q])) (fl [bPad E a p, bPad E b q]) sz) 0 0 (va_A (fl [bPad E a p, bPad E b q]) sz) := by
  refine v_met (by decide) (Nat.le_of_ble_eq_true rfl) ?_
  intro pr e s m below meth c A hsz hA C
  subst hsz
  refine v_aload_n (pc := 0) C 0 rfl rfl dX4_copyFrom_0 ?_
  refine v_aload_n (pc := 1) C 1 rfl rfl dX4_copyFrom_1 ?_
  refine v_get (pc := 2) C cfX4 rfl 9 3 rfl (by decide) wfX4_22 rfl dX4_copyFrom_2 ?_
  obtain ⟨p1, es⟩ : ∃ y : St, y = p.sI 3 (q.I 3) := ⟨_, rfl⟩
  have hw := hw p1 es
  refine v_put (pc := 5) C cfX4 rfl 0 3 (ty := .int) (w' := (fl [bPad E a p1, bPad E b q])) rfl (by subst es; rfl) (by decide) wfX4_22 rfl rfl rfl rfl (Nat.le_of_ble_eq_true rfl) dX4_copyFrom_5 ?_
  refine v_aload_n (pc := 8) C 0 rfl rfl dX4_copyFrom_8 ?_
  refine v_aload_n (pc := 9) C 1 rfl rfl dX4_copyFrom_9 ?_
  refine v_get (pc := 10) C cfX4 rfl 9 4 rfl (by decide) wfX4_25 rfl dX4_copyFrom_10 ?_
  obtain ⟨p2, es⟩ : ∃ y : St, y = p1.sI 4 (q.I 4) := ⟨_, rfl⟩
  have hw := hw p2 es
  refine v_put (pc := 13) C cfX4 rfl 0 4 (ty := .int) (w' := (fl [bPad E a p2, bPad E b q])) rfl (by subst es; rfl) (by decide) wfX4_25 rfl rfl rfl rfl (Nat.le_of_ble_eq_true rfl) dX4_copyFrom_13 ?_
  refine v_aload_n (pc := 16) C 0 rfl rfl dX4_copyFrom_16 ?_
  refine v_aload_n (pc := 17) C 1 rfl rfl dX4_copyFrom_17 ?_
  refine v_get (pc := 18) C cfX4 rfl 9 2 rfl (by decide) wfX4_18 rfl dX4_copyFrom_18 ?_
  obtain ⟨p3, es⟩ : ∃ y : St, y = p2.sI 2 (q.I 2) := ⟨_, rfl⟩
  have hw := hw p3 es
  refine v_put (pc := 21) C cfX4 rfl 0 2 (ty := .int) (w' := (fl [bPad E a p3, bPad E b q])) rfl (by subst es; rfl) (by decide) wfX4_18 rfl rfl rfl rfl (Nat.le_of_ble_eq_true rfl) dX4_copyFrom_21 ?_
  refine v_aload_n (pc := 24) C 0 rfl rfl dX4_copyFrom_24 ?_
  refine v_aload_n (pc := 25) C 1 rfl rfl dX4_copyFrom_25 ?_
  refine v_get (pc := 26) C cfX4 rfl 9 11 rfl (by decide) wfX4_46 rfl dX4_copyFrom_26 ?_
  obtain ⟨p4, es⟩ : ∃ y : St, y = p3.sI 11 (q.I 11) := ⟨_, rfl⟩
  have hw := hw p4 es
  refine v_put (pc := 29) C cfX4 rfl 0 11 (ty := .int) (w' := (fl [bPad E a p4, bPad E b q])) rfl (by subst es; rfl) (by decide) wfX4_46 rfl rfl rfl rfl (Nat.le_of_ble_eq_true rfl) dX4_copyFrom_29 ?_
  refine v_aload_n (pc := 32) C 1 rfl rfl dX4_copyFrom_32 ?_
  refine v_get (pc := 33) C cfX4 rfl 9 0 rfl (by decide) wfX4_11 rfl dX4_copyFrom_33 ?_
  refine v_iconst (pc := 36) C 0 ki_0 dX4_copyFrom_36 ?_
  refine v_aload_n (pc := 37) C 0 rfl rfl dX4_copyFrom_37 ?_
  refine v_get (pc := 38) C cfX4 rfl 0 0 rfl (by decide) wfX4_11 rfl dX4_copyFrom_38 ?_
  refine v_iconst (pc := 41) C 0 ki_0 dX4_copyFrom_41 ?_
  refine v_bipush (pc := 42) C 86 kb_86 dX4_copyFrom_42 ?_
  obtain ⟨p5, es⟩ : ∃ y : St, y = p4.sA 0 (va_cpy (q.A 0) (p4.A 0) 0 0 86) := ⟨_, rfl⟩
  have hw := hw p5 es
  refine v_copy (pc := 44) C 10 1 (w' := (fl [bPad E a p5, bPad E b q])) rfl rfl (by subst es; rfl) (by decide) (by decide) (by decide) tn_0 tn_0 tn_86 (by decide) (by decide) wmX4_49 wnat wsta wsys (by decide) (Nat.le_of_ble_eq_true rfl) dX4_copyFrom_44 ?_
  refine v_aload_n (pc := 47) C 1 rfl rfl dX4_copyFrom_47 ?_
  refine v_get (pc := 48) C cfX4 rfl 9 1 rfl (by decide) wfX4_15 rfl dX4_copyFrom_48 ?_
  refine v_iconst (pc := 51) C 0 ki_0 dX4_copyFrom_51 ?_
  refine v_aload_n (pc := 52) C 0 rfl rfl dX4_copyFrom_52 ?_
  refine v_get (pc := 53) C cfX4 rfl 0 1 rfl (by decide) wfX4_15 rfl dX4_copyFrom_53 ?_
  refine v_iconst (pc := 56) C 0 ki_0 dX4_copyFrom_56 ?_
  refine v_aload_n (pc := 57) C 0 rfl rfl dX4_copyFrom_57 ?_
  refine v_get (pc := 58) C cfX4 rfl 0 2 rfl (by decide) wfX4_18 rfl dX4_copyFrom_58 ?_
  refine v_bipush (pc := 61) C 86 kb_86 dX4_copyFrom_61 ?_
  refine v_imul (pc := 63) C dX4_copyFrom_63 ?_
  obtain ⟨hg1, hg2, hg3, hw⟩ := hw
  obtain ⟨p6, es⟩ : ∃ y : St, y = p5.sA 1 (va_cpy (q.A 1) (p5.A 1) 0 0 ((p5.I 2) * 86).toNatClampNeg) := ⟨_, rfl⟩
  have hw := hw p6 es
  refine v_copy (pc := 64) C 11 2 (w' := (fl [bPad E a p6, bPad E b q])) rfl rfl (by subst es; rfl) (by decide) (by decide) hg1 tn_0 tn_0 rfl hg2 hg3 wmX4_49 wnat wsta wsys (by decide) (Nat.le_of_ble_eq_true rfl) dX4_copyFrom_64 ?_
  refine v_aload_n (pc := 67) C 1 rfl rfl dX4_copyFrom_67 ?_
  refine v_get (pc := 68) C cfX4 rfl 9 5 rfl (by decide) wfX4_28 rfl dX4_copyFrom_68 ?_
  refine v_iconst (pc := 71) C 0 ki_0 dX4_copyFrom_71 ?_
  refine v_aload_n (pc := 72) C 0 rfl rfl dX4_copyFrom_72 ?_
  refine v_get (pc := 73) C cfX4 rfl 0 5 rfl (by decide) wfX4_28 rfl dX4_copyFrom_73 ?_
  refine v_iconst (pc := 76) C 0 ki_0 dX4_copyFrom_76 ?_
  refine v_bipush (pc := 77) C 10 kb_10 dX4_copyFrom_77 ?_
  obtain ⟨p7, es⟩ : ∃ y : St, y = p6.sA 5 (va_cpy (q.A 5) (p6.A 5) 0 0 10) := ⟨_, rfl⟩
  have hw := hw p7 es
  refine v_copy (pc := 79) C 12 3 (w' := (fl [bPad E a p7, bPad E b q])) rfl rfl (by subst es; rfl) (by decide) (by decide) (by decide) tn_0 tn_0 tn_10 (by decide) (by decide) wmX4_49 wnat wsta wsys (by decide) (Nat.le_of_ble_eq_true rfl) dX4_copyFrom_79 ?_
  refine v_aload_n (pc := 82) C 1 rfl rfl dX4_copyFrom_82 ?_
  refine v_get (pc := 83) C cfX4 rfl 9 6 rfl (by decide) wfX4_31 rfl dX4_copyFrom_83 ?_
  refine v_iconst (pc := 86) C 0 ki_0 dX4_copyFrom_86 ?_
  refine v_aload_n (pc := 87) C 0 rfl rfl dX4_copyFrom_87 ?_
  refine v_get (pc := 88) C cfX4 rfl 0 6 rfl (by decide) wfX4_31 rfl dX4_copyFrom_88 ?_
  refine v_iconst (pc := 91) C 0 ki_0 dX4_copyFrom_91 ?_
  refine v_bipush (pc := 92) C 10 kb_10 dX4_copyFrom_92 ?_
  obtain ⟨p8, es⟩ : ∃ y : St, y = p7.sA 6 (va_cpy (q.A 6) (p7.A 6) 0 0 10) := ⟨_, rfl⟩
  have hw := hw p8 es
  refine v_copy (pc := 94) C 13 4 (w' := (fl [bPad E a p8, bPad E b q])) rfl rfl (by subst es; rfl) (by decide) (by decide) (by decide) tn_0 tn_0 tn_10 (by decide) (by decide) wmX4_49 wnat wsta wsys (by decide) (Nat.le_of_ble_eq_true rfl) dX4_copyFrom_94 ?_
  refine v_aload_n (pc := 97) C 1 rfl rfl dX4_copyFrom_97 ?_
  refine v_get (pc := 98) C cfX4 rfl 9 7 rfl (by decide) wfX4_34 rfl dX4_copyFrom_98 ?_
  refine v_iconst (pc := 101) C 0 ki_0 dX4_copyFrom_101 ?_
  refine v_aload_n (pc := 102) C 0 rfl rfl dX4_copyFrom_102 ?_
  refine v_get (pc := 103) C cfX4 rfl 0 7 rfl (by decide) wfX4_34 rfl dX4_copyFrom_103 ?_
  refine v_iconst (pc := 106) C 0 ki_0 dX4_copyFrom_106 ?_
  refine v_bipush (pc := 107) C 10 kb_10 dX4_copyFrom_107 ?_
  obtain ⟨p9, es⟩ : ∃ y : St, y = p8.sA 7 (va_cpy (q.A 7) (p8.A 7) 0 0 10) := ⟨_, rfl⟩
  have hw := hw p9 es
  refine v_copy (pc := 109) C 14 5 (w' := (fl [bPad E a p9, bPad E b q])) rfl rfl (by subst es; rfl) (by decide) (by decide) (by decide) tn_0 tn_0 tn_10 (by decide) (by decide) wmX4_49 wnat wsta wsys (by decide) (Nat.le_of_ble_eq_true rfl) dX4_copyFrom_109 ?_
  refine v_aload_n (pc := 112) C 1 rfl rfl dX4_copyFrom_112 ?_
  refine v_get (pc := 113) C cfX4 rfl 9 8 rfl (by decide) wfX4_37 rfl dX4_copyFrom_113 ?_
  refine v_iconst (pc := 116) C 0 ki_0 dX4_copyFrom_116 ?_
  refine v_aload_n (pc := 117) C 0 rfl rfl dX4_copyFrom_117 ?_
  refine v_get (pc := 118) C cfX4 rfl 0 8 rfl (by decide) wfX4_37 rfl dX4_copyFrom_118 ?_
  refine v_iconst (pc := 121) C 0 ki_0 dX4_copyFrom_121 ?_
  refine v_bipush (pc := 122) C 10 kb_10 dX4_copyFrom_122 ?_
  obtain ⟨p10, es⟩ : ∃ y : St, y = p9.sA 8 (va_cpy (q.A 8) (p9.A 8) 0 0 10) := ⟨_, rfl⟩
  have hw := hw p10 es
  refine v_copy (pc := 124) C 15 6 (w' := (fl [bPad E a p10, bPad E b q])) rfl rfl (by subst es; rfl) (by decide) (by decide) (by decide) tn_0 tn_0 tn_10 (by decide) (by decide) wmX4_49 wnat wsta wsys (by decide) (Nat.le_of_ble_eq_true rfl) dX4_copyFrom_124 ?_
  refine v_aload_n (pc := 127) C 1 rfl rfl dX4_copyFrom_127 ?_
  refine v_get (pc := 128) C cfX4 rfl 9 9 rfl (by decide) wfX4_40 rfl dX4_copyFrom_128 ?_
  refine v_iconst (pc := 131) C 0 ki_0 dX4_copyFrom_131 ?_
  refine v_aload_n (pc := 132) C 0 rfl rfl dX4_copyFrom_132 ?_
  refine v_get (pc := 133) C cfX4 rfl 0 9 rfl (by decide) wfX4_40 rfl dX4_copyFrom_133 ?_
  refine v_iconst (pc := 136) C 0 ki_0 dX4_copyFrom_136 ?_
  refine v_bipush (pc := 137) C 60 kb_60 dX4_copyFrom_137 ?_
  obtain ⟨p11, es⟩ : ∃ y : St, y = p10.sA 9 (va_cpy (q.A 9) (p10.A 9) 0 0 60) := ⟨_, rfl⟩
  have hw := hw p11 es
  refine v_copy (pc := 139) C 16 7 (w' := (fl [bPad E a p11, bPad E b q])) rfl rfl (by subst es; rfl) (by decide) (by decide) (by decide) tn_0 tn_0 tn_60 (by decide) (by decide) wmX4_49 wnat wsta wsys (by decide) (Nat.le_of_ble_eq_true rfl) dX4_copyFrom_139 ?_
  refine v_aload_n (pc := 142) C 1 rfl rfl dX4_copyFrom_142 ?_
  refine v_get (pc := 143) C cfX4 rfl 9 10 rfl (by decide) wfX4_43 rfl dX4_copyFrom_143 ?_
  refine v_iconst (pc := 146) C 0 ki_0 dX4_copyFrom_146 ?_
  refine v_aload_n (pc := 147) C 0 rfl rfl dX4_copyFrom_147 ?_
  refine v_get (pc := 148) C cfX4 rfl 0 10 rfl (by decide) wfX4_43 rfl dX4_copyFrom_148 ?_
  refine v_iconst (pc := 151) C 0 ki_0 dX4_copyFrom_151 ?_
  refine v_bipush (pc := 152) C 8 kb_8 dX4_copyFrom_152 ?_
  obtain ⟨p12, es⟩ : ∃ y : St, y = p11.sA 10 (va_cpy (q.A 10) (p11.A 10) 0 0 8) := ⟨_, rfl⟩
  have hw := hw p12 es
  refine v_copy (pc := 154) C 17 8 (w' := (fl [bPad E a p12, bPad E b q])) rfl rfl (by subst es; rfl) (by decide) (by decide) (by decide) tn_0 tn_0 tn_8 (by decide) (by decide) wmX4_49 wnat wsta wsys (by decide) (Nat.le_of_ble_eq_true rfl) dX4_copyFrom_154 ?_
  exact v_vret (pc := 157) C p12 hA rfl hw dX4_copyFrom_157
set_option maxHeartbeats 4000000 in
set_option maxRecDepth 100000 in
theorem vjX4_keepForUndo_32 (C : VC pr s m args meth c E A cX4_keepForUndo 1 none RX4) (hA : va_A w0 s.heap.size = A) (a : Nat → Nat)  {Post : St → Prop} (p : St) (hw : wjX4_keepForUndo_32  Post p) : V pr l e rmX4_keepForUndo s m args below meth c E A 1 0 0 (MQ below (CQv E Post (fun u => (fl [bPad E a u])) w0 s.heap.size) args s 0 0 A) (fl [bPad E a p]) 32 [(0, .ref (a 0))] [] := by
  refine v_aload_n (pc := 32) C 0 rfl rfl dX4_keepForUndo_32 ?_
  refine v_get (pc := 33) C cfX4 rfl 0 0 rfl (by decide) wfX4_11 rfl dX4_keepForUndo_33 ?_
  refine v_iconst (pc := 36) C 0 ki_0 dX4_keepForUndo_36 ?_
  refine v_aload_n (pc := 37) C 0 rfl rfl dX4_keepForUndo_37 ?_
  refine v_get (pc := 38) C cfX4 rfl 0 1 rfl (by decide) wfX4_15 rfl dX4_keepForUndo_38 ?_
  refine v_aload_n (pc := 41) C 0 rfl rfl dX4_keepForUndo_41 ?_
  refine v_get (pc := 42) C cfX4 rfl 0 2 rfl (by decide) wfX4_18 rfl dX4_keepForUndo_42 ?_
  refine v_bipush (pc := 45) C 86 kb_86 dX4_keepForUndo_45 ?_
  refine v_imul (pc := 47) C dX4_keepForUndo_47 ?_
  refine v_bipush (pc := 48) C 86 kb_86 dX4_keepForUndo_48 ?_
  obtain ⟨hg1, hg2, hw⟩ := hw
  obtain ⟨p1, es⟩ : ∃ y : St, y = p.sA 1 (va_cpy (p.A 0) (p.A 1) 0 ((p.I 2) * 86).toNatClampNeg 86) := ⟨_, rfl⟩
  have hw := hw p1 es
  refine v_copy (pc := 50) C 1 2 (w' := (fl [bPad E a p1])) rfl rfl (by subst es; rfl) (by decide) hg1 (by decide) tn_0 rfl tn_86 (by decide) hg2 wmX4_49 wnat wsta wsys (by decide) (Nat.le_of_ble_eq_true rfl) dX4_keepForUndo_50 ?_
  refine v_aload_n (pc := 53) C 0 rfl rfl dX4_keepForUndo_53 ?_
  refine v_dup (pc := 54) C rfl dX4_keepForUndo_54 ?_
  refine v_get (pc := 55) C cfX4 rfl 0 2 rfl (by decide) wfX4_18 rfl dX4_keepForUndo_55 ?_
  refine v_iconst (pc := 58) C 1 ki_1 dX4_keepForUndo_58 ?_
  refine v_iadd (pc := 59) C dX4_keepForUndo_59 ?_
  obtain ⟨p2, es⟩ : ∃ y : St, y = p1.sI 2 ((p1.I 2) + 1) := ⟨_, rfl⟩
  have hw := hw p2 es
  refine v_put (pc := 60) C cfX4 rfl 0 2 (ty := .int) (w' := (fl [bPad E a p2])) rfl (by subst es; rfl) (by decide) wfX4_18 rfl rfl rfl rfl (Nat.le_of_ble_eq_true rfl) dX4_keepForUndo_60 ?_
  exact v_vret (pc := 63) C p2 hA rfl hw dX4_keepForUndo_63
set_option maxHeartbeats 4000000 in
set_option maxRecDepth 100000 in
theorem ctX4_keepForUndo (l : Launch) (E : VE) (a : Nat → Nat)  (p : St)  {Post : St → Prop} (hw : wpX4_keepForUndo p Post) (sz : Nat) : Met l yX4_keepForUndo (mW yX4_keepForUndo cX4_keepForUndo 1 none) rmX4_keepForUndo (CPre E [.ref (a 0)] sz (fl [bPad E a p])) (CQv E Post (fun u => (fl [bPad E a u])) (fl [bPad E a p]) sz) 0 0 (va_A (fl [bPad E a p]) sz) := by
  refine v_met (by decide) (Nat.le_of_ble_eq_true rfl) ?_
  intro pr e s m below meth c A hsz hA C
  subst hsz
  refine v_aload_n (pc := 0) C 0 rfl rfl dX4_keepForUndo_0 ?_
  refine v_get (pc := 1) C cfX4 rfl 0 2 rfl (by decide) wfX4_18 rfl dX4_keepForUndo_1 ?_
  refine v_bipush (pc := 4) C 8 kb_8 dX4_keepForUndo_4 ?_
  refine v_icmp_lt (pc := 6) C 32 (by decide) dX4_keepForUndo_6 (fun hc => ?_) (fun hc => ?_)
  · have hw := hw.1 hc
    refine v_sub (lv' := [(0, .ref (a 0))]) [0] rfl ?_
    exact vjX4_keepForUndo_32 C hA a  p hw
  · have hw := hw.2 hc
    refine v_aload_n (pc := 9) C 0 rfl rfl dX4_keepForUndo_9 ?_
    refine v_get (pc := 10) C cfX4 rfl 0 1 rfl (by decide) wfX4_15 rfl dX4_keepForUndo_10 ?_
    refine v_bipush (pc := 13) C 86 kb_86 dX4_keepForUndo_13 ?_
    refine v_aload_n (pc := 15) C 0 rfl rfl dX4_keepForUndo_15 ?_
    refine v_get (pc := 16) C cfX4 rfl 0 1 rfl (by decide) wfX4_15 rfl dX4_keepForUndo_16 ?_
    refine v_iconst (pc := 19) C 0 ki_0 dX4_keepForUndo_19 ?_
    refine v_sipush (pc := 20) C 602 ks_602 dX4_keepForUndo_20 ?_
    obtain ⟨p3, es⟩ : ∃ y : St, y = p.sA 1 (va_cpy (p.A 1) (p.A 1) 86 0 602) := ⟨_, rfl⟩
    have hw := hw p3 es
    refine v_copy (pc := 23) C 2 2 (w' := (fl [bPad E a p3])) rfl rfl (by subst es; rfl) (by decide) (by decide) (by decide) tn_86 tn_0 tn_602 (by decide) (by decide) wmX4_49 wnat wsta wsys (by decide) (Nat.le_of_ble_eq_true rfl) dX4_keepForUndo_23 ?_
    refine v_aload_n (pc := 26) C 0 rfl rfl dX4_keepForUndo_26 ?_
    refine v_bipush (pc := 27) C 7 kb_7 dX4_keepForUndo_27 ?_
    obtain ⟨p4, es⟩ : ∃ y : St, y = p3.sI 2 7 := ⟨_, rfl⟩
    have hw := hw p4 es
    refine v_put (pc := 29) C cfX4 rfl 0 2 (ty := .int) (w' := (fl [bPad E a p4])) rfl (by subst es; rfl) (by decide) wfX4_18 rfl rfl rfl rfl (Nat.le_of_ble_eq_true rfl) dX4_keepForUndo_29 ?_
    refine v_sub (lv' := [(0, .ref (a 0))]) [0] rfl ?_
    exact vjX4_keepForUndo_32 C hA a  p4 hw
set_option maxHeartbeats 4000000 in
set_option maxRecDepth 100000 in
theorem ctX4_goBack (l : Launch) (E : VE) (a : Nat → Nat)  (p : St)  {Post : St → Prop} (hw : wpX4_goBack p Post) (sz : Nat) : Met l yX4_goBack (mW yX4_goBack cX4_goBack 1 none) rmX4_goBack (CPre E [.ref (a 0)] sz (fl [bPad E a p])) (CQv E Post (fun u => (fl [bPad E a u])) (fl [bPad E a p]) sz) 0 0 (va_A (fl [bPad E a p]) sz) := by
  refine v_met (by decide) (Nat.le_of_ble_eq_true rfl) ?_
  intro pr e s m below meth c A hsz hA C
  subst hsz
  refine v_aload_n (pc := 0) C 0 rfl rfl dX4_goBack_0 ?_
  refine v_get (pc := 1) C cfX4 rfl 0 2 rfl (by decide) wfX4_18 rfl dX4_goBack_1 ?_
  refine v_if_le (pc := 4) C 38 (by decide) dX4_goBack_4 (fun hc => ?_) (fun hc => ?_)
  · have hw := hw.1 hc
    exact v_vret (pc := 38) C p hA rfl hw dX4_goBack_38
  · have hw := hw.2 hc
    refine v_aload_n (pc := 7) C 0 rfl rfl dX4_goBack_7 ?_
    refine v_dup (pc := 8) C rfl dX4_goBack_8 ?_
    refine v_get (pc := 9) C cfX4 rfl 0 2 rfl (by decide) wfX4_18 rfl dX4_goBack_9 ?_
    refine v_iconst (pc := 12) C 1 ki_1 dX4_goBack_12 ?_
    refine v_isub (pc := 13) C dX4_goBack_13 ?_
    obtain ⟨p1, es⟩ : ∃ y : St, y = p.sI 2 ((p.I 2) - 1) := ⟨_, rfl⟩
    have hw := hw p1 es
    refine v_put (pc := 14) C cfX4 rfl 0 2 (ty := .int) (w' := (fl [bPad E a p1])) rfl (by subst es; rfl) (by decide) wfX4_18 rfl rfl rfl rfl (Nat.le_of_ble_eq_true rfl) dX4_goBack_14 ?_
    refine v_aload_n (pc := 17) C 0 rfl rfl dX4_goBack_17 ?_
    refine v_get (pc := 18) C cfX4 rfl 0 1 rfl (by decide) wfX4_15 rfl dX4_goBack_18 ?_
    refine v_aload_n (pc := 21) C 0 rfl rfl dX4_goBack_21 ?_
    refine v_get (pc := 22) C cfX4 rfl 0 2 rfl (by decide) wfX4_18 rfl dX4_goBack_22 ?_
    refine v_bipush (pc := 25) C 86 kb_86 dX4_goBack_25 ?_
    refine v_imul (pc := 27) C dX4_goBack_27 ?_
    refine v_aload_n (pc := 28) C 0 rfl rfl dX4_goBack_28 ?_
    refine v_get (pc := 29) C cfX4 rfl 0 0 rfl (by decide) wfX4_11 rfl dX4_goBack_29 ?_
    refine v_iconst (pc := 32) C 0 ki_0 dX4_goBack_32 ?_
    refine v_bipush (pc := 33) C 86 kb_86 dX4_goBack_33 ?_
    obtain ⟨hg1, hg2, hw⟩ := hw
    obtain ⟨p2, es⟩ : ∃ y : St, y = p1.sA 0 (va_cpy (p1.A 1) (p1.A 0) ((p1.I 2) * 86).toNatClampNeg 0 86) := ⟨_, rfl⟩
    have hw := hw p2 es
    refine v_copy (pc := 35) C 2 1 (w' := (fl [bPad E a p2])) rfl rfl (by subst es; rfl) hg1 (by decide) (by decide) rfl tn_0 tn_86 hg2 (by decide) wmX4_49 wnat wsta wsys (by decide) (Nat.le_of_ble_eq_true rfl) dX4_goBack_35 ?_
    exact v_vret (pc := 38) C p2 hA rfl hw dX4_goBack_38
set_option maxHeartbeats 4000000 in
set_option maxRecDepth 100000 in
theorem ctX4_top (l : Launch) (E : VE) (a : Nat → Nat)  (p : St)  {Post : Int32 → Prop} (hw : wpX4_top p Post) (sz : Nat) : Met l yX4_top (mW yX4_top cX4_top 1 (some .int)) rmX4_top (CPre E [.ref (a 0)] sz (fl [bPad E a p])) (CQi E (fun (z : Int32) (_ : Unit) => Post z) (fun _ => (fl [bPad E a p])) (fl [bPad E a p]) sz) 0 0 (va_A (fl [bPad E a p]) sz) := by
  refine v_met (by decide) (Nat.le_of_ble_eq_true rfl) ?_
  intro pr e s m below meth c A hsz hA C
  subst hsz
  refine v_aload_n (pc := 0) C 0 rfl rfl dX4_top_0 ?_
  refine v_get (pc := 1) C cfX4 rfl 0 0 rfl (by decide) wfX4_11 rfl dX4_top_1 ?_
  refine v_iconst (pc := 4) C 0 ki_0 dX4_top_4 ?_
  refine v_iald (pc := 5) C 1 rfl vi_0_86 tn_0 dX4_top_5 ?_
  exact v_ireti (pc := 6) C () hA rfl hw dX4_top_6
set_option maxHeartbeats 4000000 in
set_option maxRecDepth 100000 in
theorem ctX4_isUsedUp (l : Launch) (E : VE) (a : Nat → Nat)  (p : St)  {Post : Int32 → Prop} (hw : wpX4_isUsedUp p Post) (sz : Nat) : Met l yX4_isUsedUp (mW yX4_isUsedUp cX4_isUsedUp 1 (some .boolean)) rmX4_isUsedUp (CPre E [.ref (a 0)] sz (fl [bPad E a p])) (CQi E (fun (z : Int32) (_ : Unit) => Post z) (fun _ => (fl [bPad E a p])) (fl [bPad E a p]) sz) 0 0 (va_A (fl [bPad E a p]) sz) := by
  refine v_met (by decide) (Nat.le_of_ble_eq_true rfl) ?_
  intro pr e s m below meth c A hsz hA C
  subst hsz
  refine v_aload_n (pc := 0) C 0 rfl rfl dX4_isUsedUp_0 ?_
  refine v_get (pc := 1) C cfX4 rfl 0 0 rfl (by decide) wfX4_11 rfl dX4_isUsedUp_1 ?_
  refine v_iconst (pc := 4) C 0 ki_0 dX4_isUsedUp_4 ?_
  refine v_iald (pc := 5) C 1 rfl vi_0_86 tn_0 dX4_isUsedUp_5 ?_
  refine v_aload_n (pc := 6) C 0 rfl rfl dX4_isUsedUp_6 ?_
  refine v_get (pc := 7) C cfX4 rfl 0 3 rfl (by decide) wfX4_22 rfl dX4_isUsedUp_7 ?_
  refine v_icmp_lt (pc := 10) C 17 (by decide) dX4_isUsedUp_10 (fun hc => ?_) (fun hc => ?_)
  · have hw := hw.1 hc
    refine v_iconst (pc := 17) C 0 ki_0 dX4_isUsedUp_17 ?_
    exact v_iretz (pc := 18) C rfl () hA rfl hw dX4_isUsedUp_18
  · have hw := hw.2 hc
    refine v_iconst (pc := 13) C 1 ki_1 dX4_isUsedUp_13 ?_
    refine v_goto (pc := 14) C 18 (by decide) dX4_isUsedUp_14 ?_
    exact v_iretz (pc := 18) C rfl () hA rfl hw dX4_isUsedUp_18
set_option maxHeartbeats 4000000 in
set_option maxRecDepth 100000 in
theorem ctX4_hasSheet (l : Launch) (E : VE) (a : Nat → Nat) (x1 : Int32) (p : St)  {Post : Int32 → Prop} (hw : wpX4_hasSheet x1 p Post) (sz : Nat) : Met l yX4_hasSheet (mW yX4_hasSheet cX4_hasSheet 2 (some .boolean)) rmX4_hasSheet (CPre E [.ref (a 0), .int x1] sz (fl [bPad E a p])) (CQi E (fun (z : Int32) (_ : Unit) => Post z) (fun _ => (fl [bPad E a p])) (fl [bPad E a p]) sz) 0 0 (va_A (fl [bPad E a p]) sz) := by
  refine v_met (by decide) (Nat.le_of_ble_eq_true rfl) ?_
  intro pr e s m below meth c A hsz hA C
  subst hsz
  refine v_iload_n (pc := 0) C 1 rfl rfl dX4_hasSheet_0 ?_
  refine v_if_lt (pc := 1) C 16 (by decide) dX4_hasSheet_1 (fun hc => ?_) (fun hc => ?_)
  · have hw := hw.1 hc
    refine v_iconst (pc := 16) C 0 ki_0 dX4_hasSheet_16 ?_
    exact v_iretz (pc := 17) C rfl () hA rfl hw dX4_hasSheet_17
  · have hw := hw.2 hc
    refine v_iload_n (pc := 4) C 1 rfl rfl dX4_hasSheet_4 ?_
    refine v_aload_n (pc := 5) C 0 rfl rfl dX4_hasSheet_5 ?_
    refine v_get (pc := 6) C cfX4 rfl 0 3 rfl (by decide) wfX4_22 rfl dX4_hasSheet_6 ?_
    refine v_icmp_ge (pc := 9) C 16 (by decide) dX4_hasSheet_9 (fun hc => ?_) (fun hc => ?_)
    · have hw := hw.1 hc
      refine v_iconst (pc := 16) C 0 ki_0 dX4_hasSheet_16 ?_
      exact v_iretz (pc := 17) C rfl () hA rfl hw dX4_hasSheet_17
    · have hw := hw.2 hc
      refine v_iconst (pc := 12) C 1 ki_1 dX4_hasSheet_12 ?_
      refine v_goto (pc := 13) C 17 (by decide) dX4_hasSheet_13 ?_
      exact v_iretz (pc := 17) C rfl () hA rfl hw dX4_hasSheet_17
set_option maxHeartbeats 4000000 in
set_option maxRecDepth 100000 in
theorem ctX4_hasSheets (l : Launch) (E : VE) (a : Nat → Nat) (x1 : Int32) (p : St)  {Post : Int32 → Prop} (hw : wpX4_hasSheets x1 p Post) (sz : Nat) : Met l yX4_hasSheets (mW yX4_hasSheets cX4_hasSheets 2 (some .boolean)) rmX4_hasSheets (CPre E [.ref (a 0), .int x1] sz (fl [bPad E a p])) (CQi E (fun (z : Int32) (_ : Unit) => Post z) (fun _ => (fl [bPad E a p])) (fl [bPad E a p]) sz) 0 0 (va_A (fl [bPad E a p]) sz) := by
  refine v_met (by decide) (Nat.le_of_ble_eq_true rfl) ?_
  intro pr e s m below meth c A hsz hA C
  subst hsz
  refine v_iload_n (pc := 0) C 1 rfl rfl dX4_hasSheets_0 ?_
  refine v_if_lt (pc := 1) C 18 (by decide) dX4_hasSheets_1 (fun hc => ?_) (fun hc => ?_)
  · have hw := hw.1 hc
    refine v_iconst (pc := 18) C 0 ki_0 dX4_hasSheets_18 ?_
    exact v_iretz (pc := 19) C rfl () hA rfl hw dX4_hasSheets_19
  · have hw := hw.2 hc
    refine v_iload_n (pc := 4) C 1 rfl rfl dX4_hasSheets_4 ?_
    refine v_iconst (pc := 5) C 1 ki_1 dX4_hasSheets_5 ?_
    refine v_aload_n (pc := 6) C 0 rfl rfl dX4_hasSheets_6 ?_
    refine v_get (pc := 7) C cfX4 rfl 0 3 rfl (by decide) wfX4_22 rfl dX4_hasSheets_7 ?_
    refine v_ishl (pc := 10) C dX4_hasSheets_10 ?_
    refine v_icmp_ge (pc := 11) C 18 (by decide) dX4_hasSheets_11 (fun hc => ?_) (fun hc => ?_)
    · have hw := hw.1 hc
      refine v_iconst (pc := 18) C 0 ki_0 dX4_hasSheets_18 ?_
      exact v_iretz (pc := 19) C rfl () hA rfl hw dX4_hasSheets_19
    · have hw := hw.2 hc
      refine v_iconst (pc := 14) C 1 ki_1 dX4_hasSheets_14 ?_
      refine v_goto (pc := 15) C 19 (by decide) dX4_hasSheets_15 ?_
      exact v_iretz (pc := 19) C rfl () hA rfl hw dX4_hasSheets_19
set_option maxHeartbeats 4000000 in
set_option maxRecDepth 100000 in
theorem ctX4_hasNote (l : Launch) (E : VE) (a : Nat → Nat) (x1 : Int32) (p : St)  {Post : Int32 → Prop} (hw : wpX4_hasNote x1 p Post) (sz : Nat) : Met l yX4_hasNote (mW yX4_hasNote cX4_hasNote 2 (some .boolean)) rmX4_hasNote (CPre E [.ref (a 0), .int x1] sz (fl [bPad E a p])) (CQi E (fun (z : Int32) (_ : Unit) => Post z) (fun _ => (fl [bPad E a p])) (fl [bPad E a p]) sz) 0 0 (va_A (fl [bPad E a p]) sz) := by
  refine v_met (by decide) (Nat.le_of_ble_eq_true rfl) ?_
  intro pr e s m below meth c A hsz hA C
  subst hsz
  refine v_iload_n (pc := 0) C 1 rfl rfl dX4_hasNote_0 ?_
  refine v_if_lt (pc := 1) C 18 (by decide) dX4_hasNote_1 (fun hc => ?_) (fun hc => ?_)
  · have hw := hw.1 hc
    refine v_iconst (pc := 18) C 0 ki_0 dX4_hasNote_18 ?_
    exact v_iretz (pc := 19) C rfl () hA rfl hw dX4_hasNote_19
  · have hw := hw.2 hc
    refine v_iload_n (pc := 4) C 1 rfl rfl dX4_hasNote_4 ?_
    refine v_aload_n (pc := 5) C 0 rfl rfl dX4_hasNote_5 ?_
    refine v_get (pc := 6) C cfX4 rfl 0 0 rfl (by decide) wfX4_11 rfl dX4_hasNote_6 ?_
    refine v_iconst (pc := 9) C 1 ki_1 dX4_hasNote_9 ?_
    refine v_iald (pc := 10) C 1 rfl vi_1_86 tn_1 dX4_hasNote_10 ?_
    refine v_icmp_ge (pc := 11) C 18 (by decide) dX4_hasNote_11 (fun hc => ?_) (fun hc => ?_)
    · have hw := hw.1 hc
      refine v_iconst (pc := 18) C 0 ki_0 dX4_hasNote_18 ?_
      exact v_iretz (pc := 19) C rfl () hA rfl hw dX4_hasNote_19
    · have hw := hw.2 hc
      refine v_iconst (pc := 14) C 1 ki_1 dX4_hasNote_14 ?_
      refine v_goto (pc := 15) C 19 (by decide) dX4_hasNote_15 ?_
      exact v_iretz (pc := 19) C rfl () hA rfl hw dX4_hasNote_19
set_option maxHeartbeats 4000000 in
set_option maxRecDepth 100000 in
theorem ctX4_hasNotes (l : Launch) (E : VE) (a : Nat → Nat) (x1 : Int32) (p : St)  {Post : Int32 → Prop} (hw : wpX4_hasNotes x1 p Post) (sz : Nat) : Met l yX4_hasNotes (mW yX4_hasNotes cX4_hasNotes 2 (some .boolean)) rmX4_hasNotes (CPre E [.ref (a 0), .int x1] sz (fl [bPad E a p])) (CQi E (fun (z : Int32) (_ : Unit) => Post z) (fun _ => (fl [bPad E a p])) (fl [bPad E a p]) sz) 0 0 (va_A (fl [bPad E a p]) sz) := by
  refine v_met (by decide) (Nat.le_of_ble_eq_true rfl) ?_
  intro pr e s m below meth c A hsz hA C
  subst hsz
  refine v_iload_n (pc := 0) C 1 rfl rfl dX4_hasNotes_0 ?_
  refine v_if_lt (pc := 1) C 20 (by decide) dX4_hasNotes_1 (fun hc => ?_) (fun hc => ?_)
  · have hw := hw.1 hc
    refine v_iconst (pc := 20) C 0 ki_0 dX4_hasNotes_20 ?_
    exact v_iretz (pc := 21) C rfl () hA rfl hw dX4_hasNotes_21
  · have hw := hw.2 hc
    refine v_iload_n (pc := 4) C 1 rfl rfl dX4_hasNotes_4 ?_
    refine v_iconst (pc := 5) C 1 ki_1 dX4_hasNotes_5 ?_
    refine v_aload_n (pc := 6) C 0 rfl rfl dX4_hasNotes_6 ?_
    refine v_get (pc := 7) C cfX4 rfl 0 0 rfl (by decide) wfX4_11 rfl dX4_hasNotes_7 ?_
    refine v_iconst (pc := 10) C 1 ki_1 dX4_hasNotes_10 ?_
    refine v_iald (pc := 11) C 1 rfl vi_1_86 tn_1 dX4_hasNotes_11 ?_
    refine v_ishl (pc := 12) C dX4_hasNotes_12 ?_
    refine v_icmp_ge (pc := 13) C 20 (by decide) dX4_hasNotes_13 (fun hc => ?_) (fun hc => ?_)
    · have hw := hw.1 hc
      refine v_iconst (pc := 20) C 0 ki_0 dX4_hasNotes_20 ?_
      exact v_iretz (pc := 21) C rfl () hA rfl hw dX4_hasNotes_21
    · have hw := hw.2 hc
      refine v_iconst (pc := 16) C 1 ki_1 dX4_hasNotes_16 ?_
      refine v_goto (pc := 17) C 21 (by decide) dX4_hasNotes_17 ?_
      exact v_iretz (pc := 21) C rfl () hA rfl hw dX4_hasNotes_21
set_option maxHeartbeats 4000000 in
set_option maxRecDepth 100000 in
theorem ctX4_inkOf (l : Launch) (E : VE) (a : Nat → Nat) (x1 : Int32) (p : St)  {Post : Int32 → Prop} (hw : wpX4_inkOf x1 p Post) (sz : Nat) : Met l yX4_inkOf (mW yX4_inkOf cX4_inkOf 2 (some .int)) rmX4_inkOf (CPre E [.ref (a 0), .int x1] sz (fl [bPad E a p])) (CQi E (fun (z : Int32) (_ : Unit) => Post z) (fun _ => (fl [bPad E a p])) (fl [bPad E a p]) sz) 0 0 (va_A (fl [bPad E a p]) sz) := by
  refine v_met (by decide) (Nat.le_of_ble_eq_true rfl) ?_
  intro pr e s m below meth c A hsz hA C
  subst hsz
  refine v_aload_n (pc := 0) C 0 rfl rfl dX4_inkOf_0 ?_
  refine v_get (pc := 1) C cfX4 rfl 0 0 rfl (by decide) wfX4_11 rfl dX4_inkOf_1 ?_
  refine v_iload_n (pc := 4) C 1 rfl rfl dX4_inkOf_4 ?_
  refine v_iconst (pc := 5) C 0 ki_0 dX4_inkOf_5 ?_
  refine v_goBi (pc := 6) C (bs := [bPad E a p]) (cs := []) (cs' := (fun (_ : Unit) => [])) (bs' := (fun (_ : Unit) => [bPad E a p])) (w' := (fun (_ : Unit) => (fl [bPad E a p]))) [] rfl rfl (fun _ => rfl) (fun _ => rfl) (fun _ => rfl) (v_runSB (pc := 6) C [.int x1, .int 0] [.ref (a 1)] (fun sz => ctX4_placeOf l E x1 0 hw sz) [] rfl rfl rfl mfX4_placeOf msX4_placeOf wmX4_55 rfl ⟨Nat.le_of_ble_eq_true rfl, Nat.le_of_ble_eq_true rfl⟩ ⟨rfl, rfl⟩ rfl (Nat.le_of_ble_eq_true rfl) ⟨Nat.zero_le _, Nat.zero_le _⟩ dX4_inkOf_6) (fun r1 _ hw => ?_)
  obtain ⟨hg, hw⟩ := hw
  refine v_iald (pc := 9) C 1 rfl hg rfl dX4_inkOf_9 ?_
  exact v_ireti (pc := 10) C () hA rfl hw dX4_inkOf_10
set_option maxHeartbeats 4000000 in
set_option maxRecDepth 100000 in
theorem ctX4_copyOf (l : Launch) (E : VE) (a : Nat → Nat) (x1 : Int32) (p : St)  {Post : Int32 → Prop} (hw : wpX4_copyOf x1 p Post) (sz : Nat) : Met l yX4_copyOf (mW yX4_copyOf cX4_copyOf 2 (some .int)) rmX4_copyOf (CPre E [.ref (a 0), .int x1] sz (fl [bPad E a p])) (CQi E (fun (z : Int32) (_ : Unit) => Post z) (fun _ => (fl [bPad E a p])) (fl [bPad E a p]) sz) 0 0 (va_A (fl [bPad E a p]) sz) := by
  refine v_met (by decide) (Nat.le_of_ble_eq_true rfl) ?_
  intro pr e s m below meth c A hsz hA C
  subst hsz
  refine v_aload_n (pc := 0) C 0 rfl rfl dX4_copyOf_0 ?_
  refine v_get (pc := 1) C cfX4 rfl 0 0 rfl (by decide) wfX4_11 rfl dX4_copyOf_1 ?_
  refine v_iload_n (pc := 4) C 1 rfl rfl dX4_copyOf_4 ?_
  refine v_iconst (pc := 5) C 1 ki_1 dX4_copyOf_5 ?_
  refine v_goBi (pc := 6) C (bs := [bPad E a p]) (cs := []) (cs' := (fun (_ : Unit) => [])) (bs' := (fun (_ : Unit) => [bPad E a p])) (w' := (fun (_ : Unit) => (fl [bPad E a p]))) [] rfl rfl (fun _ => rfl) (fun _ => rfl) (fun _ => rfl) (v_runSB (pc := 6) C [.int x1, .int 1] [.ref (a 1)] (fun sz => ctX4_placeOf l E x1 1 hw sz) [] rfl rfl rfl mfX4_placeOf msX4_placeOf wmX4_55 rfl ⟨Nat.le_of_ble_eq_true rfl, Nat.le_of_ble_eq_true rfl⟩ ⟨rfl, rfl⟩ rfl (Nat.le_of_ble_eq_true rfl) ⟨Nat.zero_le _, Nat.zero_le _⟩ dX4_copyOf_6) (fun r1 _ hw => ?_)
  obtain ⟨hg, hw⟩ := hw
  refine v_iald (pc := 9) C 1 rfl hg rfl dX4_copyOf_9 ?_
  exact v_ireti (pc := 10) C () hA rfl hw dX4_copyOf_10
end

theorem dX6_init_0 : decode cX6_init 0 = .ok (.aload_n 0, 1) := by decide +kernel
theorem dX6_init_1 : decode cX6_init 1 = .ok (.invokespecial 3, 3) := by decide +kernel
theorem dX6_init_4 : decode cX6_init 4 = .ok (.return_, 1) := by decide +kernel
theorem dX0_init_0 : decode cX0_init 0 = .ok (.aload_n 0, 1) := by decide +kernel
theorem dX0_init_1 : decode cX0_init 1 = .ok (.invokespecial 1, 3) := by decide +kernel
theorem dX0_init_4 : decode cX0_init 4 = .ok (.return_, 1) := by decide +kernel
theorem dX3_init_0 : decode cX3_init 0 = .ok (.aload_n 0, 1) := by decide +kernel
theorem dX3_init_1 : decode cX3_init 1 = .ok (.invokespecial 1, 3) := by decide +kernel
theorem dX3_init_4 : decode cX3_init 4 = .ok (.return_, 1) := by decide +kernel
theorem dX9_init_0 : decode cX9_init 0 = .ok (.aload_n 0, 1) := by decide +kernel
theorem dX9_init_1 : decode cX9_init 1 = .ok (.invokespecial 1, 3) := by decide +kernel
theorem dX9_init_4 : decode cX9_init 4 = .ok (.return_, 1) := by decide +kernel
theorem dX1_init_0 : decode cX1_init 0 = .ok (.aload_n 0, 1) := by decide +kernel
theorem dX1_init_1 : decode cX1_init 1 = .ok (.invokespecial 1, 3) := by decide +kernel
theorem dX1_init_4 : decode cX1_init 4 = .ok (.return_, 1) := by decide +kernel
theorem dX10_init_0 : decode cX10_init 0 = .ok (.aload_n 0, 1) := by decide +kernel
theorem dX10_init_1 : decode cX10_init 1 = .ok (.invokespecial 1, 3) := by decide +kernel
theorem dX10_init_4 : decode cX10_init 4 = .ok (.return_, 1) := by decide +kernel
theorem dX5_init_0 : decode cX5_init 0 = .ok (.aload_n 0, 1) := by decide +kernel
theorem dX5_init_1 : decode cX5_init 1 = .ok (.invokespecial 1, 3) := by decide +kernel
theorem dX5_init_4 : decode cX5_init 4 = .ok (.aload_n 0, 1) := by decide +kernel
theorem dX5_init_5 : decode cX5_init 5 = .ok (.bipush 6, 2) := by decide +kernel
theorem dX5_init_7 : decode cX5_init 7 = .ok (.anewarray 7, 3) := by decide +kernel
theorem dX5_init_10 : decode cX5_init 10 = .ok (.dup, 1) := by decide +kernel
theorem dX5_init_11 : decode cX5_init 11 = .ok (.iconst 0, 1) := by decide +kernel
theorem dX5_init_12 : decode cX5_init 12 = .ok (.new 7, 3) := by decide +kernel
theorem dX5_init_15 : decode cX5_init 15 = .ok (.dup, 1) := by decide +kernel
theorem dX5_init_16 : decode cX5_init 16 = .ok (.invokespecial 9, 3) := by decide +kernel
theorem dX5_init_19 : decode cX5_init 19 = .ok (.aastore, 1) := by decide +kernel
theorem dX5_init_20 : decode cX5_init 20 = .ok (.dup, 1) := by decide +kernel
theorem dX5_init_21 : decode cX5_init 21 = .ok (.iconst 1, 1) := by decide +kernel
theorem dX5_init_22 : decode cX5_init 22 = .ok (.new 10, 3) := by decide +kernel
theorem dX5_init_25 : decode cX5_init 25 = .ok (.dup, 1) := by decide +kernel
theorem dX5_init_26 : decode cX5_init 26 = .ok (.invokespecial 12, 3) := by decide +kernel
theorem dX5_init_29 : decode cX5_init 29 = .ok (.aastore, 1) := by decide +kernel
theorem dX5_init_30 : decode cX5_init 30 = .ok (.dup, 1) := by decide +kernel
theorem dX5_init_31 : decode cX5_init 31 = .ok (.iconst 2, 1) := by decide +kernel
theorem dX5_init_32 : decode cX5_init 32 = .ok (.new 13, 3) := by decide +kernel
theorem dX5_init_35 : decode cX5_init 35 = .ok (.dup, 1) := by decide +kernel
theorem dX5_init_36 : decode cX5_init 36 = .ok (.invokespecial 15, 3) := by decide +kernel
theorem dX5_init_39 : decode cX5_init 39 = .ok (.aastore, 1) := by decide +kernel
theorem dX5_init_40 : decode cX5_init 40 = .ok (.dup, 1) := by decide +kernel
theorem dX5_init_41 : decode cX5_init 41 = .ok (.iconst 3, 1) := by decide +kernel
theorem dX5_init_42 : decode cX5_init 42 = .ok (.new 16, 3) := by decide +kernel
theorem dX5_init_45 : decode cX5_init 45 = .ok (.dup, 1) := by decide +kernel
theorem dX5_init_46 : decode cX5_init 46 = .ok (.invokespecial 18, 3) := by decide +kernel
theorem dX5_init_49 : decode cX5_init 49 = .ok (.aastore, 1) := by decide +kernel
theorem dX5_init_50 : decode cX5_init 50 = .ok (.dup, 1) := by decide +kernel
theorem dX5_init_51 : decode cX5_init 51 = .ok (.iconst 4, 1) := by decide +kernel
theorem dX5_init_52 : decode cX5_init 52 = .ok (.new 19, 3) := by decide +kernel
theorem dX5_init_55 : decode cX5_init 55 = .ok (.dup, 1) := by decide +kernel
theorem dX5_init_56 : decode cX5_init 56 = .ok (.invokespecial 21, 3) := by decide +kernel
theorem dX5_init_59 : decode cX5_init 59 = .ok (.aastore, 1) := by decide +kernel
theorem dX5_init_60 : decode cX5_init 60 = .ok (.dup, 1) := by decide +kernel
theorem dX5_init_61 : decode cX5_init 61 = .ok (.iconst 5, 1) := by decide +kernel
theorem dX5_init_62 : decode cX5_init 62 = .ok (.new 22, 3) := by decide +kernel
theorem dX5_init_65 : decode cX5_init 65 = .ok (.dup, 1) := by decide +kernel
theorem dX5_init_66 : decode cX5_init 66 = .ok (.invokespecial 24, 3) := by decide +kernel
theorem dX5_init_69 : decode cX5_init 69 = .ok (.aastore, 1) := by decide +kernel
theorem dX5_init_70 : decode cX5_init 70 = .ok (.putfield 25, 3) := by decide +kernel
theorem dX5_init_73 : decode cX5_init 73 = .ok (.return_, 1) := by decide +kernel
theorem dX4_init_0 : decode cX4_init 0 = .ok (.aload_n 0, 1) := by decide +kernel
theorem dX4_init_1 : decode cX4_init 1 = .ok (.invokespecial 5, 3) := by decide +kernel
theorem dX4_init_4 : decode cX4_init 4 = .ok (.aload_n 0, 1) := by decide +kernel
theorem dX4_init_5 : decode cX4_init 5 = .ok (.bipush 86, 2) := by decide +kernel
theorem dX4_init_7 : decode cX4_init 7 = .ok (.newarray .int, 2) := by decide +kernel
theorem dX4_init_9 : decode cX4_init 9 = .ok (.putfield 11, 3) := by decide +kernel
theorem dX4_init_12 : decode cX4_init 12 = .ok (.aload_n 0, 1) := by decide +kernel
theorem dX4_init_13 : decode cX4_init 13 = .ok (.sipush 688, 3) := by decide +kernel
theorem dX4_init_16 : decode cX4_init 16 = .ok (.newarray .int, 2) := by decide +kernel
theorem dX4_init_18 : decode cX4_init 18 = .ok (.putfield 15, 3) := by decide +kernel
theorem dX4_init_21 : decode cX4_init 21 = .ok (.aload_n 0, 1) := by decide +kernel
theorem dX4_init_22 : decode cX4_init 22 = .ok (.iconst 0, 1) := by decide +kernel
theorem dX4_init_23 : decode cX4_init 23 = .ok (.putfield 18, 3) := by decide +kernel
theorem dX4_init_26 : decode cX4_init 26 = .ok (.aload_n 0, 1) := by decide +kernel
theorem dX4_init_27 : decode cX4_init 27 = .ok (.iconst 4, 1) := by decide +kernel
theorem dX4_init_28 : decode cX4_init 28 = .ok (.putfield 22, 3) := by decide +kernel
theorem dX4_init_31 : decode cX4_init 31 = .ok (.aload_n 0, 1) := by decide +kernel
theorem dX4_init_32 : decode cX4_init 32 = .ok (.iconst 0, 1) := by decide +kernel
theorem dX4_init_33 : decode cX4_init 33 = .ok (.putfield 25, 3) := by decide +kernel
theorem dX4_init_36 : decode cX4_init 36 = .ok (.aload_n 0, 1) := by decide +kernel
theorem dX4_init_37 : decode cX4_init 37 = .ok (.bipush 10, 2) := by decide +kernel
theorem dX4_init_39 : decode cX4_init 39 = .ok (.newarray .int, 2) := by decide +kernel
theorem dX4_init_41 : decode cX4_init 41 = .ok (.putfield 28, 3) := by decide +kernel
theorem dX4_init_44 : decode cX4_init 44 = .ok (.aload_n 0, 1) := by decide +kernel
theorem dX4_init_45 : decode cX4_init 45 = .ok (.bipush 10, 2) := by decide +kernel
theorem dX4_init_47 : decode cX4_init 47 = .ok (.newarray .int, 2) := by decide +kernel
theorem dX4_init_49 : decode cX4_init 49 = .ok (.putfield 31, 3) := by decide +kernel
theorem dX4_init_52 : decode cX4_init 52 = .ok (.aload_n 0, 1) := by decide +kernel
theorem dX4_init_53 : decode cX4_init 53 = .ok (.bipush 10, 2) := by decide +kernel
theorem dX4_init_55 : decode cX4_init 55 = .ok (.newarray .int, 2) := by decide +kernel
theorem dX4_init_57 : decode cX4_init 57 = .ok (.putfield 34, 3) := by decide +kernel
theorem dX4_init_60 : decode cX4_init 60 = .ok (.aload_n 0, 1) := by decide +kernel
theorem dX4_init_61 : decode cX4_init 61 = .ok (.bipush 10, 2) := by decide +kernel
theorem dX4_init_63 : decode cX4_init 63 = .ok (.newarray .int, 2) := by decide +kernel
theorem dX4_init_65 : decode cX4_init 65 = .ok (.putfield 37, 3) := by decide +kernel
theorem dX4_init_68 : decode cX4_init 68 = .ok (.aload_n 0, 1) := by decide +kernel
theorem dX4_init_69 : decode cX4_init 69 = .ok (.bipush 60, 2) := by decide +kernel
theorem dX4_init_71 : decode cX4_init 71 = .ok (.newarray .int, 2) := by decide +kernel
theorem dX4_init_73 : decode cX4_init 73 = .ok (.putfield 40, 3) := by decide +kernel
theorem dX4_init_76 : decode cX4_init 76 = .ok (.aload_n 0, 1) := by decide +kernel
theorem dX4_init_77 : decode cX4_init 77 = .ok (.bipush 8, 2) := by decide +kernel
theorem dX4_init_79 : decode cX4_init 79 = .ok (.newarray .int, 2) := by decide +kernel
theorem dX4_init_81 : decode cX4_init 81 = .ok (.putfield 43, 3) := by decide +kernel
theorem dX4_init_84 : decode cX4_init 84 = .ok (.aload_n 0, 1) := by decide +kernel
theorem dX4_init_85 : decode cX4_init 85 = .ok (.iconst 0, 1) := by decide +kernel
theorem dX4_init_86 : decode cX4_init 86 = .ok (.putfield 46, 3) := by decide +kernel
theorem dX4_init_89 : decode cX4_init 89 = .ok (.return_, 1) := by decide +kernel
theorem dX2_init_0 : decode cX2_init 0 = .ok (.aload_n 0, 1) := by decide +kernel
theorem dX2_init_1 : decode cX2_init 1 = .ok (.invokespecial 3, 3) := by decide +kernel
theorem dX2_init_4 : decode cX2_init 4 = .ok (.aload_n 0, 1) := by decide +kernel
theorem dX2_init_5 : decode cX2_init 5 = .ok (.bipush 12, 2) := by decide +kernel
theorem dX2_init_7 : decode cX2_init 7 = .ok (.newarray .int, 2) := by decide +kernel
theorem dX2_init_9 : decode cX2_init 9 = .ok (.putfield 9, 3) := by decide +kernel
theorem dX2_init_12 : decode cX2_init 12 = .ok (.aload_n 0, 1) := by decide +kernel
theorem dX2_init_13 : decode cX2_init 13 = .ok (.bipush 12, 2) := by decide +kernel
theorem dX2_init_15 : decode cX2_init 15 = .ok (.newarray .int, 2) := by decide +kernel
theorem dX2_init_17 : decode cX2_init 17 = .ok (.putfield 15, 3) := by decide +kernel
theorem dX2_init_20 : decode cX2_init 20 = .ok (.aload_n 0, 1) := by decide +kernel
theorem dX2_init_21 : decode cX2_init 21 = .ok (.iconst 0, 1) := by decide +kernel
theorem dX2_init_22 : decode cX2_init 22 = .ok (.putfield 18, 3) := by decide +kernel
theorem dX2_init_25 : decode cX2_init 25 = .ok (.aload_n 0, 1) := by decide +kernel
theorem dX2_init_26 : decode cX2_init 26 = .ok (.iconst 0, 1) := by decide +kernel
theorem dX2_init_27 : decode cX2_init 27 = .ok (.putfield 22, 3) := by decide +kernel
theorem dX2_init_30 : decode cX2_init 30 = .ok (.return_, 1) := by decide +kernel
theorem dX8_init_0 : decode cX8_init 0 = .ok (.aload_n 0, 1) := by decide +kernel
theorem dX8_init_1 : decode cX8_init 1 = .ok (.invokespecial 3, 3) := by decide +kernel
theorem dX8_init_4 : decode cX8_init 4 = .ok (.aload_n 0, 1) := by decide +kernel
theorem dX8_init_5 : decode cX8_init 5 = .ok (.bipush 6, 2) := by decide +kernel
theorem dX8_init_7 : decode cX8_init 7 = .ok (.newarray .int, 2) := by decide +kernel
theorem dX8_init_9 : decode cX8_init 9 = .ok (.putfield 9, 3) := by decide +kernel
theorem dX8_init_12 : decode cX8_init 12 = .ok (.aload_n 0, 1) := by decide +kernel
theorem dX8_init_13 : decode cX8_init 13 = .ok (.bipush 6, 2) := by decide +kernel
theorem dX8_init_15 : decode cX8_init 15 = .ok (.newarray .int, 2) := by decide +kernel
theorem dX8_init_17 : decode cX8_init 17 = .ok (.putfield 15, 3) := by decide +kernel
theorem dX8_init_20 : decode cX8_init 20 = .ok (.aload_n 0, 1) := by decide +kernel
theorem dX8_init_21 : decode cX8_init 21 = .ok (.bipush 60, 2) := by decide +kernel
theorem dX8_init_23 : decode cX8_init 23 = .ok (.newarray .int, 2) := by decide +kernel
theorem dX8_init_25 : decode cX8_init 25 = .ok (.putfield 18, 3) := by decide +kernel
theorem dX8_init_28 : decode cX8_init 28 = .ok (.aload_n 0, 1) := by decide +kernel
theorem dX8_init_29 : decode cX8_init 29 = .ok (.bipush 10, 2) := by decide +kernel
theorem dX8_init_31 : decode cX8_init 31 = .ok (.newarray .int, 2) := by decide +kernel
theorem dX8_init_33 : decode cX8_init 33 = .ok (.putfield 21, 3) := by decide +kernel
theorem dX8_init_36 : decode cX8_init 36 = .ok (.aload_n 0, 1) := by decide +kernel
theorem dX8_init_37 : decode cX8_init 37 = .ok (.iconst 0, 1) := by decide +kernel
theorem dX8_init_38 : decode cX8_init 38 = .ok (.putfield 24, 3) := by decide +kernel
theorem dX8_init_41 : decode cX8_init 41 = .ok (.return_, 1) := by decide +kernel
theorem dX7_init_0 : decode cX7_init 0 = .ok (.aload_n 0, 1) := by decide +kernel
theorem dX7_init_1 : decode cX7_init 1 = .ok (.invokespecial 3, 3) := by decide +kernel
theorem dX7_init_4 : decode cX7_init 4 = .ok (.aload_n 0, 1) := by decide +kernel
theorem dX7_init_5 : decode cX7_init 5 = .ok (.sipush 150, 3) := by decide +kernel
theorem dX7_init_8 : decode cX7_init 8 = .ok (.newarray .int, 2) := by decide +kernel
theorem dX7_init_10 : decode cX7_init 10 = .ok (.putfield 9, 3) := by decide +kernel
theorem dX7_init_13 : decode cX7_init 13 = .ok (.aload_n 0, 1) := by decide +kernel
theorem dX7_init_14 : decode cX7_init 14 = .ok (.iconst 0, 1) := by decide +kernel
theorem dX7_init_15 : decode cX7_init 15 = .ok (.putfield 15, 3) := by decide +kernel
theorem dX7_init_18 : decode cX7_init 18 = .ok (.aload_n 0, 1) := by decide +kernel
theorem dX7_init_19 : decode cX7_init 19 = .ok (.iconst 0, 1) := by decide +kernel
theorem dX7_init_20 : decode cX7_init 20 = .ok (.putfield 19, 3) := by decide +kernel
theorem dX7_init_23 : decode cX7_init 23 = .ok (.aload_n 0, 1) := by decide +kernel
theorem dX7_init_24 : decode cX7_init 24 = .ok (.iconst 0, 1) := by decide +kernel
theorem dX7_init_25 : decode cX7_init 25 = .ok (.putfield 22, 3) := by decide +kernel
theorem dX7_init_28 : decode cX7_init 28 = .ok (.aload_n 0, 1) := by decide +kernel
theorem dX7_init_29 : decode cX7_init 29 = .ok (.iconst 0, 1) := by decide +kernel
theorem dX7_init_30 : decode cX7_init 30 = .ok (.putfield 25, 3) := by decide +kernel
theorem dX7_init_33 : decode cX7_init 33 = .ok (.aload_n 0, 1) := by decide +kernel
theorem dX7_init_34 : decode cX7_init 34 = .ok (.iconst 0, 1) := by decide +kernel
theorem dX7_init_35 : decode cX7_init 35 = .ok (.putfield 28, 3) := by decide +kernel
theorem dX7_init_38 : decode cX7_init 38 = .ok (.aload_n 0, 1) := by decide +kernel
theorem dX7_init_39 : decode cX7_init 39 = .ok (.iconst 0, 1) := by decide +kernel
theorem dX7_init_40 : decode cX7_init 40 = .ok (.putfield 31, 3) := by decide +kernel
theorem dX7_init_43 : decode cX7_init 43 = .ok (.aload_n 0, 1) := by decide +kernel
theorem dX7_init_44 : decode cX7_init 44 = .ok (.iconst 0, 1) := by decide +kernel
theorem dX7_init_45 : decode cX7_init 45 = .ok (.putfield 34, 3) := by decide +kernel
theorem dX7_init_48 : decode cX7_init 48 = .ok (.return_, 1) := by decide +kernel
theorem dX11_init_0 : decode cX11_init 0 = .ok (.aload_n 0, 1) := by decide +kernel
theorem dX11_init_1 : decode cX11_init 1 = .ok (.invokespecial 3, 3) := by decide +kernel
theorem dX11_init_4 : decode cX11_init 4 = .ok (.aload_n 0, 1) := by decide +kernel
theorem dX11_init_5 : decode cX11_init 5 = .ok (.new 9, 3) := by decide +kernel
theorem dX11_init_8 : decode cX11_init 8 = .ok (.dup, 1) := by decide +kernel
theorem dX11_init_9 : decode cX11_init 9 = .ok (.invokespecial 11, 3) := by decide +kernel
theorem dX11_init_12 : decode cX11_init 12 = .ok (.putfield 12, 3) := by decide +kernel
theorem dX11_init_15 : decode cX11_init 15 = .ok (.aload_n 0, 1) := by decide +kernel
theorem dX11_init_16 : decode cX11_init 16 = .ok (.new 16, 3) := by decide +kernel
theorem dX11_init_19 : decode cX11_init 19 = .ok (.dup, 1) := by decide +kernel
theorem dX11_init_20 : decode cX11_init 20 = .ok (.invokespecial 18, 3) := by decide +kernel
theorem dX11_init_23 : decode cX11_init 23 = .ok (.putfield 19, 3) := by decide +kernel
theorem dX11_init_26 : decode cX11_init 26 = .ok (.aload_n 0, 1) := by decide +kernel
theorem dX11_init_27 : decode cX11_init 27 = .ok (.new 16, 3) := by decide +kernel
theorem dX11_init_30 : decode cX11_init 30 = .ok (.dup, 1) := by decide +kernel
theorem dX11_init_31 : decode cX11_init 31 = .ok (.invokespecial 18, 3) := by decide +kernel
theorem dX11_init_34 : decode cX11_init 34 = .ok (.putfield 23, 3) := by decide +kernel
theorem dX11_init_37 : decode cX11_init 37 = .ok (.aload_n 0, 1) := by decide +kernel
theorem dX11_init_38 : decode cX11_init 38 = .ok (.new 16, 3) := by decide +kernel
theorem dX11_init_41 : decode cX11_init 41 = .ok (.dup, 1) := by decide +kernel
theorem dX11_init_42 : decode cX11_init 42 = .ok (.invokespecial 18, 3) := by decide +kernel
theorem dX11_init_45 : decode cX11_init 45 = .ok (.putfield 26, 3) := by decide +kernel
theorem dX11_init_48 : decode cX11_init 48 = .ok (.aload_n 0, 1) := by decide +kernel
theorem dX11_init_49 : decode cX11_init 49 = .ok (.new 16, 3) := by decide +kernel
theorem dX11_init_52 : decode cX11_init 52 = .ok (.dup, 1) := by decide +kernel
theorem dX11_init_53 : decode cX11_init 53 = .ok (.invokespecial 18, 3) := by decide +kernel
theorem dX11_init_56 : decode cX11_init 56 = .ok (.putfield 29, 3) := by decide +kernel
theorem dX11_init_59 : decode cX11_init 59 = .ok (.aload_n 0, 1) := by decide +kernel
theorem dX11_init_60 : decode cX11_init 60 = .ok (.new 32, 3) := by decide +kernel
theorem dX11_init_63 : decode cX11_init 63 = .ok (.dup, 1) := by decide +kernel
theorem dX11_init_64 : decode cX11_init 64 = .ok (.invokespecial 34, 3) := by decide +kernel
theorem dX11_init_67 : decode cX11_init 67 = .ok (.putfield 35, 3) := by decide +kernel
theorem dX11_init_70 : decode cX11_init 70 = .ok (.aload_n 0, 1) := by decide +kernel
theorem dX11_init_71 : decode cX11_init 71 = .ok (.new 39, 3) := by decide +kernel
theorem dX11_init_74 : decode cX11_init 74 = .ok (.dup, 1) := by decide +kernel
theorem dX11_init_75 : decode cX11_init 75 = .ok (.invokespecial 41, 3) := by decide +kernel
theorem dX11_init_78 : decode cX11_init 78 = .ok (.putfield 42, 3) := by decide +kernel
theorem dX11_init_81 : decode cX11_init 81 = .ok (.aload_n 0, 1) := by decide +kernel
theorem dX11_init_82 : decode cX11_init 82 = .ok (.new 46, 3) := by decide +kernel
theorem dX11_init_85 : decode cX11_init 85 = .ok (.dup, 1) := by decide +kernel
theorem dX11_init_86 : decode cX11_init 86 = .ok (.invokespecial 48, 3) := by decide +kernel
theorem dX11_init_89 : decode cX11_init 89 = .ok (.putfield 49, 3) := by decide +kernel
theorem dX11_init_92 : decode cX11_init 92 = .ok (.aload_n 0, 1) := by decide +kernel
theorem dX11_init_93 : decode cX11_init 93 = .ok (.bipush 12, 2) := by decide +kernel
theorem dX11_init_95 : decode cX11_init 95 = .ok (.newarray .int, 2) := by decide +kernel
theorem dX11_init_97 : decode cX11_init 97 = .ok (.putfield 53, 3) := by decide +kernel
theorem dX11_init_100 : decode cX11_init 100 = .ok (.aload_n 0, 1) := by decide +kernel
theorem dX11_init_101 : decode cX11_init 101 = .ok (.iconst 0, 1) := by decide +kernel
theorem dX11_init_102 : decode cX11_init 102 = .ok (.putfield 57, 3) := by decide +kernel
theorem dX11_init_105 : decode cX11_init 105 = .ok (.aload_n 0, 1) := by decide +kernel
theorem dX11_init_106 : decode cX11_init 106 = .ok (.lconst 0, 1) := by decide +kernel
theorem dX11_init_107 : decode cX11_init 107 = .ok (.putfield 61, 3) := by decide +kernel
theorem dX11_init_110 : decode cX11_init 110 = .ok (.aload_n 0, 1) := by decide +kernel
theorem dX11_init_111 : decode cX11_init 111 = .ok (.lconst 1, 1) := by decide +kernel
theorem dX11_init_112 : decode cX11_init 112 = .ok (.putfield 65, 3) := by decide +kernel
theorem dX11_init_115 : decode cX11_init 115 = .ok (.aload_n 0, 1) := by decide +kernel
theorem dX11_init_116 : decode cX11_init 116 = .ok (.iconst 0, 1) := by decide +kernel
theorem dX11_init_117 : decode cX11_init 117 = .ok (.putfield 68, 3) := by decide +kernel
theorem dX11_init_120 : decode cX11_init 120 = .ok (.aload_n 0, 1) := by decide +kernel
theorem dX11_init_121 : decode cX11_init 121 = .ok (.iconst 0, 1) := by decide +kernel
theorem dX11_init_122 : decode cX11_init 122 = .ok (.putfield 71, 3) := by decide +kernel
theorem dX11_init_125 : decode cX11_init 125 = .ok (.aload_n 0, 1) := by decide +kernel
theorem dX11_init_126 : decode cX11_init 126 = .ok (.iconst 0, 1) := by decide +kernel
theorem dX11_init_127 : decode cX11_init 127 = .ok (.putfield 74, 3) := by decide +kernel
theorem dX11_init_130 : decode cX11_init 130 = .ok (.return_, 1) := by decide +kernel
theorem dX12_init_0 : decode cX12_init 0 = .ok (.aload_n 0, 1) := by decide +kernel
theorem dX12_init_1 : decode cX12_init 1 = .ok (.invokespecial 1, 3) := by decide +kernel
theorem dX12_init_4 : decode cX12_init 4 = .ok (.aload_n 0, 1) := by decide +kernel
theorem dX12_init_5 : decode cX12_init 5 = .ok (.iconst 4, 1) := by decide +kernel
theorem dX12_init_6 : decode cX12_init 6 = .ok (.putfield 7, 3) := by decide +kernel
theorem dX12_init_9 : decode cX12_init 9 = .ok (.aload_n 0, 1) := by decide +kernel
theorem dX12_init_10 : decode cX12_init 10 = .ok (.bipush 8, 2) := by decide +kernel
theorem dX12_init_12 : decode cX12_init 12 = .ok (.newarray .int, 2) := by decide +kernel
theorem dX12_init_14 : decode cX12_init 14 = .ok (.putfield 13, 3) := by decide +kernel
theorem dX12_init_17 : decode cX12_init 17 = .ok (.aload_n 0, 1) := by decide +kernel
theorem dX12_init_18 : decode cX12_init 18 = .ok (.bipush 126, 2) := by decide +kernel
theorem dX12_init_20 : decode cX12_init 20 = .ok (.newarray .int, 2) := by decide +kernel
theorem dX12_init_22 : decode cX12_init 22 = .ok (.putfield 17, 3) := by decide +kernel
theorem dX12_init_25 : decode cX12_init 25 = .ok (.aload_n 0, 1) := by decide +kernel
theorem dX12_init_26 : decode cX12_init 26 = .ok (.sipush 1008, 3) := by decide +kernel
theorem dX12_init_29 : decode cX12_init 29 = .ok (.newarray .int, 2) := by decide +kernel
theorem dX12_init_31 : decode cX12_init 31 = .ok (.putfield 20, 3) := by decide +kernel
theorem dX12_init_34 : decode cX12_init 34 = .ok (.aload_n 0, 1) := by decide +kernel
theorem dX12_init_35 : decode cX12_init 35 = .ok (.lconst 1, 1) := by decide +kernel
theorem dX12_init_36 : decode cX12_init 36 = .ok (.putfield 23, 3) := by decide +kernel
theorem dX12_init_39 : decode cX12_init 39 = .ok (.aload_n 0, 1) := by decide +kernel
theorem dX12_init_40 : decode cX12_init 40 = .ok (.iconst 3, 1) := by decide +kernel
theorem dX12_init_41 : decode cX12_init 41 = .ok (.newarray .int, 2) := by decide +kernel
theorem dX12_init_43 : decode cX12_init 43 = .ok (.putfield 27, 3) := by decide +kernel
theorem dX12_init_46 : decode cX12_init 46 = .ok (.aload_n 0, 1) := by decide +kernel
theorem dX12_init_47 : decode cX12_init 47 = .ok (.sipush 150, 3) := by decide +kernel
theorem dX12_init_50 : decode cX12_init 50 = .ok (.newarray .int, 2) := by decide +kernel
theorem dX12_init_52 : decode cX12_init 52 = .ok (.putfield 30, 3) := by decide +kernel
theorem dX12_init_55 : decode cX12_init 55 = .ok (.aload_n 0, 1) := by decide +kernel
theorem dX12_init_56 : decode cX12_init 56 = .ok (.sipush 600, 3) := by decide +kernel
theorem dX12_init_59 : decode cX12_init 59 = .ok (.newarray .int, 2) := by decide +kernel
theorem dX12_init_61 : decode cX12_init 61 = .ok (.putfield 33, 3) := by decide +kernel
theorem dX12_init_64 : decode cX12_init 64 = .ok (.aload_n 0, 1) := by decide +kernel
theorem dX12_init_65 : decode cX12_init 65 = .ok (.bipush 6, 2) := by decide +kernel
theorem dX12_init_67 : decode cX12_init 67 = .ok (.newarray .int, 2) := by decide +kernel
theorem dX12_init_69 : decode cX12_init 69 = .ok (.putfield 36, 3) := by decide +kernel
theorem dX12_init_72 : decode cX12_init 72 = .ok (.aload_n 0, 1) := by decide +kernel
theorem dX12_init_73 : decode cX12_init 73 = .ok (.bipush 6, 2) := by decide +kernel
theorem dX12_init_75 : decode cX12_init 75 = .ok (.newarray .int, 2) := by decide +kernel
theorem dX12_init_77 : decode cX12_init 77 = .ok (.putfield 39, 3) := by decide +kernel
theorem dX12_init_80 : decode cX12_init 80 = .ok (.aload_n 0, 1) := by decide +kernel
theorem dX12_init_81 : decode cX12_init 81 = .ok (.bipush 126, 2) := by decide +kernel
theorem dX12_init_83 : decode cX12_init 83 = .ok (.newarray .int, 2) := by decide +kernel
theorem dX12_init_85 : decode cX12_init 85 = .ok (.putfield 42, 3) := by decide +kernel
theorem dX12_init_88 : decode cX12_init 88 = .ok (.aload_n 0, 1) := by decide +kernel
theorem dX12_init_89 : decode cX12_init 89 = .ok (.iconst 2, 1) := by decide +kernel
theorem dX12_init_90 : decode cX12_init 90 = .ok (.newarray .boolean, 2) := by decide +kernel
theorem dX12_init_92 : decode cX12_init 92 = .ok (.putfield 45, 3) := by decide +kernel
theorem dX12_init_95 : decode cX12_init 95 = .ok (.aload_n 0, 1) := by decide +kernel
theorem dX12_init_96 : decode cX12_init 96 = .ok (.sipush 2308, 3) := by decide +kernel
theorem dX12_init_99 : decode cX12_init 99 = .ok (.newarray .int, 2) := by decide +kernel
theorem dX12_init_101 : decode cX12_init 101 = .ok (.putfield 49, 3) := by decide +kernel
theorem dX12_init_104 : decode cX12_init 104 = .ok (.return_, 1) := by decide +kernel
/-- the states that constructors leave -/
def zz : St := (fun _ => 0, fun _ => 0, fun _ _ => 0)
def pz : St := (fun j => match j with | 3 => 4 | _ => 0, fun _ => 0, fun _ _ => 0)
def oz : St := (fun _ => 0, fun j => match j with | 11 => 1 | _ => 0, fun _ _ => 0)
def xz : St := (fun j => match j with | 0 => 4 | _ => 0, fun j => match j with | 8 => 1 | _ => 0, fun _ _ => 0)
def tZ : Nat → St := fun i => match i with | 0 => oz | 2 => pz | 3 => pz | 4 => pz | 5 => pz | _ => zz
def aBig (b q : Nat) (a1 a2 a3 a4 a5 a6 a7 a8 : Nat → Nat) : Nat → Nat → Nat := fun i => match i with | 0 => (fun j => match j with | 0 => b | _ => q) | 1 => a1 | 2 => a2 | 3 => a3 | 4 => a4 | 5 => a5 | 6 => a6 | 7 => a7 | _ => a8
def rmX6_init : Room := { frames := 1, cells := 0, slots := 0, locals := 20 }
set_option maxHeartbeats 4000000 in
set_option maxRecDepth 100000 in
theorem ctX6_init (l : Launch) (E : VE) (b ci : Nat) (sz : Nat) : Met l yX6_init (mW yX6_init cX6_init 1 none) rmX6_init (CPreI E [.ref b] sz [(b, .inr (ci, []))]) (CQn E (fun (_ : Unit) => True) (fun _ => [(b, .inr (ci, []))]) [(b, .inr (ci, []))] sz) 0 0 (va_A [(b, .inr (ci, []))] sz) := by
  refine v_metI (by decide) (Nat.le_of_ble_eq_true rfl) ?_
  intro pr e s m below meth c A hsz hA C hAO hmn
  subst hsz
  refine v_aload_n (pc := 0) C 0 rfl rfl dX6_init_0 ?_
  refine v_objInit (pc := 1) C wmX6_3 (Nat.le_of_ble_eq_true rfl) (Nat.le_of_ble_eq_true rfl) dX6_init_1 ?_
  exact v_vretN (pc := 4) C () hA rfl trivial dX6_init_4
def rmX0_init : Room := { frames := 2, cells := 0, slots := 0, locals := 40 }
set_option maxHeartbeats 4000000 in
set_option maxRecDepth 100000 in
theorem ctX0_init (l : Launch) (E : VE) (b ci : Nat) (sz : Nat) : Met l yX0_init (mW yX0_init cX0_init 1 none) rmX0_init (CPreI E [.ref b] sz [(b, .inr (ci, []))]) (CQn E (fun (_ : Unit) => True) (fun _ => [(b, .inr (ci, []))]) [(b, .inr (ci, []))] sz) 0 0 (va_A [(b, .inr (ci, []))] sz) := by
  refine v_metI (by decide) (Nat.le_of_ble_eq_true rfl) ?_
  intro pr e s m below meth c A hsz hA C hAO hmn
  subst hsz
  refine v_aload_n (pc := 0) C 0 rfl rfl dX0_init_0 ?_
  refine v_w (w' := [] ++ [(b, .inr (ci, []))]) rfl ?_
  refine v_goN (pc := 1) C (mc := 0) (ms := 0) (v_runIN (pc := 1) C hAO [] (fun sz => ctX6_init l E b ci sz) mfX6_init wnX6_init rfl wmX0_1 ⟨Nat.le_of_ble_eq_true rfl, Nat.le_of_ble_eq_true rfl⟩ ⟨rfl, rfl⟩ rfl (Nat.le_of_ble_eq_true rfl) ⟨Nat.le_of_ble_eq_true rfl, Nat.le_of_ble_eq_true rfl⟩ dX0_init_1) (fun _ _ => ?_)
  exact v_vretN (pc := 4) C () hA rfl trivial dX0_init_4
def rmX3_init : Room := { frames := 2, cells := 0, slots := 0, locals := 40 }
set_option maxHeartbeats 4000000 in
set_option maxRecDepth 100000 in
theorem ctX3_init (l : Launch) (E : VE) (b ci : Nat) (sz : Nat) : Met l yX3_init (mW yX3_init cX3_init 1 none) rmX3_init (CPreI E [.ref b] sz [(b, .inr (ci, []))]) (CQn E (fun (_ : Unit) => True) (fun _ => [(b, .inr (ci, []))]) [(b, .inr (ci, []))] sz) 0 0 (va_A [(b, .inr (ci, []))] sz) := by
  refine v_metI (by decide) (Nat.le_of_ble_eq_true rfl) ?_
  intro pr e s m below meth c A hsz hA C hAO hmn
  subst hsz
  refine v_aload_n (pc := 0) C 0 rfl rfl dX3_init_0 ?_
  refine v_w (w' := [] ++ [(b, .inr (ci, []))]) rfl ?_
  refine v_goN (pc := 1) C (mc := 0) (ms := 0) (v_runIN (pc := 1) C hAO [] (fun sz => ctX6_init l E b ci sz) mfX6_init wnX6_init rfl wmX3_1 ⟨Nat.le_of_ble_eq_true rfl, Nat.le_of_ble_eq_true rfl⟩ ⟨rfl, rfl⟩ rfl (Nat.le_of_ble_eq_true rfl) ⟨Nat.le_of_ble_eq_true rfl, Nat.le_of_ble_eq_true rfl⟩ dX3_init_1) (fun _ _ => ?_)
  exact v_vretN (pc := 4) C () hA rfl trivial dX3_init_4
def rmX9_init : Room := { frames := 3, cells := 0, slots := 0, locals := 60 }
set_option maxHeartbeats 4000000 in
set_option maxRecDepth 100000 in
theorem ctX9_init (l : Launch) (E : VE) (b ci : Nat) (sz : Nat) : Met l yX9_init (mW yX9_init cX9_init 1 none) rmX9_init (CPreI E [.ref b] sz [(b, .inr (ci, []))]) (CQn E (fun (_ : Unit) => True) (fun _ => [(b, .inr (ci, []))]) [(b, .inr (ci, []))] sz) 0 0 (va_A [(b, .inr (ci, []))] sz) := by
  refine v_metI (by decide) (Nat.le_of_ble_eq_true rfl) ?_
  intro pr e s m below meth c A hsz hA C hAO hmn
  subst hsz
  refine v_aload_n (pc := 0) C 0 rfl rfl dX9_init_0 ?_
  refine v_w (w' := [] ++ [(b, .inr (ci, []))]) rfl ?_
  refine v_goN (pc := 1) C (mc := 0) (ms := 0) (v_runIN (pc := 1) C hAO [] (fun sz => ctX0_init l E b ci sz) mfX0_init wnX0_init rfl wmX9_1 ⟨Nat.le_of_ble_eq_true rfl, Nat.le_of_ble_eq_true rfl⟩ ⟨rfl, rfl⟩ rfl (Nat.le_of_ble_eq_true rfl) ⟨Nat.le_of_ble_eq_true rfl, Nat.le_of_ble_eq_true rfl⟩ dX9_init_1) (fun _ _ => ?_)
  exact v_vretN (pc := 4) C () hA rfl trivial dX9_init_4
def rmX1_init : Room := { frames := 3, cells := 0, slots := 0, locals := 60 }
set_option maxHeartbeats 4000000 in
set_option maxRecDepth 100000 in
theorem ctX1_init (l : Launch) (E : VE) (b ci : Nat) (sz : Nat) : Met l yX1_init (mW yX1_init cX1_init 1 none) rmX1_init (CPreI E [.ref b] sz [(b, .inr (ci, []))]) (CQn E (fun (_ : Unit) => True) (fun _ => [(b, .inr (ci, []))]) [(b, .inr (ci, []))] sz) 0 0 (va_A [(b, .inr (ci, []))] sz) := by
  refine v_metI (by decide) (Nat.le_of_ble_eq_true rfl) ?_
  intro pr e s m below meth c A hsz hA C hAO hmn
  subst hsz
  refine v_aload_n (pc := 0) C 0 rfl rfl dX1_init_0 ?_
  refine v_w (w' := [] ++ [(b, .inr (ci, []))]) rfl ?_
  refine v_goN (pc := 1) C (mc := 0) (ms := 0) (v_runIN (pc := 1) C hAO [] (fun sz => ctX3_init l E b ci sz) mfX3_init wnX3_init rfl wmX1_1 ⟨Nat.le_of_ble_eq_true rfl, Nat.le_of_ble_eq_true rfl⟩ ⟨rfl, rfl⟩ rfl (Nat.le_of_ble_eq_true rfl) ⟨Nat.le_of_ble_eq_true rfl, Nat.le_of_ble_eq_true rfl⟩ dX1_init_1) (fun _ _ => ?_)
  exact v_vretN (pc := 4) C () hA rfl trivial dX1_init_4
def rmX10_init : Room := { frames := 4, cells := 0, slots := 0, locals := 80 }
set_option maxHeartbeats 4000000 in
set_option maxRecDepth 100000 in
theorem ctX10_init (l : Launch) (E : VE) (b ci : Nat) (sz : Nat) : Met l yX10_init (mW yX10_init cX10_init 1 none) rmX10_init (CPreI E [.ref b] sz [(b, .inr (ci, []))]) (CQn E (fun (_ : Unit) => True) (fun _ => [(b, .inr (ci, []))]) [(b, .inr (ci, []))] sz) 0 0 (va_A [(b, .inr (ci, []))] sz) := by
  refine v_metI (by decide) (Nat.le_of_ble_eq_true rfl) ?_
  intro pr e s m below meth c A hsz hA C hAO hmn
  subst hsz
  refine v_aload_n (pc := 0) C 0 rfl rfl dX10_init_0 ?_
  refine v_w (w' := [] ++ [(b, .inr (ci, []))]) rfl ?_
  refine v_goN (pc := 1) C (mc := 0) (ms := 0) (v_runIN (pc := 1) C hAO [] (fun sz => ctX9_init l E b ci sz) mfX9_init wnX9_init rfl wmX10_1 ⟨Nat.le_of_ble_eq_true rfl, Nat.le_of_ble_eq_true rfl⟩ ⟨rfl, rfl⟩ rfl (Nat.le_of_ble_eq_true rfl) ⟨Nat.le_of_ble_eq_true rfl, Nat.le_of_ble_eq_true rfl⟩ dX10_init_1) (fun _ _ => ?_)
  exact v_vretN (pc := 4) C () hA rfl trivial dX10_init_4
def rmX5_init : Room := { frames := 6, cells := 7, slots := 6, locals := 120 }
set_option maxHeartbeats 4000000 in
set_option maxRecDepth 100000 in
theorem ctX5_init (l : Launch) (E : VE) (b : Nat) (sz : Nat) : Met l yX5_init (mW yX5_init cX5_init 1 none) rmX5_init (CPreI E [.ref b] sz [(b, .inr (5, [.null]))]) (CQn E (fun (a : Nat → Nat) => a 0 = b) (fun a => bBox E a) [(b, .inr (5, [.null]))] sz) 7 6 (va_A [(b, .inr (5, [.null]))] sz) := by
  refine v_metI (by decide) (Nat.le_of_ble_eq_true rfl) ?_
  intro pr e s m below meth c A hsz hA C hAO hmn
  subst hsz
  refine v_aload_n (pc := 0) C 0 rfl rfl dX5_init_0 ?_
  refine v_objInit (pc := 1) C wmX5_1 (Nat.le_of_ble_eq_true rfl) (Nat.le_of_ble_eq_true rfl) dX5_init_1 ?_
  refine v_aload_n (pc := 4) C 0 rfl rfl dX5_init_4 ?_
  refine v_bipush (pc := 5) C 6 kb_6 dX5_init_5 ?_
  refine v_newq (pc := 7) C hAO 6 (by decide) (by decide) (Nat.le_of_ble_eq_true rfl) (Nat.le_of_ble_eq_true rfl) (Nat.le_of_ble_eq_true rfl) wkX5_7 dX5_init_7 (fun q1 => ?_)
  refine v_dup (pc := 10) C rfl dX5_init_10 ?_
  refine v_iconst (pc := 11) C 0 ki_0 dX5_init_11 ?_
  refine v_new (pc := 12) C cfX6 (ci := 6) rfl wkX5_7 wjX6 wiX6 [] (by decide +kernel) (Nat.le_of_ble_eq_true rfl) (Nat.le_of_ble_eq_true rfl) dX5_init_12 (fun q2 => ?_)
  refine v_dup (pc := 15) C rfl dX5_init_15 ?_
  refine v_goN (pc := 16) C (mc := 0) (ms := 0) (v_runIN (pc := 16) C hAO [.ref q2, .int 0, .ref q1, .ref q1, .ref b] (fun sz => ctX6_init l E q2 6 sz) mfX6_init wnX6_init rfl wmX5_9 ⟨Nat.le_of_ble_eq_true rfl, Nat.le_of_ble_eq_true rfl⟩ ⟨rfl, rfl⟩ rfl (Nat.le_of_ble_eq_true rfl) ⟨Nat.le_of_ble_eq_true rfl, Nat.le_of_ble_eq_true rfl⟩ dX5_init_16) (fun _ _ => ?_)
  refine v_astq (pc := 19) C 1 2 0 (w' := (([(b, .inr (5, [.null]))] ++ [(q1, .inl (E.2.2.2.1, 6, .inr (.inr (.inr (.inr (va_up (fun _ => none) 0 (some q2)))))))]) ++ [(q2, .inr (6, []))])) rfl rfl vi_0_6 (by decide) rfl dX5_init_19 ?_
  refine v_dup (pc := 20) C rfl dX5_init_20 ?_
  refine v_iconst (pc := 21) C 1 ki_1 dX5_init_21 ?_
  refine v_new (pc := 22) C cfX0 (ci := 0) rfl wkX5_10 wjX0 wiX0 [] (by decide +kernel) (Nat.le_of_ble_eq_true rfl) (Nat.le_of_ble_eq_true rfl) dX5_init_22 (fun q3 => ?_)
  refine v_dup (pc := 25) C rfl dX5_init_25 ?_
  refine v_goN (pc := 26) C (mc := 0) (ms := 0) (v_runIN (pc := 26) C hAO [.ref q3, .int 1, .ref q1, .ref q1, .ref b] (fun sz => ctX0_init l E q3 0 sz) mfX0_init wnX0_init rfl wmX5_12 ⟨Nat.le_of_ble_eq_true rfl, Nat.le_of_ble_eq_true rfl⟩ ⟨rfl, rfl⟩ rfl (Nat.le_of_ble_eq_true rfl) ⟨Nat.le_of_ble_eq_true rfl, Nat.le_of_ble_eq_true rfl⟩ dX5_init_26) (fun _ _ => ?_)
  refine v_astqO (pc := 29) C 1 3 0 (r := (RX0, TX0, 0)) 1 (w' := ((([(b, .inr (5, [.null]))] ++ [(q1, .inl (E.2.2.2.1, 6, .inr (.inr (.inr (.inr (va_up (va_up (fun _ => none) 0 (some q2)) 1 (some q3)))))))]) ++ [(q2, .inr (6, []))]) ++ [(q3, .inr (0, []))])) rfl wvX0 rfl rfl vi_1_6 (by decide) rfl dX5_init_29 ?_
  refine v_dup (pc := 30) C rfl dX5_init_30 ?_
  refine v_iconst (pc := 31) C 2 ki_2 dX5_init_31 ?_
  refine v_new (pc := 32) C cfX3 (ci := 3) rfl wkX5_13 wjX3 wiX3 [] (by decide +kernel) (Nat.le_of_ble_eq_true rfl) (Nat.le_of_ble_eq_true rfl) dX5_init_32 (fun q4 => ?_)
  refine v_dup (pc := 35) C rfl dX5_init_35 ?_
  refine v_goN (pc := 36) C (mc := 0) (ms := 0) (v_runIN (pc := 36) C hAO [.ref q4, .int 2, .ref q1, .ref q1, .ref b] (fun sz => ctX3_init l E q4 3 sz) mfX3_init wnX3_init rfl wmX5_15 ⟨Nat.le_of_ble_eq_true rfl, Nat.le_of_ble_eq_true rfl⟩ ⟨rfl, rfl⟩ rfl (Nat.le_of_ble_eq_true rfl) ⟨Nat.le_of_ble_eq_true rfl, Nat.le_of_ble_eq_true rfl⟩ dX5_init_36) (fun _ _ => ?_)
  refine v_astqO (pc := 39) C 1 4 3 (r := (RX3, TX3, 0)) 2 (w' := (((([(b, .inr (5, [.null]))] ++ [(q1, .inl (E.2.2.2.1, 6, .inr (.inr (.inr (.inr (va_up (va_up (va_up (fun _ => none) 0 (some q2)) 1 (some q3)) 2 (some q4)))))))]) ++ [(q2, .inr (6, []))]) ++ [(q3, .inr (0, []))]) ++ [(q4, .inr (3, []))])) rfl wvX3 rfl rfl vi_2_6 (by decide) rfl dX5_init_39 ?_
  refine v_dup (pc := 40) C rfl dX5_init_40 ?_
  refine v_iconst (pc := 41) C 3 ki_3 dX5_init_41 ?_
  refine v_new (pc := 42) C cfX9 (ci := 9) rfl wkX5_16 wjX9 wiX9 [] (by decide +kernel) (Nat.le_of_ble_eq_true rfl) (Nat.le_of_ble_eq_true rfl) dX5_init_42 (fun q5 => ?_)
  refine v_dup (pc := 45) C rfl dX5_init_45 ?_
  refine v_goN (pc := 46) C (mc := 0) (ms := 0) (v_runIN (pc := 46) C hAO [.ref q5, .int 3, .ref q1, .ref q1, .ref b] (fun sz => ctX9_init l E q5 9 sz) mfX9_init wnX9_init rfl wmX5_18 ⟨Nat.le_of_ble_eq_true rfl, Nat.le_of_ble_eq_true rfl⟩ ⟨rfl, rfl⟩ rfl (Nat.le_of_ble_eq_true rfl) ⟨Nat.le_of_ble_eq_true rfl, Nat.le_of_ble_eq_true rfl⟩ dX5_init_46) (fun _ _ => ?_)
  refine v_astqO (pc := 49) C 1 5 9 (r := (RX9, TX9, 0)) 3 (w' := ((((([(b, .inr (5, [.null]))] ++ [(q1, .inl (E.2.2.2.1, 6, .inr (.inr (.inr (.inr (va_up (va_up (va_up (va_up (fun _ => none) 0 (some q2)) 1 (some q3)) 2 (some q4)) 3 (some q5)))))))]) ++ [(q2, .inr (6, []))]) ++ [(q3, .inr (0, []))]) ++ [(q4, .inr (3, []))]) ++ [(q5, .inr (9, []))])) rfl wvX9 rfl rfl vi_3_6 (by decide) rfl dX5_init_49 ?_
  refine v_dup (pc := 50) C rfl dX5_init_50 ?_
  refine v_iconst (pc := 51) C 4 ki_4 dX5_init_51 ?_
  refine v_new (pc := 52) C cfX1 (ci := 1) rfl wkX5_19 wjX1 wiX1 [] (by decide +kernel) (Nat.le_of_ble_eq_true rfl) (Nat.le_of_ble_eq_true rfl) dX5_init_52 (fun q6 => ?_)
  refine v_dup (pc := 55) C rfl dX5_init_55 ?_
  refine v_goN (pc := 56) C (mc := 0) (ms := 0) (v_runIN (pc := 56) C hAO [.ref q6, .int 4, .ref q1, .ref q1, .ref b] (fun sz => ctX1_init l E q6 1 sz) mfX1_init wnX1_init rfl wmX5_21 ⟨Nat.le_of_ble_eq_true rfl, Nat.le_of_ble_eq_true rfl⟩ ⟨rfl, rfl⟩ rfl (Nat.le_of_ble_eq_true rfl) ⟨Nat.le_of_ble_eq_true rfl, Nat.le_of_ble_eq_true rfl⟩ dX5_init_56) (fun _ _ => ?_)
  refine v_astqO (pc := 59) C 1 6 1 (r := (RX1, TX1, 0)) 4 (w' := (((((([(b, .inr (5, [.null]))] ++ [(q1, .inl (E.2.2.2.1, 6, .inr (.inr (.inr (.inr (va_up (va_up (va_up (va_up (va_up (fun _ => none) 0 (some q2)) 1 (some q3)) 2 (some q4)) 3 (some q5)) 4 (some q6)))))))]) ++ [(q2, .inr (6, []))]) ++ [(q3, .inr (0, []))]) ++ [(q4, .inr (3, []))]) ++ [(q5, .inr (9, []))]) ++ [(q6, .inr (1, []))])) rfl wvX1 rfl rfl vi_4_6 (by decide) rfl dX5_init_59 ?_
  refine v_dup (pc := 60) C rfl dX5_init_60 ?_
  refine v_iconst (pc := 61) C 5 ki_5 dX5_init_61 ?_
  refine v_new (pc := 62) C cfX10 (ci := 10) rfl wkX5_22 wjX10 wiX10 [] (by decide +kernel) (Nat.le_of_ble_eq_true rfl) (Nat.le_of_ble_eq_true rfl) dX5_init_62 (fun q7 => ?_)
  refine v_dup (pc := 65) C rfl dX5_init_65 ?_
  refine v_goN (pc := 66) C (mc := 0) (ms := 0) (v_runIN (pc := 66) C hAO [.ref q7, .int 5, .ref q1, .ref q1, .ref b] (fun sz => ctX10_init l E q7 10 sz) mfX10_init wnX10_init rfl wmX5_24 ⟨Nat.le_of_ble_eq_true rfl, Nat.le_of_ble_eq_true rfl⟩ ⟨rfl, rfl⟩ rfl (Nat.le_of_ble_eq_true rfl) ⟨Nat.le_of_ble_eq_true rfl, Nat.le_of_ble_eq_true rfl⟩ dX5_init_66) (fun _ _ => ?_)
  refine v_astqO (pc := 69) C 1 7 10 (r := (RX10, TX10, 0)) 5 (w' := ((((((([(b, .inr (5, [.null]))] ++ [(q1, .inl (E.2.2.2.1, 6, .inr (.inr (.inr (.inr (va_up (va_up (va_up (va_up (va_up (va_up (fun _ => none) 0 (some q2)) 1 (some q3)) 2 (some q4)) 3 (some q5)) 4 (some q6)) 5 (some q7)))))))]) ++ [(q2, .inr (6, []))]) ++ [(q3, .inr (0, []))]) ++ [(q4, .inr (3, []))]) ++ [(q5, .inr (9, []))]) ++ [(q6, .inr (1, []))]) ++ [(q7, .inr (10, []))])) rfl wvX10 rfl rfl vi_5_6 (by decide) rfl dX5_init_69 ?_
  refine v_putF (pc := 70) C hmn cfX5 (ci := 5) rfl 0 0 (w' := ((((((([(b, .inr (5, [.ref q1]))] ++ [(q1, .inl (E.2.2.2.1, 6, .inr (.inr (.inr (.inr (va_up (va_up (va_up (va_up (va_up (va_up (fun _ => none) 0 (some q2)) 1 (some q3)) 2 (some q4)) 3 (some q5)) 4 (some q6)) 5 (some q7)))))))]) ++ [(q2, .inr (6, []))]) ++ [(q3, .inr (0, []))]) ++ [(q4, .inr (3, []))]) ++ [(q5, .inr (9, []))]) ++ [(q6, .inr (1, []))]) ++ [(q7, .inr (10, []))])) rfl rfl (by decide) wfX5_25 rfl rfl rfl rfl rfl (Nat.le_of_ble_eq_true rfl) dX5_init_70 ?_
  refine v_cgq 1 (fun k => some ((fun k => match k with | 0 => b | 1 => q1 | 2 => q2 | 3 => q3 | 4 => q4 | 5 => q5 | 6 => q6 | _ => q7) (2 + k))) rfl ?_ rfl ?_
  · intro k hk; rcases (show k = 0 ∨ k = 1 ∨ k = 2 ∨ k = 3 ∨ k = 4 ∨ k = 5 by omega) with rfl | rfl | rfl | rfl | rfl | rfl <;> rfl
  exact v_vretN (pc := 73) C (fun k => match k with | 0 => b | 1 => q1 | 2 => q2 | 3 => q3 | 4 => q4 | 5 => q5 | 6 => q6 | _ => q7) hA rfl rfl dX5_init_73
def rmX4_init : Room := { frames := 1, cells := 8, slots := 882, locals := 40 }
set_option maxHeartbeats 4000000 in
set_option maxRecDepth 100000 in
theorem ctX4_init (l : Launch) (E : VE) (b : Nat) (sz : Nat) : Met l yX4_init (mW yX4_init cX4_init 1 none) rmX4_init (CPreI E [.ref b] sz [(b, .inr (4, [.null, .null, .int 0, .int 0, .int 0, .null, .null, .null, .null, .null, .null, .int 0]))]) (CQn E (fun (a : Nat → Nat) => a 0 = b) (fun a => bPad E a pz) [(b, .inr (4, [.null, .null, .int 0, .int 0, .int 0, .null, .null, .null, .null, .null, .null, .int 0]))] sz) 8 882 (va_A [(b, .inr (4, [.null, .null, .int 0, .int 0, .int 0, .null, .null, .null, .null, .null, .null, .int 0]))] sz) := by
  refine v_metI (by decide) (Nat.le_of_ble_eq_true rfl) ?_
  intro pr e s m below meth c A hsz hA C hAO hmn
  subst hsz
  refine v_aload_n (pc := 0) C 0 rfl rfl dX4_init_0 ?_
  refine v_objInit (pc := 1) C wmX4_5 (Nat.le_of_ble_eq_true rfl) (Nat.le_of_ble_eq_true rfl) dX4_init_1 ?_
  refine v_aload_n (pc := 4) C 0 rfl rfl dX4_init_4 ?_
  refine v_bipush (pc := 5) C 86 kb_86 dX4_init_5 ?_
  refine v_newi (pc := 7) C 86 (by decide) (by decide) (Nat.le_of_ble_eq_true rfl) (Nat.le_of_ble_eq_true rfl) (Nat.le_of_ble_eq_true rfl) dX4_init_7 (fun q1 => ?_)
  refine v_putF (pc := 9) C hmn cfX4 (ci := 4) rfl 0 0 (w' := ([(b, .inr (4, [.ref q1, .null, .int 0, .int 0, .int 0, .null, .null, .null, .null, .null, .null, .int 0]))] ++ [(q1, .inl (E.2.1, 86, .inl (fun _ => 0)))])) rfl rfl (by decide) wfX4_11 rfl rfl rfl rfl rfl (Nat.le_of_ble_eq_true rfl) dX4_init_9 ?_
  refine v_aload_n (pc := 12) C 0 rfl rfl dX4_init_12 ?_
  refine v_sipush (pc := 13) C 688 ks_688 dX4_init_13 ?_
  refine v_newi (pc := 16) C 688 (by decide) (by decide) (Nat.le_of_ble_eq_true rfl) (Nat.le_of_ble_eq_true rfl) (Nat.le_of_ble_eq_true rfl) dX4_init_16 (fun q2 => ?_)
  refine v_putF (pc := 18) C hmn cfX4 (ci := 4) rfl 0 1 (w' := (([(b, .inr (4, [.ref q1, .ref q2, .int 0, .int 0, .int 0, .null, .null, .null, .null, .null, .null, .int 0]))] ++ [(q1, .inl (E.2.1, 86, .inl (fun _ => 0)))]) ++ [(q2, .inl (E.2.1, 688, .inl (fun _ => 0)))])) rfl rfl (by decide) wfX4_15 rfl rfl rfl rfl rfl (Nat.le_of_ble_eq_true rfl) dX4_init_18 ?_
  refine v_aload_n (pc := 21) C 0 rfl rfl dX4_init_21 ?_
  refine v_iconst (pc := 22) C 0 ki_0 dX4_init_22 ?_
  refine v_put (pc := 23) C cfX4 (ci := 4) rfl 0 2 (w' := (([(b, .inr (4, [.ref q1, .ref q2, .int 0, .int 0, .int 0, .null, .null, .null, .null, .null, .null, .int 0]))] ++ [(q1, .inl (E.2.1, 86, .inl (fun _ => 0)))]) ++ [(q2, .inl (E.2.1, 688, .inl (fun _ => 0)))])) rfl rfl (by decide) wfX4_18 rfl rfl rfl rfl (Nat.le_of_ble_eq_true rfl) dX4_init_23 ?_
  refine v_aload_n (pc := 26) C 0 rfl rfl dX4_init_26 ?_
  refine v_iconst (pc := 27) C 4 ki_4 dX4_init_27 ?_
  refine v_put (pc := 28) C cfX4 (ci := 4) rfl 0 3 (w' := (([(b, .inr (4, [.ref q1, .ref q2, .int 0, .int 4, .int 0, .null, .null, .null, .null, .null, .null, .int 0]))] ++ [(q1, .inl (E.2.1, 86, .inl (fun _ => 0)))]) ++ [(q2, .inl (E.2.1, 688, .inl (fun _ => 0)))])) rfl rfl (by decide) wfX4_22 rfl rfl rfl rfl (Nat.le_of_ble_eq_true rfl) dX4_init_28 ?_
  refine v_aload_n (pc := 31) C 0 rfl rfl dX4_init_31 ?_
  refine v_iconst (pc := 32) C 0 ki_0 dX4_init_32 ?_
  refine v_put (pc := 33) C cfX4 (ci := 4) rfl 0 4 (w' := (([(b, .inr (4, [.ref q1, .ref q2, .int 0, .int 4, .int 0, .null, .null, .null, .null, .null, .null, .int 0]))] ++ [(q1, .inl (E.2.1, 86, .inl (fun _ => 0)))]) ++ [(q2, .inl (E.2.1, 688, .inl (fun _ => 0)))])) rfl rfl (by decide) wfX4_25 rfl rfl rfl rfl (Nat.le_of_ble_eq_true rfl) dX4_init_33 ?_
  refine v_aload_n (pc := 36) C 0 rfl rfl dX4_init_36 ?_
  refine v_bipush (pc := 37) C 10 kb_10 dX4_init_37 ?_
  refine v_newi (pc := 39) C 10 (by decide) (by decide) (Nat.le_of_ble_eq_true rfl) (Nat.le_of_ble_eq_true rfl) (Nat.le_of_ble_eq_true rfl) dX4_init_39 (fun q3 => ?_)
  refine v_putF (pc := 41) C hmn cfX4 (ci := 4) rfl 0 5 (w' := ((([(b, .inr (4, [.ref q1, .ref q2, .int 0, .int 4, .int 0, .ref q3, .null, .null, .null, .null, .null, .int 0]))] ++ [(q1, .inl (E.2.1, 86, .inl (fun _ => 0)))]) ++ [(q2, .inl (E.2.1, 688, .inl (fun _ => 0)))]) ++ [(q3, .inl (E.2.1, 10, .inl (fun _ => 0)))])) rfl rfl (by decide) wfX4_28 rfl rfl rfl rfl rfl (Nat.le_of_ble_eq_true rfl) dX4_init_41 ?_
  refine v_aload_n (pc := 44) C 0 rfl rfl dX4_init_44 ?_
  refine v_bipush (pc := 45) C 10 kb_10 dX4_init_45 ?_
  refine v_newi (pc := 47) C 10 (by decide) (by decide) (Nat.le_of_ble_eq_true rfl) (Nat.le_of_ble_eq_true rfl) (Nat.le_of_ble_eq_true rfl) dX4_init_47 (fun q4 => ?_)
  refine v_putF (pc := 49) C hmn cfX4 (ci := 4) rfl 0 6 (w' := (((([(b, .inr (4, [.ref q1, .ref q2, .int 0, .int 4, .int 0, .ref q3, .ref q4, .null, .null, .null, .null, .int 0]))] ++ [(q1, .inl (E.2.1, 86, .inl (fun _ => 0)))]) ++ [(q2, .inl (E.2.1, 688, .inl (fun _ => 0)))]) ++ [(q3, .inl (E.2.1, 10, .inl (fun _ => 0)))]) ++ [(q4, .inl (E.2.1, 10, .inl (fun _ => 0)))])) rfl rfl (by decide) wfX4_31 rfl rfl rfl rfl rfl (Nat.le_of_ble_eq_true rfl) dX4_init_49 ?_
  refine v_aload_n (pc := 52) C 0 rfl rfl dX4_init_52 ?_
  refine v_bipush (pc := 53) C 10 kb_10 dX4_init_53 ?_
  refine v_newi (pc := 55) C 10 (by decide) (by decide) (Nat.le_of_ble_eq_true rfl) (Nat.le_of_ble_eq_true rfl) (Nat.le_of_ble_eq_true rfl) dX4_init_55 (fun q5 => ?_)
  refine v_putF (pc := 57) C hmn cfX4 (ci := 4) rfl 0 7 (w' := ((((([(b, .inr (4, [.ref q1, .ref q2, .int 0, .int 4, .int 0, .ref q3, .ref q4, .ref q5, .null, .null, .null, .int 0]))] ++ [(q1, .inl (E.2.1, 86, .inl (fun _ => 0)))]) ++ [(q2, .inl (E.2.1, 688, .inl (fun _ => 0)))]) ++ [(q3, .inl (E.2.1, 10, .inl (fun _ => 0)))]) ++ [(q4, .inl (E.2.1, 10, .inl (fun _ => 0)))]) ++ [(q5, .inl (E.2.1, 10, .inl (fun _ => 0)))])) rfl rfl (by decide) wfX4_34 rfl rfl rfl rfl rfl (Nat.le_of_ble_eq_true rfl) dX4_init_57 ?_
  refine v_aload_n (pc := 60) C 0 rfl rfl dX4_init_60 ?_
  refine v_bipush (pc := 61) C 10 kb_10 dX4_init_61 ?_
  refine v_newi (pc := 63) C 10 (by decide) (by decide) (Nat.le_of_ble_eq_true rfl) (Nat.le_of_ble_eq_true rfl) (Nat.le_of_ble_eq_true rfl) dX4_init_63 (fun q6 => ?_)
  refine v_putF (pc := 65) C hmn cfX4 (ci := 4) rfl 0 8 (w' := (((((([(b, .inr (4, [.ref q1, .ref q2, .int 0, .int 4, .int 0, .ref q3, .ref q4, .ref q5, .ref q6, .null, .null, .int 0]))] ++ [(q1, .inl (E.2.1, 86, .inl (fun _ => 0)))]) ++ [(q2, .inl (E.2.1, 688, .inl (fun _ => 0)))]) ++ [(q3, .inl (E.2.1, 10, .inl (fun _ => 0)))]) ++ [(q4, .inl (E.2.1, 10, .inl (fun _ => 0)))]) ++ [(q5, .inl (E.2.1, 10, .inl (fun _ => 0)))]) ++ [(q6, .inl (E.2.1, 10, .inl (fun _ => 0)))])) rfl rfl (by decide) wfX4_37 rfl rfl rfl rfl rfl (Nat.le_of_ble_eq_true rfl) dX4_init_65 ?_
  refine v_aload_n (pc := 68) C 0 rfl rfl dX4_init_68 ?_
  refine v_bipush (pc := 69) C 60 kb_60 dX4_init_69 ?_
  refine v_newi (pc := 71) C 60 (by decide) (by decide) (Nat.le_of_ble_eq_true rfl) (Nat.le_of_ble_eq_true rfl) (Nat.le_of_ble_eq_true rfl) dX4_init_71 (fun q7 => ?_)
  refine v_putF (pc := 73) C hmn cfX4 (ci := 4) rfl 0 9 (w' := ((((((([(b, .inr (4, [.ref q1, .ref q2, .int 0, .int 4, .int 0, .ref q3, .ref q4, .ref q5, .ref q6, .ref q7, .null, .int 0]))] ++ [(q1, .inl (E.2.1, 86, .inl (fun _ => 0)))]) ++ [(q2, .inl (E.2.1, 688, .inl (fun _ => 0)))]) ++ [(q3, .inl (E.2.1, 10, .inl (fun _ => 0)))]) ++ [(q4, .inl (E.2.1, 10, .inl (fun _ => 0)))]) ++ [(q5, .inl (E.2.1, 10, .inl (fun _ => 0)))]) ++ [(q6, .inl (E.2.1, 10, .inl (fun _ => 0)))]) ++ [(q7, .inl (E.2.1, 60, .inl (fun _ => 0)))])) rfl rfl (by decide) wfX4_40 rfl rfl rfl rfl rfl (Nat.le_of_ble_eq_true rfl) dX4_init_73 ?_
  refine v_aload_n (pc := 76) C 0 rfl rfl dX4_init_76 ?_
  refine v_bipush (pc := 77) C 8 kb_8 dX4_init_77 ?_
  refine v_newi (pc := 79) C 8 (by decide) (by decide) (Nat.le_of_ble_eq_true rfl) (Nat.le_of_ble_eq_true rfl) (Nat.le_of_ble_eq_true rfl) dX4_init_79 (fun q8 => ?_)
  refine v_putF (pc := 81) C hmn cfX4 (ci := 4) rfl 0 10 (w' := (((((((([(b, .inr (4, [.ref q1, .ref q2, .int 0, .int 4, .int 0, .ref q3, .ref q4, .ref q5, .ref q6, .ref q7, .ref q8, .int 0]))] ++ [(q1, .inl (E.2.1, 86, .inl (fun _ => 0)))]) ++ [(q2, .inl (E.2.1, 688, .inl (fun _ => 0)))]) ++ [(q3, .inl (E.2.1, 10, .inl (fun _ => 0)))]) ++ [(q4, .inl (E.2.1, 10, .inl (fun _ => 0)))]) ++ [(q5, .inl (E.2.1, 10, .inl (fun _ => 0)))]) ++ [(q6, .inl (E.2.1, 10, .inl (fun _ => 0)))]) ++ [(q7, .inl (E.2.1, 60, .inl (fun _ => 0)))]) ++ [(q8, .inl (E.2.1, 8, .inl (fun _ => 0)))])) rfl rfl (by decide) wfX4_43 rfl rfl rfl rfl rfl (Nat.le_of_ble_eq_true rfl) dX4_init_81 ?_
  refine v_aload_n (pc := 84) C 0 rfl rfl dX4_init_84 ?_
  refine v_iconst (pc := 85) C 0 ki_0 dX4_init_85 ?_
  refine v_put (pc := 86) C cfX4 (ci := 4) rfl 0 11 (w' := (((((((([(b, .inr (4, [.ref q1, .ref q2, .int 0, .int 4, .int 0, .ref q3, .ref q4, .ref q5, .ref q6, .ref q7, .ref q8, .int 0]))] ++ [(q1, .inl (E.2.1, 86, .inl (fun _ => 0)))]) ++ [(q2, .inl (E.2.1, 688, .inl (fun _ => 0)))]) ++ [(q3, .inl (E.2.1, 10, .inl (fun _ => 0)))]) ++ [(q4, .inl (E.2.1, 10, .inl (fun _ => 0)))]) ++ [(q5, .inl (E.2.1, 10, .inl (fun _ => 0)))]) ++ [(q6, .inl (E.2.1, 10, .inl (fun _ => 0)))]) ++ [(q7, .inl (E.2.1, 60, .inl (fun _ => 0)))]) ++ [(q8, .inl (E.2.1, 8, .inl (fun _ => 0)))])) rfl rfl (by decide) wfX4_46 rfl rfl rfl rfl (Nat.le_of_ble_eq_true rfl) dX4_init_86 ?_
  exact v_vretN (pc := 89) C (fun k => match k with | 0 => b | 1 => q1 | 2 => q2 | 3 => q3 | 4 => q4 | 5 => q5 | 6 => q6 | 7 => q7 | _ => q8) hA rfl rfl dX4_init_89
def rmX2_init : Room := { frames := 1, cells := 2, slots := 24, locals := 40 }
set_option maxHeartbeats 4000000 in
set_option maxRecDepth 100000 in
theorem ctX2_init (l : Launch) (E : VE) (b : Nat) (sz : Nat) : Met l yX2_init (mW yX2_init cX2_init 1 none) rmX2_init (CPreI E [.ref b] sz [(b, .inr (2, [.null, .null, .int 0, .int 0]))]) (CQn E (fun (a : Nat → Nat) => a 0 = b) (fun a => bLost E a zz) [(b, .inr (2, [.null, .null, .int 0, .int 0]))] sz) 2 24 (va_A [(b, .inr (2, [.null, .null, .int 0, .int 0]))] sz) := by
  refine v_metI (by decide) (Nat.le_of_ble_eq_true rfl) ?_
  intro pr e s m below meth c A hsz hA C hAO hmn
  subst hsz
  refine v_aload_n (pc := 0) C 0 rfl rfl dX2_init_0 ?_
  refine v_objInit (pc := 1) C wmX2_3 (Nat.le_of_ble_eq_true rfl) (Nat.le_of_ble_eq_true rfl) dX2_init_1 ?_
  refine v_aload_n (pc := 4) C 0 rfl rfl dX2_init_4 ?_
  refine v_bipush (pc := 5) C 12 kb_12 dX2_init_5 ?_
  refine v_newi (pc := 7) C 12 (by decide) (by decide) (Nat.le_of_ble_eq_true rfl) (Nat.le_of_ble_eq_true rfl) (Nat.le_of_ble_eq_true rfl) dX2_init_7 (fun q1 => ?_)
  refine v_putF (pc := 9) C hmn cfX2 (ci := 2) rfl 0 0 (w' := ([(b, .inr (2, [.ref q1, .null, .int 0, .int 0]))] ++ [(q1, .inl (E.2.1, 12, .inl (fun _ => 0)))])) rfl rfl (by decide) wfX2_9 rfl rfl rfl rfl rfl (Nat.le_of_ble_eq_true rfl) dX2_init_9 ?_
  refine v_aload_n (pc := 12) C 0 rfl rfl dX2_init_12 ?_
  refine v_bipush (pc := 13) C 12 kb_12 dX2_init_13 ?_
  refine v_newi (pc := 15) C 12 (by decide) (by decide) (Nat.le_of_ble_eq_true rfl) (Nat.le_of_ble_eq_true rfl) (Nat.le_of_ble_eq_true rfl) dX2_init_15 (fun q2 => ?_)
  refine v_putF (pc := 17) C hmn cfX2 (ci := 2) rfl 0 1 (w' := (([(b, .inr (2, [.ref q1, .ref q2, .int 0, .int 0]))] ++ [(q1, .inl (E.2.1, 12, .inl (fun _ => 0)))]) ++ [(q2, .inl (E.2.1, 12, .inl (fun _ => 0)))])) rfl rfl (by decide) wfX2_15 rfl rfl rfl rfl rfl (Nat.le_of_ble_eq_true rfl) dX2_init_17 ?_
  refine v_aload_n (pc := 20) C 0 rfl rfl dX2_init_20 ?_
  refine v_iconst (pc := 21) C 0 ki_0 dX2_init_21 ?_
  refine v_put (pc := 22) C cfX2 (ci := 2) rfl 0 2 (w' := (([(b, .inr (2, [.ref q1, .ref q2, .int 0, .int 0]))] ++ [(q1, .inl (E.2.1, 12, .inl (fun _ => 0)))]) ++ [(q2, .inl (E.2.1, 12, .inl (fun _ => 0)))])) rfl rfl (by decide) wfX2_18 rfl rfl rfl rfl (Nat.le_of_ble_eq_true rfl) dX2_init_22 ?_
  refine v_aload_n (pc := 25) C 0 rfl rfl dX2_init_25 ?_
  refine v_iconst (pc := 26) C 0 ki_0 dX2_init_26 ?_
  refine v_put (pc := 27) C cfX2 (ci := 2) rfl 0 3 (w' := (([(b, .inr (2, [.ref q1, .ref q2, .int 0, .int 0]))] ++ [(q1, .inl (E.2.1, 12, .inl (fun _ => 0)))]) ++ [(q2, .inl (E.2.1, 12, .inl (fun _ => 0)))])) rfl rfl (by decide) wfX2_22 rfl rfl rfl rfl (Nat.le_of_ble_eq_true rfl) dX2_init_27 ?_
  exact v_vretN (pc := 30) C (fun k => match k with | 0 => b | 1 => q1 | _ => q2) hA rfl rfl dX2_init_30
def rmX8_init : Room := { frames := 1, cells := 4, slots := 82, locals := 40 }
set_option maxHeartbeats 4000000 in
set_option maxRecDepth 100000 in
theorem ctX8_init (l : Launch) (E : VE) (b : Nat) (sz : Nat) : Met l yX8_init (mW yX8_init cX8_init 1 none) rmX8_init (CPreI E [.ref b] sz [(b, .inr (8, [.null, .null, .null, .null, .int 0]))]) (CQn E (fun (a : Nat → Nat) => a 0 = b) (fun a => bRows E a zz) [(b, .inr (8, [.null, .null, .null, .null, .int 0]))] sz) 4 82 (va_A [(b, .inr (8, [.null, .null, .null, .null, .int 0]))] sz) := by
  refine v_metI (by decide) (Nat.le_of_ble_eq_true rfl) ?_
  intro pr e s m below meth c A hsz hA C hAO hmn
  subst hsz
  refine v_aload_n (pc := 0) C 0 rfl rfl dX8_init_0 ?_
  refine v_objInit (pc := 1) C wmX8_3 (Nat.le_of_ble_eq_true rfl) (Nat.le_of_ble_eq_true rfl) dX8_init_1 ?_
  refine v_aload_n (pc := 4) C 0 rfl rfl dX8_init_4 ?_
  refine v_bipush (pc := 5) C 6 kb_6 dX8_init_5 ?_
  refine v_newi (pc := 7) C 6 (by decide) (by decide) (Nat.le_of_ble_eq_true rfl) (Nat.le_of_ble_eq_true rfl) (Nat.le_of_ble_eq_true rfl) dX8_init_7 (fun q1 => ?_)
  refine v_putF (pc := 9) C hmn cfX8 (ci := 8) rfl 0 0 (w' := ([(b, .inr (8, [.ref q1, .null, .null, .null, .int 0]))] ++ [(q1, .inl (E.2.1, 6, .inl (fun _ => 0)))])) rfl rfl (by decide) wfX8_9 rfl rfl rfl rfl rfl (Nat.le_of_ble_eq_true rfl) dX8_init_9 ?_
  refine v_aload_n (pc := 12) C 0 rfl rfl dX8_init_12 ?_
  refine v_bipush (pc := 13) C 6 kb_6 dX8_init_13 ?_
  refine v_newi (pc := 15) C 6 (by decide) (by decide) (Nat.le_of_ble_eq_true rfl) (Nat.le_of_ble_eq_true rfl) (Nat.le_of_ble_eq_true rfl) dX8_init_15 (fun q2 => ?_)
  refine v_putF (pc := 17) C hmn cfX8 (ci := 8) rfl 0 1 (w' := (([(b, .inr (8, [.ref q1, .ref q2, .null, .null, .int 0]))] ++ [(q1, .inl (E.2.1, 6, .inl (fun _ => 0)))]) ++ [(q2, .inl (E.2.1, 6, .inl (fun _ => 0)))])) rfl rfl (by decide) wfX8_15 rfl rfl rfl rfl rfl (Nat.le_of_ble_eq_true rfl) dX8_init_17 ?_
  refine v_aload_n (pc := 20) C 0 rfl rfl dX8_init_20 ?_
  refine v_bipush (pc := 21) C 60 kb_60 dX8_init_21 ?_
  refine v_newi (pc := 23) C 60 (by decide) (by decide) (Nat.le_of_ble_eq_true rfl) (Nat.le_of_ble_eq_true rfl) (Nat.le_of_ble_eq_true rfl) dX8_init_23 (fun q3 => ?_)
  refine v_putF (pc := 25) C hmn cfX8 (ci := 8) rfl 0 2 (w' := ((([(b, .inr (8, [.ref q1, .ref q2, .ref q3, .null, .int 0]))] ++ [(q1, .inl (E.2.1, 6, .inl (fun _ => 0)))]) ++ [(q2, .inl (E.2.1, 6, .inl (fun _ => 0)))]) ++ [(q3, .inl (E.2.1, 60, .inl (fun _ => 0)))])) rfl rfl (by decide) wfX8_18 rfl rfl rfl rfl rfl (Nat.le_of_ble_eq_true rfl) dX8_init_25 ?_
  refine v_aload_n (pc := 28) C 0 rfl rfl dX8_init_28 ?_
  refine v_bipush (pc := 29) C 10 kb_10 dX8_init_29 ?_
  refine v_newi (pc := 31) C 10 (by decide) (by decide) (Nat.le_of_ble_eq_true rfl) (Nat.le_of_ble_eq_true rfl) (Nat.le_of_ble_eq_true rfl) dX8_init_31 (fun q4 => ?_)
  refine v_putF (pc := 33) C hmn cfX8 (ci := 8) rfl 0 3 (w' := (((([(b, .inr (8, [.ref q1, .ref q2, .ref q3, .ref q4, .int 0]))] ++ [(q1, .inl (E.2.1, 6, .inl (fun _ => 0)))]) ++ [(q2, .inl (E.2.1, 6, .inl (fun _ => 0)))]) ++ [(q3, .inl (E.2.1, 60, .inl (fun _ => 0)))]) ++ [(q4, .inl (E.2.1, 10, .inl (fun _ => 0)))])) rfl rfl (by decide) wfX8_21 rfl rfl rfl rfl rfl (Nat.le_of_ble_eq_true rfl) dX8_init_33 ?_
  refine v_aload_n (pc := 36) C 0 rfl rfl dX8_init_36 ?_
  refine v_iconst (pc := 37) C 0 ki_0 dX8_init_37 ?_
  refine v_put (pc := 38) C cfX8 (ci := 8) rfl 0 4 (w' := (((([(b, .inr (8, [.ref q1, .ref q2, .ref q3, .ref q4, .int 0]))] ++ [(q1, .inl (E.2.1, 6, .inl (fun _ => 0)))]) ++ [(q2, .inl (E.2.1, 6, .inl (fun _ => 0)))]) ++ [(q3, .inl (E.2.1, 60, .inl (fun _ => 0)))]) ++ [(q4, .inl (E.2.1, 10, .inl (fun _ => 0)))])) rfl rfl (by decide) wfX8_24 rfl rfl rfl rfl (Nat.le_of_ble_eq_true rfl) dX8_init_38 ?_
  exact v_vretN (pc := 41) C (fun k => match k with | 0 => b | 1 => q1 | 2 => q2 | 3 => q3 | _ => q4) hA rfl rfl dX8_init_41
def rmX7_init : Room := { frames := 1, cells := 1, slots := 150, locals := 40 }
set_option maxHeartbeats 4000000 in
set_option maxRecDepth 100000 in
theorem ctX7_init (l : Launch) (E : VE) (b : Nat) (sz : Nat) : Met l yX7_init (mW yX7_init cX7_init 1 none) rmX7_init (CPreI E [.ref b] sz [(b, .inr (7, [.null, .int 0, .int 0, .int 0, .int 0, .int 0, .int 0, .int 0]))]) (CQn E (fun (a : Nat → Nat) => a 0 = b) (fun a => bReader E a zz) [(b, .inr (7, [.null, .int 0, .int 0, .int 0, .int 0, .int 0, .int 0, .int 0]))] sz) 1 150 (va_A [(b, .inr (7, [.null, .int 0, .int 0, .int 0, .int 0, .int 0, .int 0, .int 0]))] sz) := by
  refine v_metI (by decide) (Nat.le_of_ble_eq_true rfl) ?_
  intro pr e s m below meth c A hsz hA C hAO hmn
  subst hsz
  refine v_aload_n (pc := 0) C 0 rfl rfl dX7_init_0 ?_
  refine v_objInit (pc := 1) C wmX7_3 (Nat.le_of_ble_eq_true rfl) (Nat.le_of_ble_eq_true rfl) dX7_init_1 ?_
  refine v_aload_n (pc := 4) C 0 rfl rfl dX7_init_4 ?_
  refine v_sipush (pc := 5) C 150 ks_150 dX7_init_5 ?_
  refine v_newi (pc := 8) C 150 (by decide) (by decide) (Nat.le_of_ble_eq_true rfl) (Nat.le_of_ble_eq_true rfl) (Nat.le_of_ble_eq_true rfl) dX7_init_8 (fun q1 => ?_)
  refine v_putF (pc := 10) C hmn cfX7 (ci := 7) rfl 0 0 (w' := ([(b, .inr (7, [.ref q1, .int 0, .int 0, .int 0, .int 0, .int 0, .int 0, .int 0]))] ++ [(q1, .inl (E.2.1, 150, .inl (fun _ => 0)))])) rfl rfl (by decide) wfX7_9 rfl rfl rfl rfl rfl (Nat.le_of_ble_eq_true rfl) dX7_init_10 ?_
  refine v_aload_n (pc := 13) C 0 rfl rfl dX7_init_13 ?_
  refine v_iconst (pc := 14) C 0 ki_0 dX7_init_14 ?_
  refine v_put (pc := 15) C cfX7 (ci := 7) rfl 0 1 (w' := ([(b, .inr (7, [.ref q1, .int 0, .int 0, .int 0, .int 0, .int 0, .int 0, .int 0]))] ++ [(q1, .inl (E.2.1, 150, .inl (fun _ => 0)))])) rfl rfl (by decide) wfX7_15 rfl rfl rfl rfl (Nat.le_of_ble_eq_true rfl) dX7_init_15 ?_
  refine v_aload_n (pc := 18) C 0 rfl rfl dX7_init_18 ?_
  refine v_iconst (pc := 19) C 0 ki_0 dX7_init_19 ?_
  refine v_put (pc := 20) C cfX7 (ci := 7) rfl 0 2 (w' := ([(b, .inr (7, [.ref q1, .int 0, .int 0, .int 0, .int 0, .int 0, .int 0, .int 0]))] ++ [(q1, .inl (E.2.1, 150, .inl (fun _ => 0)))])) rfl rfl (by decide) wfX7_19 rfl rfl rfl rfl (Nat.le_of_ble_eq_true rfl) dX7_init_20 ?_
  refine v_aload_n (pc := 23) C 0 rfl rfl dX7_init_23 ?_
  refine v_iconst (pc := 24) C 0 ki_0 dX7_init_24 ?_
  refine v_put (pc := 25) C cfX7 (ci := 7) rfl 0 3 (w' := ([(b, .inr (7, [.ref q1, .int 0, .int 0, .int 0, .int 0, .int 0, .int 0, .int 0]))] ++ [(q1, .inl (E.2.1, 150, .inl (fun _ => 0)))])) rfl rfl (by decide) wfX7_22 rfl rfl rfl rfl (Nat.le_of_ble_eq_true rfl) dX7_init_25 ?_
  refine v_aload_n (pc := 28) C 0 rfl rfl dX7_init_28 ?_
  refine v_iconst (pc := 29) C 0 ki_0 dX7_init_29 ?_
  refine v_put (pc := 30) C cfX7 (ci := 7) rfl 0 4 (w' := ([(b, .inr (7, [.ref q1, .int 0, .int 0, .int 0, .int 0, .int 0, .int 0, .int 0]))] ++ [(q1, .inl (E.2.1, 150, .inl (fun _ => 0)))])) rfl rfl (by decide) wfX7_25 rfl rfl rfl rfl (Nat.le_of_ble_eq_true rfl) dX7_init_30 ?_
  refine v_aload_n (pc := 33) C 0 rfl rfl dX7_init_33 ?_
  refine v_iconst (pc := 34) C 0 ki_0 dX7_init_34 ?_
  refine v_put (pc := 35) C cfX7 (ci := 7) rfl 0 5 (w' := ([(b, .inr (7, [.ref q1, .int 0, .int 0, .int 0, .int 0, .int 0, .int 0, .int 0]))] ++ [(q1, .inl (E.2.1, 150, .inl (fun _ => 0)))])) rfl rfl (by decide) wfX7_28 rfl rfl rfl rfl (Nat.le_of_ble_eq_true rfl) dX7_init_35 ?_
  refine v_aload_n (pc := 38) C 0 rfl rfl dX7_init_38 ?_
  refine v_iconst (pc := 39) C 0 ki_0 dX7_init_39 ?_
  refine v_put (pc := 40) C cfX7 (ci := 7) rfl 0 6 (w' := ([(b, .inr (7, [.ref q1, .int 0, .int 0, .int 0, .int 0, .int 0, .int 0, .int 0]))] ++ [(q1, .inl (E.2.1, 150, .inl (fun _ => 0)))])) rfl rfl (by decide) wfX7_31 rfl rfl rfl rfl (Nat.le_of_ble_eq_true rfl) dX7_init_40 ?_
  refine v_aload_n (pc := 43) C 0 rfl rfl dX7_init_43 ?_
  refine v_iconst (pc := 44) C 0 ki_0 dX7_init_44 ?_
  refine v_put (pc := 45) C cfX7 (ci := 7) rfl 0 7 (w' := ([(b, .inr (7, [.ref q1, .int 0, .int 0, .int 0, .int 0, .int 0, .int 0, .int 0]))] ++ [(q1, .inl (E.2.1, 150, .inl (fun _ => 0)))])) rfl rfl (by decide) wfX7_34 rfl rfl rfl rfl (Nat.le_of_ble_eq_true rfl) dX7_init_45 ?_
  exact v_vretN (pc := 48) C (fun k => match k with | 0 => b  | _ => q1) hA rfl rfl dX7_init_48
def rmX11_init : Room := { frames := 8, cells := 55, slots := 3868, locals := 300 }
set_option maxHeartbeats 4000000 in
set_option maxRecDepth 100000 in
theorem ctX11_init (l : Launch) (E : VE) (b : Nat) (sz : Nat) : Met l yX11_init (mW yX11_init cX11_init 1 none) rmX11_init (CPreI E [.ref b] sz [(b, .inr (11, [.null, .null, .null, .null, .null, .null, .null, .null, .null, .int 0, .long 0, .long 0, .int 0, .int 0, .int 0]))]) (CQn E (fun (a : Nat → Nat → Nat) => a 0 0 = b) (fun a => wBig E a tZ) [(b, .inr (11, [.null, .null, .null, .null, .null, .null, .null, .null, .null, .int 0, .long 0, .long 0, .int 0, .int 0, .int 0]))] sz) 55 3868 (va_A [(b, .inr (11, [.null, .null, .null, .null, .null, .null, .null, .null, .null, .int 0, .long 0, .long 0, .int 0, .int 0, .int 0]))] sz) := by
  refine v_metI (by decide) (Nat.le_of_ble_eq_true rfl) ?_
  intro pr e s m below meth c A hsz hA C hAO hmn
  subst hsz
  refine v_aload_n (pc := 0) C 0 rfl rfl dX11_init_0 ?_
  refine v_objInit (pc := 1) C wmX11_3 (Nat.le_of_ble_eq_true rfl) (Nat.le_of_ble_eq_true rfl) dX11_init_1 ?_
  refine v_aload_n (pc := 4) C 0 rfl rfl dX11_init_4 ?_
  refine v_new (pc := 5) C cfX5 (ci := 5) rfl wkX11_9 wjX5 wiX5 [.null] (by decide +kernel) (Nat.le_of_ble_eq_true rfl) (Nat.le_of_ble_eq_true rfl) dX11_init_5 (fun q1 => ?_)
  refine v_dup (pc := 8) C rfl dX11_init_8 ?_
  refine v_goN (pc := 9) C (mc := 7) (ms := 6) (v_runIN (pc := 9) C hAO [.ref q1, .ref b] (fun sz => ctX5_init l E q1 sz) mfX5_init wnX5_init rfl wmX11_11 ⟨Nat.le_of_ble_eq_true rfl, Nat.le_of_ble_eq_true rfl⟩ ⟨rfl, rfl⟩ rfl (Nat.le_of_ble_eq_true rfl) ⟨Nat.le_of_ble_eq_true rfl, Nat.le_of_ble_eq_true rfl⟩ dX11_init_9) (fun a1 ha1 => ?_)
  obtain rfl : a1 0 = q1 := ha1
  refine v_putF (pc := 12) C hmn cfX11 (ci := 11) rfl 0 0 (w' := ([(b, .inr (11, [.ref (a1 0), .null, .null, .null, .null, .null, .null, .null, .null, .int 0, .long 0, .long 0, .int 0, .int 0, .int 0]))] ++ bBox E a1)) rfl rfl (by decide) wfX11_12 rfl rfl rfl rfl rfl (Nat.le_of_ble_eq_true rfl) dX11_init_12 ?_
  refine v_aload_n (pc := 15) C 0 rfl rfl dX11_init_15 ?_
  refine v_new (pc := 16) C cfX4 (ci := 4) rfl wkX11_16 wjX4 wiX4 [.null, .null, .int 0, .int 0, .int 0, .null, .null, .null, .null, .null, .null, .int 0] (by decide +kernel) (Nat.le_of_ble_eq_true rfl) (Nat.le_of_ble_eq_true rfl) dX11_init_16 (fun q2 => ?_)
  refine v_dup (pc := 19) C rfl dX11_init_19 ?_
  refine v_goN (pc := 20) C (mc := 8) (ms := 882) (v_runIN (pc := 20) C hAO [.ref q2, .ref b] (fun sz => ctX4_init l E q2 sz) mfX4_init wnX4_init rfl wmX11_18 ⟨Nat.le_of_ble_eq_true rfl, Nat.le_of_ble_eq_true rfl⟩ ⟨rfl, rfl⟩ rfl (Nat.le_of_ble_eq_true rfl) ⟨Nat.le_of_ble_eq_true rfl, Nat.le_of_ble_eq_true rfl⟩ dX11_init_20) (fun a2 ha2 => ?_)
  obtain rfl : a2 0 = q2 := ha2
  refine v_putF (pc := 23) C hmn cfX11 (ci := 11) rfl 0 1 (w' := (([(b, .inr (11, [.ref (a1 0), .ref (a2 0), .null, .null, .null, .null, .null, .null, .null, .int 0, .long 0, .long 0, .int 0, .int 0, .int 0]))] ++ bBox E a1) ++ bPad E a2 pz)) rfl rfl (by decide) wfX11_19 rfl rfl rfl rfl rfl (Nat.le_of_ble_eq_true rfl) dX11_init_23 ?_
  refine v_aload_n (pc := 26) C 0 rfl rfl dX11_init_26 ?_
  refine v_new (pc := 27) C cfX4 (ci := 4) rfl wkX11_16 wjX4 wiX4 [.null, .null, .int 0, .int 0, .int 0, .null, .null, .null, .null, .null, .null, .int 0] (by decide +kernel) (Nat.le_of_ble_eq_true rfl) (Nat.le_of_ble_eq_true rfl) dX11_init_27 (fun q3 => ?_)
  refine v_dup (pc := 30) C rfl dX11_init_30 ?_
  refine v_goN (pc := 31) C (mc := 8) (ms := 882) (v_runIN (pc := 31) C hAO [.ref q3, .ref b] (fun sz => ctX4_init l E q3 sz) mfX4_init wnX4_init rfl wmX11_18 ⟨Nat.le_of_ble_eq_true rfl, Nat.le_of_ble_eq_true rfl⟩ ⟨rfl, rfl⟩ rfl (Nat.le_of_ble_eq_true rfl) ⟨Nat.le_of_ble_eq_true rfl, Nat.le_of_ble_eq_true rfl⟩ dX11_init_31) (fun a3 ha3 => ?_)
  obtain rfl : a3 0 = q3 := ha3
  refine v_putF (pc := 34) C hmn cfX11 (ci := 11) rfl 0 2 (w' := ((([(b, .inr (11, [.ref (a1 0), .ref (a2 0), .ref (a3 0), .null, .null, .null, .null, .null, .null, .int 0, .long 0, .long 0, .int 0, .int 0, .int 0]))] ++ bBox E a1) ++ bPad E a2 pz) ++ bPad E a3 pz)) rfl rfl (by decide) wfX11_23 rfl rfl rfl rfl rfl (Nat.le_of_ble_eq_true rfl) dX11_init_34 ?_
  refine v_aload_n (pc := 37) C 0 rfl rfl dX11_init_37 ?_
  refine v_new (pc := 38) C cfX4 (ci := 4) rfl wkX11_16 wjX4 wiX4 [.null, .null, .int 0, .int 0, .int 0, .null, .null, .null, .null, .null, .null, .int 0] (by decide +kernel) (Nat.le_of_ble_eq_true rfl) (Nat.le_of_ble_eq_true rfl) dX11_init_38 (fun q4 => ?_)
  refine v_dup (pc := 41) C rfl dX11_init_41 ?_
  refine v_goN (pc := 42) C (mc := 8) (ms := 882) (v_runIN (pc := 42) C hAO [.ref q4, .ref b] (fun sz => ctX4_init l E q4 sz) mfX4_init wnX4_init rfl wmX11_18 ⟨Nat.le_of_ble_eq_true rfl, Nat.le_of_ble_eq_true rfl⟩ ⟨rfl, rfl⟩ rfl (Nat.le_of_ble_eq_true rfl) ⟨Nat.le_of_ble_eq_true rfl, Nat.le_of_ble_eq_true rfl⟩ dX11_init_42) (fun a4 ha4 => ?_)
  obtain rfl : a4 0 = q4 := ha4
  refine v_putF (pc := 45) C hmn cfX11 (ci := 11) rfl 0 3 (w' := (((([(b, .inr (11, [.ref (a1 0), .ref (a2 0), .ref (a3 0), .ref (a4 0), .null, .null, .null, .null, .null, .int 0, .long 0, .long 0, .int 0, .int 0, .int 0]))] ++ bBox E a1) ++ bPad E a2 pz) ++ bPad E a3 pz) ++ bPad E a4 pz)) rfl rfl (by decide) wfX11_26 rfl rfl rfl rfl rfl (Nat.le_of_ble_eq_true rfl) dX11_init_45 ?_
  refine v_aload_n (pc := 48) C 0 rfl rfl dX11_init_48 ?_
  refine v_new (pc := 49) C cfX4 (ci := 4) rfl wkX11_16 wjX4 wiX4 [.null, .null, .int 0, .int 0, .int 0, .null, .null, .null, .null, .null, .null, .int 0] (by decide +kernel) (Nat.le_of_ble_eq_true rfl) (Nat.le_of_ble_eq_true rfl) dX11_init_49 (fun q5 => ?_)
  refine v_dup (pc := 52) C rfl dX11_init_52 ?_
  refine v_goN (pc := 53) C (mc := 8) (ms := 882) (v_runIN (pc := 53) C hAO [.ref q5, .ref b] (fun sz => ctX4_init l E q5 sz) mfX4_init wnX4_init rfl wmX11_18 ⟨Nat.le_of_ble_eq_true rfl, Nat.le_of_ble_eq_true rfl⟩ ⟨rfl, rfl⟩ rfl (Nat.le_of_ble_eq_true rfl) ⟨Nat.le_of_ble_eq_true rfl, Nat.le_of_ble_eq_true rfl⟩ dX11_init_53) (fun a5 ha5 => ?_)
  obtain rfl : a5 0 = q5 := ha5
  refine v_putF (pc := 56) C hmn cfX11 (ci := 11) rfl 0 4 (w' := ((((([(b, .inr (11, [.ref (a1 0), .ref (a2 0), .ref (a3 0), .ref (a4 0), .ref (a5 0), .null, .null, .null, .null, .int 0, .long 0, .long 0, .int 0, .int 0, .int 0]))] ++ bBox E a1) ++ bPad E a2 pz) ++ bPad E a3 pz) ++ bPad E a4 pz) ++ bPad E a5 pz)) rfl rfl (by decide) wfX11_29 rfl rfl rfl rfl rfl (Nat.le_of_ble_eq_true rfl) dX11_init_56 ?_
  refine v_aload_n (pc := 59) C 0 rfl rfl dX11_init_59 ?_
  refine v_new (pc := 60) C cfX2 (ci := 2) rfl wkX11_32 wjX2 wiX2 [.null, .null, .int 0, .int 0] (by decide +kernel) (Nat.le_of_ble_eq_true rfl) (Nat.le_of_ble_eq_true rfl) dX11_init_60 (fun q6 => ?_)
  refine v_dup (pc := 63) C rfl dX11_init_63 ?_
  refine v_goN (pc := 64) C (mc := 2) (ms := 24) (v_runIN (pc := 64) C hAO [.ref q6, .ref b] (fun sz => ctX2_init l E q6 sz) mfX2_init wnX2_init rfl wmX11_34 ⟨Nat.le_of_ble_eq_true rfl, Nat.le_of_ble_eq_true rfl⟩ ⟨rfl, rfl⟩ rfl (Nat.le_of_ble_eq_true rfl) ⟨Nat.le_of_ble_eq_true rfl, Nat.le_of_ble_eq_true rfl⟩ dX11_init_64) (fun a6 ha6 => ?_)
  obtain rfl : a6 0 = q6 := ha6
  refine v_putF (pc := 67) C hmn cfX11 (ci := 11) rfl 0 5 (w' := (((((([(b, .inr (11, [.ref (a1 0), .ref (a2 0), .ref (a3 0), .ref (a4 0), .ref (a5 0), .ref (a6 0), .null, .null, .null, .int 0, .long 0, .long 0, .int 0, .int 0, .int 0]))] ++ bBox E a1) ++ bPad E a2 pz) ++ bPad E a3 pz) ++ bPad E a4 pz) ++ bPad E a5 pz) ++ bLost E a6 zz)) rfl rfl (by decide) wfX11_35 rfl rfl rfl rfl rfl (Nat.le_of_ble_eq_true rfl) dX11_init_67 ?_
  refine v_aload_n (pc := 70) C 0 rfl rfl dX11_init_70 ?_
  refine v_new (pc := 71) C cfX8 (ci := 8) rfl wkX11_39 wjX8 wiX8 [.null, .null, .null, .null, .int 0] (by decide +kernel) (Nat.le_of_ble_eq_true rfl) (Nat.le_of_ble_eq_true rfl) dX11_init_71 (fun q7 => ?_)
  refine v_dup (pc := 74) C rfl dX11_init_74 ?_
  refine v_goN (pc := 75) C (mc := 4) (ms := 82) (v_runIN (pc := 75) C hAO [.ref q7, .ref b] (fun sz => ctX8_init l E q7 sz) mfX8_init wnX8_init rfl wmX11_41 ⟨Nat.le_of_ble_eq_true rfl, Nat.le_of_ble_eq_true rfl⟩ ⟨rfl, rfl⟩ rfl (Nat.le_of_ble_eq_true rfl) ⟨Nat.le_of_ble_eq_true rfl, Nat.le_of_ble_eq_true rfl⟩ dX11_init_75) (fun a7 ha7 => ?_)
  obtain rfl : a7 0 = q7 := ha7
  refine v_putF (pc := 78) C hmn cfX11 (ci := 11) rfl 0 6 (w' := ((((((([(b, .inr (11, [.ref (a1 0), .ref (a2 0), .ref (a3 0), .ref (a4 0), .ref (a5 0), .ref (a6 0), .ref (a7 0), .null, .null, .int 0, .long 0, .long 0, .int 0, .int 0, .int 0]))] ++ bBox E a1) ++ bPad E a2 pz) ++ bPad E a3 pz) ++ bPad E a4 pz) ++ bPad E a5 pz) ++ bLost E a6 zz) ++ bRows E a7 zz)) rfl rfl (by decide) wfX11_42 rfl rfl rfl rfl rfl (Nat.le_of_ble_eq_true rfl) dX11_init_78 ?_
  refine v_aload_n (pc := 81) C 0 rfl rfl dX11_init_81 ?_
  refine v_new (pc := 82) C cfX7 (ci := 7) rfl wkX11_46 wjX7 wiX7 [.null, .int 0, .int 0, .int 0, .int 0, .int 0, .int 0, .int 0] (by decide +kernel) (Nat.le_of_ble_eq_true rfl) (Nat.le_of_ble_eq_true rfl) dX11_init_82 (fun q8 => ?_)
  refine v_dup (pc := 85) C rfl dX11_init_85 ?_
  refine v_goN (pc := 86) C (mc := 1) (ms := 150) (v_runIN (pc := 86) C hAO [.ref q8, .ref b] (fun sz => ctX7_init l E q8 sz) mfX7_init wnX7_init rfl wmX11_48 ⟨Nat.le_of_ble_eq_true rfl, Nat.le_of_ble_eq_true rfl⟩ ⟨rfl, rfl⟩ rfl (Nat.le_of_ble_eq_true rfl) ⟨Nat.le_of_ble_eq_true rfl, Nat.le_of_ble_eq_true rfl⟩ dX11_init_86) (fun a8 ha8 => ?_)
  obtain rfl : a8 0 = q8 := ha8
  refine v_putF (pc := 89) C hmn cfX11 (ci := 11) rfl 0 7 (w' := (((((((([(b, .inr (11, [.ref (a1 0), .ref (a2 0), .ref (a3 0), .ref (a4 0), .ref (a5 0), .ref (a6 0), .ref (a7 0), .ref (a8 0), .null, .int 0, .long 0, .long 0, .int 0, .int 0, .int 0]))] ++ bBox E a1) ++ bPad E a2 pz) ++ bPad E a3 pz) ++ bPad E a4 pz) ++ bPad E a5 pz) ++ bLost E a6 zz) ++ bRows E a7 zz) ++ bReader E a8 zz)) rfl rfl (by decide) wfX11_49 rfl rfl rfl rfl rfl (Nat.le_of_ble_eq_true rfl) dX11_init_89 ?_
  refine v_aload_n (pc := 92) C 0 rfl rfl dX11_init_92 ?_
  refine v_bipush (pc := 93) C 12 kb_12 dX11_init_93 ?_
  refine v_newi (pc := 95) C 12 (by decide) (by decide) (Nat.le_of_ble_eq_true rfl) (Nat.le_of_ble_eq_true rfl) (Nat.le_of_ble_eq_true rfl) dX11_init_95 (fun q9 => ?_)
  refine v_putF (pc := 97) C hmn cfX11 (ci := 11) rfl 0 8 (w' := ((((((((([(b, .inr (11, [.ref (a1 0), .ref (a2 0), .ref (a3 0), .ref (a4 0), .ref (a5 0), .ref (a6 0), .ref (a7 0), .ref (a8 0), .ref q9, .int 0, .long 0, .long 0, .int 0, .int 0, .int 0]))] ++ bBox E a1) ++ bPad E a2 pz) ++ bPad E a3 pz) ++ bPad E a4 pz) ++ bPad E a5 pz) ++ bLost E a6 zz) ++ bRows E a7 zz) ++ bReader E a8 zz) ++ [(q9, .inl (E.2.1, 12, .inl (fun _ => 0)))])) rfl rfl (by decide) wfX11_53 rfl rfl rfl rfl rfl (Nat.le_of_ble_eq_true rfl) dX11_init_97 ?_
  refine v_aload_n (pc := 100) C 0 rfl rfl dX11_init_100 ?_
  refine v_iconst (pc := 101) C 0 ki_0 dX11_init_101 ?_
  refine v_put (pc := 102) C cfX11 (ci := 11) rfl 0 9 (w' := ((((((((([(b, .inr (11, [.ref (a1 0), .ref (a2 0), .ref (a3 0), .ref (a4 0), .ref (a5 0), .ref (a6 0), .ref (a7 0), .ref (a8 0), .ref q9, .int 0, .long 0, .long 0, .int 0, .int 0, .int 0]))] ++ bBox E a1) ++ bPad E a2 pz) ++ bPad E a3 pz) ++ bPad E a4 pz) ++ bPad E a5 pz) ++ bLost E a6 zz) ++ bRows E a7 zz) ++ bReader E a8 zz) ++ [(q9, .inl (E.2.1, 12, .inl (fun _ => 0)))])) rfl rfl (by decide) wfX11_57 rfl rfl rfl rfl (Nat.le_of_ble_eq_true rfl) dX11_init_102 ?_
  refine v_aload_n (pc := 105) C 0 rfl rfl dX11_init_105 ?_
  refine v_lconst (pc := 106) C 0 kl_0 dX11_init_106 ?_
  refine v_put (pc := 107) C cfX11 (ci := 11) rfl 0 10 (w' := ((((((((([(b, .inr (11, [.ref (a1 0), .ref (a2 0), .ref (a3 0), .ref (a4 0), .ref (a5 0), .ref (a6 0), .ref (a7 0), .ref (a8 0), .ref q9, .int 0, .long 0, .long 0, .int 0, .int 0, .int 0]))] ++ bBox E a1) ++ bPad E a2 pz) ++ bPad E a3 pz) ++ bPad E a4 pz) ++ bPad E a5 pz) ++ bLost E a6 zz) ++ bRows E a7 zz) ++ bReader E a8 zz) ++ [(q9, .inl (E.2.1, 12, .inl (fun _ => 0)))])) rfl rfl (by decide) wfX11_61 rfl rfl rfl rfl (Nat.le_of_ble_eq_true rfl) dX11_init_107 ?_
  refine v_aload_n (pc := 110) C 0 rfl rfl dX11_init_110 ?_
  refine v_lconst (pc := 111) C 1 kl_1 dX11_init_111 ?_
  refine v_put (pc := 112) C cfX11 (ci := 11) rfl 0 11 (w' := ((((((((([(b, .inr (11, [.ref (a1 0), .ref (a2 0), .ref (a3 0), .ref (a4 0), .ref (a5 0), .ref (a6 0), .ref (a7 0), .ref (a8 0), .ref q9, .int 0, .long 0, .long 1, .int 0, .int 0, .int 0]))] ++ bBox E a1) ++ bPad E a2 pz) ++ bPad E a3 pz) ++ bPad E a4 pz) ++ bPad E a5 pz) ++ bLost E a6 zz) ++ bRows E a7 zz) ++ bReader E a8 zz) ++ [(q9, .inl (E.2.1, 12, .inl (fun _ => 0)))])) rfl rfl (by decide) wfX11_65 rfl rfl rfl rfl (Nat.le_of_ble_eq_true rfl) dX11_init_112 ?_
  refine v_aload_n (pc := 115) C 0 rfl rfl dX11_init_115 ?_
  refine v_iconst (pc := 116) C 0 ki_0 dX11_init_116 ?_
  refine v_put (pc := 117) C cfX11 (ci := 11) rfl 0 12 (w' := ((((((((([(b, .inr (11, [.ref (a1 0), .ref (a2 0), .ref (a3 0), .ref (a4 0), .ref (a5 0), .ref (a6 0), .ref (a7 0), .ref (a8 0), .ref q9, .int 0, .long 0, .long 1, .int 0, .int 0, .int 0]))] ++ bBox E a1) ++ bPad E a2 pz) ++ bPad E a3 pz) ++ bPad E a4 pz) ++ bPad E a5 pz) ++ bLost E a6 zz) ++ bRows E a7 zz) ++ bReader E a8 zz) ++ [(q9, .inl (E.2.1, 12, .inl (fun _ => 0)))])) rfl rfl (by decide) wfX11_68 rfl rfl rfl rfl (Nat.le_of_ble_eq_true rfl) dX11_init_117 ?_
  refine v_aload_n (pc := 120) C 0 rfl rfl dX11_init_120 ?_
  refine v_iconst (pc := 121) C 0 ki_0 dX11_init_121 ?_
  refine v_put (pc := 122) C cfX11 (ci := 11) rfl 0 13 (w' := ((((((((([(b, .inr (11, [.ref (a1 0), .ref (a2 0), .ref (a3 0), .ref (a4 0), .ref (a5 0), .ref (a6 0), .ref (a7 0), .ref (a8 0), .ref q9, .int 0, .long 0, .long 1, .int 0, .int 0, .int 0]))] ++ bBox E a1) ++ bPad E a2 pz) ++ bPad E a3 pz) ++ bPad E a4 pz) ++ bPad E a5 pz) ++ bLost E a6 zz) ++ bRows E a7 zz) ++ bReader E a8 zz) ++ [(q9, .inl (E.2.1, 12, .inl (fun _ => 0)))])) rfl rfl (by decide) wfX11_71 rfl rfl rfl rfl (Nat.le_of_ble_eq_true rfl) dX11_init_122 ?_
  refine v_aload_n (pc := 125) C 0 rfl rfl dX11_init_125 ?_
  refine v_iconst (pc := 126) C 0 ki_0 dX11_init_126 ?_
  refine v_put (pc := 127) C cfX11 (ci := 11) rfl 0 14 (w' := ((((((((([(b, .inr (11, [.ref (a1 0), .ref (a2 0), .ref (a3 0), .ref (a4 0), .ref (a5 0), .ref (a6 0), .ref (a7 0), .ref (a8 0), .ref q9, .int 0, .long 0, .long 1, .int 0, .int 0, .int 0]))] ++ bBox E a1) ++ bPad E a2 pz) ++ bPad E a3 pz) ++ bPad E a4 pz) ++ bPad E a5 pz) ++ bLost E a6 zz) ++ bRows E a7 zz) ++ bReader E a8 zz) ++ [(q9, .inl (E.2.1, 12, .inl (fun _ => 0)))])) rfl rfl (by decide) wfX11_74 rfl rfl rfl rfl (Nat.le_of_ble_eq_true rfl) dX11_init_127 ?_
  refine v_pick (w' := wBig E (aBig b q9 a1 a2 a3 a4 a5 a6 a7 a8) tZ) [0, 55, 1, 2, 3, 4, 5, 6, 7, 8, 9, 10, 11, 12, 13, 14, 15, 16, 17, 18, 19, 20, 21, 22, 23, 24, 25, 26, 27, 28, 29, 30, 31, 32, 33, 34, 35, 36, 37, 38, 39, 40, 41, 42, 43, 44, 45, 46, 47, 48, 49, 50, 51, 52, 53, 54] rfl rfl ?_
  exact v_vretN (pc := 130) C (aBig b q9 a1 a2 a3 a4 a5 a6 a7 a8) hA rfl rfl dX11_init_130
def rmX12_init : Room := { frames := 1, cells := 11, slots := 4343, locals := 40 }
set_option maxHeartbeats 4000000 in
set_option maxRecDepth 100000 in
theorem ctX12_init (l : Launch) (E : VE) (b : Nat) (sz : Nat) : Met l yX12_init (mW yX12_init cX12_init 1 none) rmX12_init (CPreI E [.ref b] sz [(b, .inr (12, [.int 0, .int 0, .null, .int 0, .null, .null, .int 0, .long 0, .long 0, .null, .null, .int 0, .int 0, .int 0, .int 0, .int 0, .null, .int 0, .int 0, .int 0, .int 0, .int 0, .int 0, .null, .null, .null, .long 0, .null, .null, .long 0]))]) (CQn E (fun (a : Nat → Nat) => a 0 = b) (fun a => bModel E a xz) [(b, .inr (12, [.int 0, .int 0, .null, .int 0, .null, .null, .int 0, .long 0, .long 0, .null, .null, .int 0, .int 0, .int 0, .int 0, .int 0, .null, .int 0, .int 0, .int 0, .int 0, .int 0, .int 0, .null, .null, .null, .long 0, .null, .null, .long 0]))] sz) 11 4343 (va_A [(b, .inr (12, [.int 0, .int 0, .null, .int 0, .null, .null, .int 0, .long 0, .long 0, .null, .null, .int 0, .int 0, .int 0, .int 0, .int 0, .null, .int 0, .int 0, .int 0, .int 0, .int 0, .int 0, .null, .null, .null, .long 0, .null, .null, .long 0]))] sz) := by
  refine v_metI (by decide) (Nat.le_of_ble_eq_true rfl) ?_
  intro pr e s m below meth c A hsz hA C hAO hmn
  subst hsz
  refine v_aload_n (pc := 0) C 0 rfl rfl dX12_init_0 ?_
  refine v_objInit (pc := 1) C wmX12_1 (Nat.le_of_ble_eq_true rfl) (Nat.le_of_ble_eq_true rfl) dX12_init_1 ?_
  refine v_aload_n (pc := 4) C 0 rfl rfl dX12_init_4 ?_
  refine v_iconst (pc := 5) C 4 ki_4 dX12_init_5 ?_
  refine v_put (pc := 6) C cfX12 (ci := 12) rfl 0 0 (w' := [(b, .inr (12, [.int 4, .int 0, .null, .int 0, .null, .null, .int 0, .long 0, .long 0, .null, .null, .int 0, .int 0, .int 0, .int 0, .int 0, .null, .int 0, .int 0, .int 0, .int 0, .int 0, .int 0, .null, .null, .null, .long 0, .null, .null, .long 0]))]) rfl rfl (by decide) wfX12_7 rfl rfl rfl rfl (Nat.le_of_ble_eq_true rfl) dX12_init_6 ?_
  refine v_aload_n (pc := 9) C 0 rfl rfl dX12_init_9 ?_
  refine v_bipush (pc := 10) C 8 kb_8 dX12_init_10 ?_
  refine v_newi (pc := 12) C 8 (by decide) (by decide) (Nat.le_of_ble_eq_true rfl) (Nat.le_of_ble_eq_true rfl) (Nat.le_of_ble_eq_true rfl) dX12_init_12 (fun q1 => ?_)
  refine v_putF (pc := 14) C hmn cfX12 (ci := 12) rfl 0 2 (w' := ([(b, .inr (12, [.int 4, .int 0, .ref q1, .int 0, .null, .null, .int 0, .long 0, .long 0, .null, .null, .int 0, .int 0, .int 0, .int 0, .int 0, .null, .int 0, .int 0, .int 0, .int 0, .int 0, .int 0, .null, .null, .null, .long 0, .null, .null, .long 0]))] ++ [(q1, .inl (E.2.1, 8, .inl (fun _ => 0)))])) rfl rfl (by decide) wfX12_13 rfl rfl rfl rfl rfl (Nat.le_of_ble_eq_true rfl) dX12_init_14 ?_
  refine v_aload_n (pc := 17) C 0 rfl rfl dX12_init_17 ?_
  refine v_bipush (pc := 18) C 126 kb_126 dX12_init_18 ?_
  refine v_newi (pc := 20) C 126 (by decide) (by decide) (Nat.le_of_ble_eq_true rfl) (Nat.le_of_ble_eq_true rfl) (Nat.le_of_ble_eq_true rfl) dX12_init_20 (fun q2 => ?_)
  refine v_putF (pc := 22) C hmn cfX12 (ci := 12) rfl 0 4 (w' := (([(b, .inr (12, [.int 4, .int 0, .ref q1, .int 0, .ref q2, .null, .int 0, .long 0, .long 0, .null, .null, .int 0, .int 0, .int 0, .int 0, .int 0, .null, .int 0, .int 0, .int 0, .int 0, .int 0, .int 0, .null, .null, .null, .long 0, .null, .null, .long 0]))] ++ [(q1, .inl (E.2.1, 8, .inl (fun _ => 0)))]) ++ [(q2, .inl (E.2.1, 126, .inl (fun _ => 0)))])) rfl rfl (by decide) wfX12_17 rfl rfl rfl rfl rfl (Nat.le_of_ble_eq_true rfl) dX12_init_22 ?_
  refine v_aload_n (pc := 25) C 0 rfl rfl dX12_init_25 ?_
  refine v_sipush (pc := 26) C 1008 ks_1008 dX12_init_26 ?_
  refine v_newi (pc := 29) C 1008 (by decide) (by decide) (Nat.le_of_ble_eq_true rfl) (Nat.le_of_ble_eq_true rfl) (Nat.le_of_ble_eq_true rfl) dX12_init_29 (fun q3 => ?_)
  refine v_putF (pc := 31) C hmn cfX12 (ci := 12) rfl 0 5 (w' := ((([(b, .inr (12, [.int 4, .int 0, .ref q1, .int 0, .ref q2, .ref q3, .int 0, .long 0, .long 0, .null, .null, .int 0, .int 0, .int 0, .int 0, .int 0, .null, .int 0, .int 0, .int 0, .int 0, .int 0, .int 0, .null, .null, .null, .long 0, .null, .null, .long 0]))] ++ [(q1, .inl (E.2.1, 8, .inl (fun _ => 0)))]) ++ [(q2, .inl (E.2.1, 126, .inl (fun _ => 0)))]) ++ [(q3, .inl (E.2.1, 1008, .inl (fun _ => 0)))])) rfl rfl (by decide) wfX12_20 rfl rfl rfl rfl rfl (Nat.le_of_ble_eq_true rfl) dX12_init_31 ?_
  refine v_aload_n (pc := 34) C 0 rfl rfl dX12_init_34 ?_
  refine v_lconst (pc := 35) C 1 kl_1 dX12_init_35 ?_
  refine v_put (pc := 36) C cfX12 (ci := 12) rfl 0 8 (w' := ((([(b, .inr (12, [.int 4, .int 0, .ref q1, .int 0, .ref q2, .ref q3, .int 0, .long 0, .long 1, .null, .null, .int 0, .int 0, .int 0, .int 0, .int 0, .null, .int 0, .int 0, .int 0, .int 0, .int 0, .int 0, .null, .null, .null, .long 0, .null, .null, .long 0]))] ++ [(q1, .inl (E.2.1, 8, .inl (fun _ => 0)))]) ++ [(q2, .inl (E.2.1, 126, .inl (fun _ => 0)))]) ++ [(q3, .inl (E.2.1, 1008, .inl (fun _ => 0)))])) rfl rfl (by decide) wfX12_23 rfl rfl rfl rfl (Nat.le_of_ble_eq_true rfl) dX12_init_36 ?_
  refine v_aload_n (pc := 39) C 0 rfl rfl dX12_init_39 ?_
  refine v_iconst (pc := 40) C 3 ki_3 dX12_init_40 ?_
  refine v_newi (pc := 41) C 3 (by decide) (by decide) (Nat.le_of_ble_eq_true rfl) (Nat.le_of_ble_eq_true rfl) (Nat.le_of_ble_eq_true rfl) dX12_init_41 (fun q4 => ?_)
  refine v_putF (pc := 43) C hmn cfX12 (ci := 12) rfl 0 9 (w' := (((([(b, .inr (12, [.int 4, .int 0, .ref q1, .int 0, .ref q2, .ref q3, .int 0, .long 0, .long 1, .ref q4, .null, .int 0, .int 0, .int 0, .int 0, .int 0, .null, .int 0, .int 0, .int 0, .int 0, .int 0, .int 0, .null, .null, .null, .long 0, .null, .null, .long 0]))] ++ [(q1, .inl (E.2.1, 8, .inl (fun _ => 0)))]) ++ [(q2, .inl (E.2.1, 126, .inl (fun _ => 0)))]) ++ [(q3, .inl (E.2.1, 1008, .inl (fun _ => 0)))]) ++ [(q4, .inl (E.2.1, 3, .inl (fun _ => 0)))])) rfl rfl (by decide) wfX12_27 rfl rfl rfl rfl rfl (Nat.le_of_ble_eq_true rfl) dX12_init_43 ?_
  refine v_aload_n (pc := 46) C 0 rfl rfl dX12_init_46 ?_
  refine v_sipush (pc := 47) C 150 ks_150 dX12_init_47 ?_
  refine v_newi (pc := 50) C 150 (by decide) (by decide) (Nat.le_of_ble_eq_true rfl) (Nat.le_of_ble_eq_true rfl) (Nat.le_of_ble_eq_true rfl) dX12_init_50 (fun q5 => ?_)
  refine v_putF (pc := 52) C hmn cfX12 (ci := 12) rfl 0 10 (w' := ((((([(b, .inr (12, [.int 4, .int 0, .ref q1, .int 0, .ref q2, .ref q3, .int 0, .long 0, .long 1, .ref q4, .ref q5, .int 0, .int 0, .int 0, .int 0, .int 0, .null, .int 0, .int 0, .int 0, .int 0, .int 0, .int 0, .null, .null, .null, .long 0, .null, .null, .long 0]))] ++ [(q1, .inl (E.2.1, 8, .inl (fun _ => 0)))]) ++ [(q2, .inl (E.2.1, 126, .inl (fun _ => 0)))]) ++ [(q3, .inl (E.2.1, 1008, .inl (fun _ => 0)))]) ++ [(q4, .inl (E.2.1, 3, .inl (fun _ => 0)))]) ++ [(q5, .inl (E.2.1, 150, .inl (fun _ => 0)))])) rfl rfl (by decide) wfX12_30 rfl rfl rfl rfl rfl (Nat.le_of_ble_eq_true rfl) dX12_init_52 ?_
  refine v_aload_n (pc := 55) C 0 rfl rfl dX12_init_55 ?_
  refine v_sipush (pc := 56) C 600 ks_600 dX12_init_56 ?_
  refine v_newi (pc := 59) C 600 (by decide) (by decide) (Nat.le_of_ble_eq_true rfl) (Nat.le_of_ble_eq_true rfl) (Nat.le_of_ble_eq_true rfl) dX12_init_59 (fun q6 => ?_)
  refine v_putF (pc := 61) C hmn cfX12 (ci := 12) rfl 0 16 (w' := (((((([(b, .inr (12, [.int 4, .int 0, .ref q1, .int 0, .ref q2, .ref q3, .int 0, .long 0, .long 1, .ref q4, .ref q5, .int 0, .int 0, .int 0, .int 0, .int 0, .ref q6, .int 0, .int 0, .int 0, .int 0, .int 0, .int 0, .null, .null, .null, .long 0, .null, .null, .long 0]))] ++ [(q1, .inl (E.2.1, 8, .inl (fun _ => 0)))]) ++ [(q2, .inl (E.2.1, 126, .inl (fun _ => 0)))]) ++ [(q3, .inl (E.2.1, 1008, .inl (fun _ => 0)))]) ++ [(q4, .inl (E.2.1, 3, .inl (fun _ => 0)))]) ++ [(q5, .inl (E.2.1, 150, .inl (fun _ => 0)))]) ++ [(q6, .inl (E.2.1, 600, .inl (fun _ => 0)))])) rfl rfl (by decide) wfX12_33 rfl rfl rfl rfl rfl (Nat.le_of_ble_eq_true rfl) dX12_init_61 ?_
  refine v_aload_n (pc := 64) C 0 rfl rfl dX12_init_64 ?_
  refine v_bipush (pc := 65) C 6 kb_6 dX12_init_65 ?_
  refine v_newi (pc := 67) C 6 (by decide) (by decide) (Nat.le_of_ble_eq_true rfl) (Nat.le_of_ble_eq_true rfl) (Nat.le_of_ble_eq_true rfl) dX12_init_67 (fun q7 => ?_)
  refine v_putF (pc := 69) C hmn cfX12 (ci := 12) rfl 0 23 (w' := ((((((([(b, .inr (12, [.int 4, .int 0, .ref q1, .int 0, .ref q2, .ref q3, .int 0, .long 0, .long 1, .ref q4, .ref q5, .int 0, .int 0, .int 0, .int 0, .int 0, .ref q6, .int 0, .int 0, .int 0, .int 0, .int 0, .int 0, .ref q7, .null, .null, .long 0, .null, .null, .long 0]))] ++ [(q1, .inl (E.2.1, 8, .inl (fun _ => 0)))]) ++ [(q2, .inl (E.2.1, 126, .inl (fun _ => 0)))]) ++ [(q3, .inl (E.2.1, 1008, .inl (fun _ => 0)))]) ++ [(q4, .inl (E.2.1, 3, .inl (fun _ => 0)))]) ++ [(q5, .inl (E.2.1, 150, .inl (fun _ => 0)))]) ++ [(q6, .inl (E.2.1, 600, .inl (fun _ => 0)))]) ++ [(q7, .inl (E.2.1, 6, .inl (fun _ => 0)))])) rfl rfl (by decide) wfX12_36 rfl rfl rfl rfl rfl (Nat.le_of_ble_eq_true rfl) dX12_init_69 ?_
  refine v_aload_n (pc := 72) C 0 rfl rfl dX12_init_72 ?_
  refine v_bipush (pc := 73) C 6 kb_6 dX12_init_73 ?_
  refine v_newi (pc := 75) C 6 (by decide) (by decide) (Nat.le_of_ble_eq_true rfl) (Nat.le_of_ble_eq_true rfl) (Nat.le_of_ble_eq_true rfl) dX12_init_75 (fun q8 => ?_)
  refine v_putF (pc := 77) C hmn cfX12 (ci := 12) rfl 0 24 (w' := (((((((([(b, .inr (12, [.int 4, .int 0, .ref q1, .int 0, .ref q2, .ref q3, .int 0, .long 0, .long 1, .ref q4, .ref q5, .int 0, .int 0, .int 0, .int 0, .int 0, .ref q6, .int 0, .int 0, .int 0, .int 0, .int 0, .int 0, .ref q7, .ref q8, .null, .long 0, .null, .null, .long 0]))] ++ [(q1, .inl (E.2.1, 8, .inl (fun _ => 0)))]) ++ [(q2, .inl (E.2.1, 126, .inl (fun _ => 0)))]) ++ [(q3, .inl (E.2.1, 1008, .inl (fun _ => 0)))]) ++ [(q4, .inl (E.2.1, 3, .inl (fun _ => 0)))]) ++ [(q5, .inl (E.2.1, 150, .inl (fun _ => 0)))]) ++ [(q6, .inl (E.2.1, 600, .inl (fun _ => 0)))]) ++ [(q7, .inl (E.2.1, 6, .inl (fun _ => 0)))]) ++ [(q8, .inl (E.2.1, 6, .inl (fun _ => 0)))])) rfl rfl (by decide) wfX12_39 rfl rfl rfl rfl rfl (Nat.le_of_ble_eq_true rfl) dX12_init_77 ?_
  refine v_aload_n (pc := 80) C 0 rfl rfl dX12_init_80 ?_
  refine v_bipush (pc := 81) C 126 kb_126 dX12_init_81 ?_
  refine v_newi (pc := 83) C 126 (by decide) (by decide) (Nat.le_of_ble_eq_true rfl) (Nat.le_of_ble_eq_true rfl) (Nat.le_of_ble_eq_true rfl) dX12_init_83 (fun q9 => ?_)
  refine v_putF (pc := 85) C hmn cfX12 (ci := 12) rfl 0 25 (w' := ((((((((([(b, .inr (12, [.int 4, .int 0, .ref q1, .int 0, .ref q2, .ref q3, .int 0, .long 0, .long 1, .ref q4, .ref q5, .int 0, .int 0, .int 0, .int 0, .int 0, .ref q6, .int 0, .int 0, .int 0, .int 0, .int 0, .int 0, .ref q7, .ref q8, .ref q9, .long 0, .null, .null, .long 0]))] ++ [(q1, .inl (E.2.1, 8, .inl (fun _ => 0)))]) ++ [(q2, .inl (E.2.1, 126, .inl (fun _ => 0)))]) ++ [(q3, .inl (E.2.1, 1008, .inl (fun _ => 0)))]) ++ [(q4, .inl (E.2.1, 3, .inl (fun _ => 0)))]) ++ [(q5, .inl (E.2.1, 150, .inl (fun _ => 0)))]) ++ [(q6, .inl (E.2.1, 600, .inl (fun _ => 0)))]) ++ [(q7, .inl (E.2.1, 6, .inl (fun _ => 0)))]) ++ [(q8, .inl (E.2.1, 6, .inl (fun _ => 0)))]) ++ [(q9, .inl (E.2.1, 126, .inl (fun _ => 0)))])) rfl rfl (by decide) wfX12_42 rfl rfl rfl rfl rfl (Nat.le_of_ble_eq_true rfl) dX12_init_85 ?_
  refine v_aload_n (pc := 88) C 0 rfl rfl dX12_init_88 ?_
  refine v_iconst (pc := 89) C 2 ki_2 dX12_init_89 ?_
  refine v_newz (pc := 90) C 2 (by decide) (by decide) (Nat.le_of_ble_eq_true rfl) (Nat.le_of_ble_eq_true rfl) (Nat.le_of_ble_eq_true rfl) dX12_init_90 (fun q10 => ?_)
  refine v_putF (pc := 92) C hmn cfX12 (ci := 12) rfl 0 27 (w' := (((((((((([(b, .inr (12, [.int 4, .int 0, .ref q1, .int 0, .ref q2, .ref q3, .int 0, .long 0, .long 1, .ref q4, .ref q5, .int 0, .int 0, .int 0, .int 0, .int 0, .ref q6, .int 0, .int 0, .int 0, .int 0, .int 0, .int 0, .ref q7, .ref q8, .ref q9, .long 0, .ref q10, .null, .long 0]))] ++ [(q1, .inl (E.2.1, 8, .inl (fun _ => 0)))]) ++ [(q2, .inl (E.2.1, 126, .inl (fun _ => 0)))]) ++ [(q3, .inl (E.2.1, 1008, .inl (fun _ => 0)))]) ++ [(q4, .inl (E.2.1, 3, .inl (fun _ => 0)))]) ++ [(q5, .inl (E.2.1, 150, .inl (fun _ => 0)))]) ++ [(q6, .inl (E.2.1, 600, .inl (fun _ => 0)))]) ++ [(q7, .inl (E.2.1, 6, .inl (fun _ => 0)))]) ++ [(q8, .inl (E.2.1, 6, .inl (fun _ => 0)))]) ++ [(q9, .inl (E.2.1, 126, .inl (fun _ => 0)))]) ++ [(q10, .inl (E.2.2.1, 2, .inl (fun _ => 0)))])) rfl rfl (by decide) wfX12_45 rfl rfl rfl rfl rfl (Nat.le_of_ble_eq_true rfl) dX12_init_92 ?_
  refine v_aload_n (pc := 95) C 0 rfl rfl dX12_init_95 ?_
  refine v_sipush (pc := 96) C 2308 ks_2308 dX12_init_96 ?_
  refine v_newi (pc := 99) C 2308 (by decide) (by decide) (Nat.le_of_ble_eq_true rfl) (Nat.le_of_ble_eq_true rfl) (Nat.le_of_ble_eq_true rfl) dX12_init_99 (fun q11 => ?_)
  refine v_putF (pc := 101) C hmn cfX12 (ci := 12) rfl 0 28 (w' := ((((((((((([(b, .inr (12, [.int 4, .int 0, .ref q1, .int 0, .ref q2, .ref q3, .int 0, .long 0, .long 1, .ref q4, .ref q5, .int 0, .int 0, .int 0, .int 0, .int 0, .ref q6, .int 0, .int 0, .int 0, .int 0, .int 0, .int 0, .ref q7, .ref q8, .ref q9, .long 0, .ref q10, .ref q11, .long 0]))] ++ [(q1, .inl (E.2.1, 8, .inl (fun _ => 0)))]) ++ [(q2, .inl (E.2.1, 126, .inl (fun _ => 0)))]) ++ [(q3, .inl (E.2.1, 1008, .inl (fun _ => 0)))]) ++ [(q4, .inl (E.2.1, 3, .inl (fun _ => 0)))]) ++ [(q5, .inl (E.2.1, 150, .inl (fun _ => 0)))]) ++ [(q6, .inl (E.2.1, 600, .inl (fun _ => 0)))]) ++ [(q7, .inl (E.2.1, 6, .inl (fun _ => 0)))]) ++ [(q8, .inl (E.2.1, 6, .inl (fun _ => 0)))]) ++ [(q9, .inl (E.2.1, 126, .inl (fun _ => 0)))]) ++ [(q10, .inl (E.2.2.1, 2, .inl (fun _ => 0)))]) ++ [(q11, .inl (E.2.1, 2308, .inl (fun _ => 0)))])) rfl rfl (by decide) wfX12_49 rfl rfl rfl rfl rfl (Nat.le_of_ble_eq_true rfl) dX12_init_101 ?_
  exact v_vretN (pc := 104) C (fun k => match k with | 0 => b | 1 => q1 | 2 => q2 | 3 => q3 | 4 => q4 | 5 => q5 | 6 => q6 | 7 => q7 | 8 => q8 | 9 => q9 | 10 => q10 | _ => q11) hA rfl rfl dX12_init_104

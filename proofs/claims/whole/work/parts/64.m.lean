section
variable {pr : Program} {l : Launch} {e : Env} {s : State} {m : MethodId} {args : Array Value} {below : List Frame} {meth : Method} {c : Code} {E : VE} {A : Nat → Prop} {w0 : va_W}
theorem dX12_exchange_0 : decode cX12_exchange 0 = .ok (.aload_n 0, 1) := by decide +kernel
theorem dX12_exchange_1 : decode cX12_exchange 1 = .ok (.getfield 36, 3) := by decide +kernel
theorem dX12_exchange_4 : decode cX12_exchange 4 = .ok (.iload_n 1, 1) := by decide +kernel
theorem dX12_exchange_5 : decode cX12_exchange 5 = .ok (.iaload, 1) := by decide +kernel
theorem dX12_exchange_6 : decode cX12_exchange 6 = .ok (.istore_n 3, 1) := by decide +kernel
theorem dX12_exchange_7 : decode cX12_exchange 7 = .ok (.aload_n 0, 1) := by decide +kernel
theorem dX12_exchange_8 : decode cX12_exchange 8 = .ok (.getfield 36, 3) := by decide +kernel
theorem dX12_exchange_11 : decode cX12_exchange 11 = .ok (.iload_n 1, 1) := by decide +kernel
theorem dX12_exchange_12 : decode cX12_exchange 12 = .ok (.aload_n 0, 1) := by decide +kernel
theorem dX12_exchange_13 : decode cX12_exchange 13 = .ok (.getfield 36, 3) := by decide +kernel
theorem dX12_exchange_16 : decode cX12_exchange 16 = .ok (.iload_n 2, 1) := by decide +kernel
theorem dX12_exchange_17 : decode cX12_exchange 17 = .ok (.iaload, 1) := by decide +kernel
theorem dX12_exchange_18 : decode cX12_exchange 18 = .ok (.iastore, 1) := by decide +kernel
theorem dX12_exchange_19 : decode cX12_exchange 19 = .ok (.aload_n 0, 1) := by decide +kernel
theorem dX12_exchange_20 : decode cX12_exchange 20 = .ok (.getfield 36, 3) := by decide +kernel
theorem dX12_exchange_23 : decode cX12_exchange 23 = .ok (.iload_n 2, 1) := by decide +kernel
theorem dX12_exchange_24 : decode cX12_exchange 24 = .ok (.iload_n 3, 1) := by decide +kernel
theorem dX12_exchange_25 : decode cX12_exchange 25 = .ok (.iastore, 1) := by decide +kernel
theorem dX12_exchange_26 : decode cX12_exchange 26 = .ok (.return_, 1) := by decide +kernel
theorem dX12_nextRow_0 : decode cX12_nextRow 0 = .ok (.aload_n 0, 1) := by decide +kernel
theorem dX12_nextRow_1 : decode cX12_nextRow 1 = .ok (.getfield 7, 3) := by decide +kernel
theorem dX12_nextRow_4 : decode cX12_nextRow 4 = .ok (.iconst 2, 1) := by decide +kernel
theorem dX12_nextRow_5 : decode cX12_nextRow 5 = .ok (.isub, 1) := by decide +kernel
theorem dX12_nextRow_6 : decode cX12_nextRow 6 = .ok (.istore_n 1, 1) := by decide +kernel
theorem dX12_nextRow_7 : decode cX12_nextRow 7 = .ok (.iload_n 1, 1) := by decide +kernel
theorem dX12_nextRow_8 : decode cX12_nextRow 8 = .ok (.ifCond .lt 26, 3) := by decide +kernel
theorem dX12_nextRow_11 : decode cX12_nextRow 11 = .ok (.aload_n 0, 1) := by decide +kernel
theorem dX12_nextRow_12 : decode cX12_nextRow 12 = .ok (.getfield 36, 3) := by decide +kernel
theorem dX12_nextRow_15 : decode cX12_nextRow 15 = .ok (.iload_n 1, 1) := by decide +kernel
theorem dX12_nextRow_16 : decode cX12_nextRow 16 = .ok (.iaload, 1) := by decide +kernel
theorem dX12_nextRow_17 : decode cX12_nextRow 17 = .ok (.aload_n 0, 1) := by decide +kernel
theorem dX12_nextRow_18 : decode cX12_nextRow 18 = .ok (.getfield 36, 3) := by decide +kernel
theorem dX12_nextRow_21 : decode cX12_nextRow 21 = .ok (.iload_n 1, 1) := by decide +kernel
theorem dX12_nextRow_22 : decode cX12_nextRow 22 = .ok (.iconst 1, 1) := by decide +kernel
theorem dX12_nextRow_23 : decode cX12_nextRow 23 = .ok (.iadd, 1) := by decide +kernel
theorem dX12_nextRow_24 : decode cX12_nextRow 24 = .ok (.iaload, 1) := by decide +kernel
theorem dX12_nextRow_25 : decode cX12_nextRow 25 = .ok (.if_icmp .le 9, 3) := by decide +kernel
theorem dX12_nextRow_28 : decode cX12_nextRow 28 = .ok (.iinc 1 (-1), 3) := by decide +kernel
theorem dX12_nextRow_31 : decode cX12_nextRow 31 = .ok (.goto (-24), 3) := by decide +kernel
theorem dX12_nextRow_34 : decode cX12_nextRow 34 = .ok (.iload_n 1, 1) := by decide +kernel
theorem dX12_nextRow_35 : decode cX12_nextRow 35 = .ok (.ifCond .ge 5, 3) := by decide +kernel
theorem dX12_nextRow_38 : decode cX12_nextRow 38 = .ok (.iconst 0, 1) := by decide +kernel
theorem dX12_nextRow_39 : decode cX12_nextRow 39 = .ok (.ireturn, 1) := by decide +kernel
theorem dX12_nextRow_40 : decode cX12_nextRow 40 = .ok (.aload_n 0, 1) := by decide +kernel
theorem dX12_nextRow_41 : decode cX12_nextRow 41 = .ok (.getfield 7, 3) := by decide +kernel
theorem dX12_nextRow_44 : decode cX12_nextRow 44 = .ok (.iconst 1, 1) := by decide +kernel
theorem dX12_nextRow_45 : decode cX12_nextRow 45 = .ok (.isub, 1) := by decide +kernel
theorem dX12_nextRow_46 : decode cX12_nextRow 46 = .ok (.istore_n 2, 1) := by decide +kernel
theorem dX12_nextRow_47 : decode cX12_nextRow 47 = .ok (.aload_n 0, 1) := by decide +kernel
theorem dX12_nextRow_48 : decode cX12_nextRow 48 = .ok (.getfield 36, 3) := by decide +kernel
theorem dX12_nextRow_51 : decode cX12_nextRow 51 = .ok (.iload_n 2, 1) := by decide +kernel
theorem dX12_nextRow_52 : decode cX12_nextRow 52 = .ok (.iaload, 1) := by decide +kernel
theorem dX12_nextRow_53 : decode cX12_nextRow 53 = .ok (.aload_n 0, 1) := by decide +kernel
theorem dX12_nextRow_54 : decode cX12_nextRow 54 = .ok (.getfield 36, 3) := by decide +kernel
theorem dX12_nextRow_57 : decode cX12_nextRow 57 = .ok (.iload_n 1, 1) := by decide +kernel
theorem dX12_nextRow_58 : decode cX12_nextRow 58 = .ok (.iaload, 1) := by decide +kernel
theorem dX12_nextRow_59 : decode cX12_nextRow 59 = .ok (.if_icmp .ge 9, 3) := by decide +kernel
theorem dX12_nextRow_62 : decode cX12_nextRow 62 = .ok (.iinc 2 (-1), 3) := by decide +kernel
theorem dX12_nextRow_65 : decode cX12_nextRow 65 = .ok (.goto (-18), 3) := by decide +kernel
theorem dX12_nextRow_68 : decode cX12_nextRow 68 = .ok (.aload_n 0, 1) := by decide +kernel
theorem dX12_nextRow_69 : decode cX12_nextRow 69 = .ok (.iload_n 1, 1) := by decide +kernel
theorem dX12_nextRow_70 : decode cX12_nextRow 70 = .ok (.iload_n 2, 1) := by decide +kernel
theorem dX12_nextRow_71 : decode cX12_nextRow 71 = .ok (.invokevirtual 214, 3) := by decide +kernel
theorem dX12_nextRow_74 : decode cX12_nextRow 74 = .ok (.aload_n 0, 1) := by decide +kernel
theorem dX12_nextRow_75 : decode cX12_nextRow 75 = .ok (.getfield 7, 3) := by decide +kernel
theorem dX12_nextRow_78 : decode cX12_nextRow 78 = .ok (.iconst 1, 1) := by decide +kernel
theorem dX12_nextRow_79 : decode cX12_nextRow 79 = .ok (.isub, 1) := by decide +kernel
theorem dX12_nextRow_80 : decode cX12_nextRow 80 = .ok (.istore_n 3, 1) := by decide +kernel
theorem dX12_nextRow_81 : decode cX12_nextRow 81 = .ok (.iload_n 1, 1) := by decide +kernel
theorem dX12_nextRow_82 : decode cX12_nextRow 82 = .ok (.iconst 1, 1) := by decide +kernel
theorem dX12_nextRow_83 : decode cX12_nextRow 83 = .ok (.iadd, 1) := by decide +kernel
theorem dX12_nextRow_84 : decode cX12_nextRow 84 = .ok (.istore 4, 2) := by decide +kernel
theorem dX12_nextRow_86 : decode cX12_nextRow 86 = .ok (.iload 4, 2) := by decide +kernel
theorem dX12_nextRow_88 : decode cX12_nextRow 88 = .ok (.iload_n 3, 1) := by decide +kernel
theorem dX12_nextRow_89 : decode cX12_nextRow 89 = .ok (.if_icmp .ge 19, 3) := by decide +kernel
theorem dX12_nextRow_92 : decode cX12_nextRow 92 = .ok (.aload_n 0, 1) := by decide +kernel
theorem dX12_nextRow_93 : decode cX12_nextRow 93 = .ok (.iload 4, 2) := by decide +kernel
theorem dX12_nextRow_95 : decode cX12_nextRow 95 = .ok (.iload_n 3, 1) := by decide +kernel
theorem dX12_nextRow_96 : decode cX12_nextRow 96 = .ok (.invokevirtual 214, 3) := by decide +kernel
theorem dX12_nextRow_99 : decode cX12_nextRow 99 = .ok (.iinc 3 (-1), 3) := by decide +kernel
theorem dX12_nextRow_102 : decode cX12_nextRow 102 = .ok (.iinc 4 1, 3) := by decide +kernel
theorem dX12_nextRow_105 : decode cX12_nextRow 105 = .ok (.goto (-19), 3) := by decide +kernel
theorem dX12_nextRow_108 : decode cX12_nextRow 108 = .ok (.iconst 1, 1) := by decide +kernel
theorem dX12_nextRow_109 : decode cX12_nextRow 109 = .ok (.ireturn, 1) := by decide +kernel
theorem dX12_placeOf_0 : decode cX12_placeOf 0 = .ok (.iconst 0, 1) := by decide +kernel
theorem dX12_placeOf_1 : decode cX12_placeOf 1 = .ok (.istore_n 2, 1) := by decide +kernel
theorem dX12_placeOf_2 : decode cX12_placeOf 2 = .ok (.aload_n 0, 1) := by decide +kernel
theorem dX12_placeOf_3 : decode cX12_placeOf 3 = .ok (.getfield 36, 3) := by decide +kernel
theorem dX12_placeOf_6 : decode cX12_placeOf 6 = .ok (.iload_n 2, 1) := by decide +kernel
theorem dX12_placeOf_7 : decode cX12_placeOf 7 = .ok (.iaload, 1) := by decide +kernel
theorem dX12_placeOf_8 : decode cX12_placeOf 8 = .ok (.iload_n 1, 1) := by decide +kernel
theorem dX12_placeOf_9 : decode cX12_placeOf 9 = .ok (.if_icmp .eq 9, 3) := by decide +kernel
theorem dX12_placeOf_12 : decode cX12_placeOf 12 = .ok (.iinc 2 1, 3) := by decide +kernel
theorem dX12_placeOf_15 : decode cX12_placeOf 15 = .ok (.goto (-13), 3) := by decide +kernel
theorem dX12_placeOf_18 : decode cX12_placeOf 18 = .ok (.iload_n 2, 1) := by decide +kernel
theorem dX12_placeOf_19 : decode cX12_placeOf 19 = .ok (.ireturn, 1) := by decide +kernel
theorem dX12_isRow_0 : decode cX12_isRow 0 = .ok (.iconst 0, 1) := by decide +kernel
theorem dX12_isRow_1 : decode cX12_isRow 1 = .ok (.istore_n 1, 1) := by decide +kernel
theorem dX12_isRow_2 : decode cX12_isRow 2 = .ok (.iload_n 1, 1) := by decide +kernel
theorem dX12_isRow_3 : decode cX12_isRow 3 = .ok (.bipush 12, 2) := by decide +kernel
theorem dX12_isRow_5 : decode cX12_isRow 5 = .ok (.aload_n 0, 1) := by decide +kernel
theorem dX12_isRow_6 : decode cX12_isRow 6 = .ok (.getfield 7, 3) := by decide +kernel
theorem dX12_isRow_9 : decode cX12_isRow 9 = .ok (.imul, 1) := by decide +kernel
theorem dX12_isRow_10 : decode cX12_isRow 10 = .ok (.if_icmp .ge 146, 3) := by decide +kernel
theorem dX12_isRow_13 : decode cX12_isRow 13 = .ok (.iload_n 1, 1) := by decide +kernel
theorem dX12_isRow_14 : decode cX12_isRow 14 = .ok (.bipush 12, 2) := by decide +kernel
theorem dX12_isRow_16 : decode cX12_isRow 16 = .ok (.idiv, 1) := by decide +kernel
theorem dX12_isRow_17 : decode cX12_isRow 17 = .ok (.istore_n 2, 1) := by decide +kernel
theorem dX12_isRow_18 : decode cX12_isRow 18 = .ok (.iconst 0, 1) := by decide +kernel
theorem dX12_isRow_19 : decode cX12_isRow 19 = .ok (.istore_n 3, 1) := by decide +kernel
theorem dX12_isRow_20 : decode cX12_isRow 20 = .ok (.iconst 0, 1) := by decide +kernel
theorem dX12_isRow_21 : decode cX12_isRow 21 = .ok (.istore 4, 2) := by decide +kernel
theorem dX12_isRow_23 : decode cX12_isRow 23 = .ok (.iload 4, 2) := by decide +kernel
theorem dX12_isRow_25 : decode cX12_isRow 25 = .ok (.aload_n 0, 1) := by decide +kernel
theorem dX12_isRow_26 : decode cX12_isRow 26 = .ok (.getfield 17, 3) := by decide +kernel
theorem dX12_isRow_29 : decode cX12_isRow 29 = .ok (.bipush 124, 2) := by decide +kernel
theorem dX12_isRow_31 : decode cX12_isRow 31 = .ok (.iaload, 1) := by decide +kernel
theorem dX12_isRow_32 : decode cX12_isRow 32 = .ok (.if_icmp .ge 103, 3) := by decide +kernel
theorem dX12_isRow_35 : decode cX12_isRow 35 = .ok (.bipush 84, 2) := by decide +kernel
theorem dX12_isRow_37 : decode cX12_isRow 37 = .ok (.iconst 4, 1) := by decide +kernel
theorem dX12_isRow_38 : decode cX12_isRow 38 = .ok (.iload 4, 2) := by decide +kernel
theorem dX12_isRow_40 : decode cX12_isRow 40 = .ok (.imul, 1) := by decide +kernel
theorem dX12_isRow_41 : decode cX12_isRow 41 = .ok (.iadd, 1) := by decide +kernel
theorem dX12_isRow_42 : decode cX12_isRow 42 = .ok (.istore 5, 2) := by decide +kernel
theorem dX12_isRow_44 : decode cX12_isRow 44 = .ok (.aload_n 0, 1) := by decide +kernel
theorem dX12_isRow_45 : decode cX12_isRow 45 = .ok (.iload_n 2, 1) := by decide +kernel
theorem dX12_isRow_46 : decode cX12_isRow 46 = .ok (.invokevirtual 218, 3) := by decide +kernel
theorem dX12_isRow_49 : decode cX12_isRow 49 = .ok (.aload_n 0, 1) := by decide +kernel
theorem dX12_isRow_50 : decode cX12_isRow 50 = .ok (.aload_n 0, 1) := by decide +kernel
theorem dX12_isRow_51 : decode cX12_isRow 51 = .ok (.getfield 17, 3) := by decide +kernel
theorem dX12_isRow_54 : decode cX12_isRow 54 = .ok (.iload 5, 2) := by decide +kernel
theorem dX12_isRow_56 : decode cX12_isRow 56 = .ok (.iconst 3, 1) := by decide +kernel
theorem dX12_isRow_57 : decode cX12_isRow 57 = .ok (.iadd, 1) := by decide +kernel
theorem dX12_isRow_58 : decode cX12_isRow 58 = .ok (.iaload, 1) := by decide +kernel
theorem dX12_isRow_59 : decode cX12_isRow 59 = .ok (.invokevirtual 218, 3) := by decide +kernel
theorem dX12_isRow_62 : decode cX12_isRow 62 = .ok (.isub, 1) := by decide +kernel
theorem dX12_isRow_63 : decode cX12_isRow 63 = .ok (.istore 6, 2) := by decide +kernel
theorem dX12_isRow_65 : decode cX12_isRow 65 = .ok (.iload 6, 2) := by decide +kernel
theorem dX12_isRow_67 : decode cX12_isRow 67 = .ok (.ifCond .lt 46, 3) := by decide +kernel
theorem dX12_isRow_70 : decode cX12_isRow 70 = .ok (.aload_n 0, 1) := by decide +kernel
theorem dX12_isRow_71 : decode cX12_isRow 71 = .ok (.getfield 17, 3) := by decide +kernel
theorem dX12_isRow_74 : decode cX12_isRow 74 = .ok (.iload 5, 2) := by decide +kernel
theorem dX12_isRow_76 : decode cX12_isRow 76 = .ok (.iconst 2, 1) := by decide +kernel
theorem dX12_isRow_77 : decode cX12_isRow 77 = .ok (.iadd, 1) := by decide +kernel
theorem dX12_isRow_78 : decode cX12_isRow 78 = .ok (.iaload, 1) := by decide +kernel
theorem dX12_isRow_79 : decode cX12_isRow 79 = .ok (.iload_n 1, 1) := by decide +kernel
theorem dX12_isRow_80 : decode cX12_isRow 80 = .ok (.bipush 12, 2) := by decide +kernel
theorem dX12_isRow_82 : decode cX12_isRow 82 = .ok (.irem, 1) := by decide +kernel
theorem dX12_isRow_83 : decode cX12_isRow 83 = .ok (.invokestatic 93, 3) := by decide +kernel
theorem dX12_isRow_86 : decode cX12_isRow 86 = .ok (.ifCond .eq 27, 3) := by decide +kernel
theorem dX12_isRow_89 : decode cX12_isRow 89 = .ok (.aload_n 0, 1) := by decide +kernel
theorem dX12_isRow_90 : decode cX12_isRow 90 = .ok (.getfield 17, 3) := by decide +kernel
theorem dX12_isRow_93 : decode cX12_isRow 93 = .ok (.iload 5, 2) := by decide +kernel
theorem dX12_isRow_95 : decode cX12_isRow 95 = .ok (.iaload, 1) := by decide +kernel
theorem dX12_isRow_96 : decode cX12_isRow 96 = .ok (.aload_n 0, 1) := by decide +kernel
theorem dX12_isRow_97 : decode cX12_isRow 97 = .ok (.getfield 17, 3) := by decide +kernel
theorem dX12_isRow_100 : decode cX12_isRow 100 = .ok (.iload 5, 2) := by decide +kernel
theorem dX12_isRow_102 : decode cX12_isRow 102 = .ok (.iconst 1, 1) := by decide +kernel
theorem dX12_isRow_103 : decode cX12_isRow 103 = .ok (.iadd, 1) := by decide +kernel
theorem dX12_isRow_104 : decode cX12_isRow 104 = .ok (.iaload, 1) := by decide +kernel
theorem dX12_isRow_105 : decode cX12_isRow 105 = .ok (.iload 6, 2) := by decide +kernel
theorem dX12_isRow_107 : decode cX12_isRow 107 = .ok (.invokestatic 89, 3) := by decide +kernel
theorem dX12_isRow_110 : decode cX12_isRow 110 = .ok (.goto 4, 3) := by decide +kernel
theorem dX12_isRow_113 : decode cX12_isRow 113 = .ok (.iconst 0, 1) := by decide +kernel
theorem dX12_isRow_114 : decode cX12_isRow 114 = .ok (.istore 7, 2) := by decide +kernel
theorem dX12_isRow_116 : decode cX12_isRow 116 = .ok (.iload 7, 2) := by decide +kernel
theorem dX12_isRow_118 : decode cX12_isRow 118 = .ok (.iload_n 3, 1) := by decide +kernel
theorem dX12_isRow_119 : decode cX12_isRow 119 = .ok (.if_icmp .le 8, 3) := by decide +kernel
theorem dX12_isRow_122 : decode cX12_isRow 122 = .ok (.iload 7, 2) := by decide +kernel
theorem dX12_isRow_124 : decode cX12_isRow 124 = .ok (.goto 4, 3) := by decide +kernel
theorem dX12_isRow_127 : decode cX12_isRow 127 = .ok (.iload_n 3, 1) := by decide +kernel
theorem dX12_isRow_128 : decode cX12_isRow 128 = .ok (.istore_n 3, 1) := by decide +kernel
theorem dX12_isRow_129 : decode cX12_isRow 129 = .ok (.iinc 4 1, 3) := by decide +kernel
theorem dX12_isRow_132 : decode cX12_isRow 132 = .ok (.goto (-109), 3) := by decide +kernel
theorem dX12_isRow_135 : decode cX12_isRow 135 = .ok (.iload_n 3, 1) := by decide +kernel
theorem dX12_isRow_136 : decode cX12_isRow 136 = .ok (.aload_n 0, 1) := by decide +kernel
theorem dX12_isRow_137 : decode cX12_isRow 137 = .ok (.iload_n 2, 1) := by decide +kernel
theorem dX12_isRow_138 : decode cX12_isRow 138 = .ok (.iload_n 1, 1) := by decide +kernel
theorem dX12_isRow_139 : decode cX12_isRow 139 = .ok (.bipush 12, 2) := by decide +kernel
theorem dX12_isRow_141 : decode cX12_isRow 141 = .ok (.irem, 1) := by decide +kernel
theorem dX12_isRow_142 : decode cX12_isRow 142 = .ok (.invokevirtual 181, 3) := by decide +kernel
theorem dX12_isRow_145 : decode cX12_isRow 145 = .ok (.if_icmp .eq 5, 3) := by decide +kernel
theorem dX12_isRow_148 : decode cX12_isRow 148 = .ok (.iconst 0, 1) := by decide +kernel
theorem dX12_isRow_149 : decode cX12_isRow 149 = .ok (.ireturn, 1) := by decide +kernel
theorem dX12_isRow_150 : decode cX12_isRow 150 = .ok (.iinc 1 1, 3) := by decide +kernel
theorem dX12_isRow_153 : decode cX12_isRow 153 = .ok (.goto (-151), 3) := by decide +kernel
theorem dX12_isRow_156 : decode cX12_isRow 156 = .ok (.iconst 1, 1) := by decide +kernel
theorem dX12_isRow_157 : decode cX12_isRow 157 = .ok (.ireturn, 1) := by decide +kernel
theorem dX12_orders_0 : decode cX12_orders 0 = .ok (.iload_n 1, 1) := by decide +kernel
theorem dX12_orders_1 : decode cX12_orders 1 = .ok (.iconst (-1), 1) := by decide +kernel
theorem dX12_orders_2 : decode cX12_orders 2 = .ok (.if_icmp .ge 8, 3) := by decide +kernel
theorem dX12_orders_5 : decode cX12_orders 5 = .ok (.aload_n 0, 1) := by decide +kernel
theorem dX12_orders_6 : decode cX12_orders 6 = .ok (.invokevirtual 175, 3) := by decide +kernel
theorem dX12_orders_9 : decode cX12_orders 9 = .ok (.ireturn, 1) := by decide +kernel
theorem dX12_orders_10 : decode cX12_orders 10 = .ok (.iconst 0, 1) := by decide +kernel
theorem dX12_orders_11 : decode cX12_orders 11 = .ok (.istore_n 2, 1) := by decide +kernel
theorem dX12_orders_12 : decode cX12_orders 12 = .ok (.iload_n 2, 1) := by decide +kernel
theorem dX12_orders_13 : decode cX12_orders 13 = .ok (.aload_n 0, 1) := by decide +kernel
theorem dX12_orders_14 : decode cX12_orders 14 = .ok (.getfield 7, 3) := by decide +kernel
theorem dX12_orders_17 : decode cX12_orders 17 = .ok (.if_icmp .ge 16, 3) := by decide +kernel
theorem dX12_orders_20 : decode cX12_orders 20 = .ok (.aload_n 0, 1) := by decide +kernel
theorem dX12_orders_21 : decode cX12_orders 21 = .ok (.getfield 36, 3) := by decide +kernel
theorem dX12_orders_24 : decode cX12_orders 24 = .ok (.iload_n 2, 1) := by decide +kernel
theorem dX12_orders_25 : decode cX12_orders 25 = .ok (.iload_n 2, 1) := by decide +kernel
theorem dX12_orders_26 : decode cX12_orders 26 = .ok (.iastore, 1) := by decide +kernel
theorem dX12_orders_27 : decode cX12_orders 27 = .ok (.iinc 2 1, 3) := by decide +kernel
theorem dX12_orders_30 : decode cX12_orders 30 = .ok (.goto (-18), 3) := by decide +kernel
theorem dX12_orders_33 : decode cX12_orders 33 = .ok (.iconst 0, 1) := by decide +kernel
theorem dX12_orders_34 : decode cX12_orders 34 = .ok (.istore_n 2, 1) := by decide +kernel
theorem dX12_orders_35 : decode cX12_orders 35 = .ok (.iconst 1, 1) := by decide +kernel
theorem dX12_orders_36 : decode cX12_orders 36 = .ok (.istore_n 3, 1) := by decide +kernel
theorem dX12_orders_37 : decode cX12_orders 37 = .ok (.iload_n 3, 1) := by decide +kernel
theorem dX12_orders_38 : decode cX12_orders 38 = .ok (.ifCond .eq 57, 3) := by decide +kernel
theorem dX12_orders_41 : decode cX12_orders 41 = .ok (.aload_n 0, 1) := by decide +kernel
theorem dX12_orders_42 : decode cX12_orders 42 = .ok (.invokevirtual 221, 3) := by decide +kernel
theorem dX12_orders_45 : decode cX12_orders 45 = .ok (.ifCond .eq 42, 3) := by decide +kernel
theorem dX12_orders_48 : decode cX12_orders 48 = .ok (.iconst 0, 1) := by decide +kernel
theorem dX12_orders_49 : decode cX12_orders 49 = .ok (.istore 4, 2) := by decide +kernel
theorem dX12_orders_51 : decode cX12_orders 51 = .ok (.iload 4, 2) := by decide +kernel
theorem dX12_orders_53 : decode cX12_orders 53 = .ok (.aload_n 0, 1) := by decide +kernel
theorem dX12_orders_54 : decode cX12_orders 54 = .ok (.getfield 7, 3) := by decide +kernel
theorem dX12_orders_57 : decode cX12_orders 57 = .ok (.if_icmp .ge 27, 3) := by decide +kernel
theorem dX12_orders_60 : decode cX12_orders 60 = .ok (.iload_n 2, 1) := by decide +kernel
theorem dX12_orders_61 : decode cX12_orders 61 = .ok (.ifCond .ne 23, 3) := by decide +kernel
theorem dX12_orders_64 : decode cX12_orders 64 = .ok (.aload_n 0, 1) := by decide +kernel
theorem dX12_orders_65 : decode cX12_orders 65 = .ok (.getfield 39, 3) := by decide +kernel
theorem dX12_orders_68 : decode cX12_orders 68 = .ok (.iload 4, 2) := by decide +kernel
theorem dX12_orders_70 : decode cX12_orders 70 = .ok (.aload_n 0, 1) := by decide +kernel
theorem dX12_orders_71 : decode cX12_orders 71 = .ok (.getfield 36, 3) := by decide +kernel
theorem dX12_orders_74 : decode cX12_orders 74 = .ok (.iload 4, 2) := by decide +kernel
theorem dX12_orders_76 : decode cX12_orders 76 = .ok (.iaload, 1) := by decide +kernel
theorem dX12_orders_77 : decode cX12_orders 77 = .ok (.iastore, 1) := by decide +kernel
theorem dX12_orders_78 : decode cX12_orders 78 = .ok (.iinc 4 1, 3) := by decide +kernel
theorem dX12_orders_81 : decode cX12_orders 81 = .ok (.goto (-30), 3) := by decide +kernel
theorem dX12_orders_84 : decode cX12_orders 84 = .ok (.iinc 2 1, 3) := by decide +kernel
theorem dX12_orders_87 : decode cX12_orders 87 = .ok (.aload_n 0, 1) := by decide +kernel
theorem dX12_orders_88 : decode cX12_orders 88 = .ok (.invokevirtual 224, 3) := by decide +kernel
theorem dX12_orders_91 : decode cX12_orders 91 = .ok (.istore_n 3, 1) := by decide +kernel
theorem dX12_orders_92 : decode cX12_orders 92 = .ok (.goto (-55), 3) := by decide +kernel
theorem dX12_orders_95 : decode cX12_orders 95 = .ok (.iload_n 1, 1) := by decide +kernel
theorem dX12_orders_96 : decode cX12_orders 96 = .ok (.iconst (-1), 1) := by decide +kernel
theorem dX12_orders_97 : decode cX12_orders 97 = .ok (.if_icmp .ne 7, 3) := by decide +kernel
theorem dX12_orders_100 : decode cX12_orders 100 = .ok (.iload_n 2, 1) := by decide +kernel
theorem dX12_orders_101 : decode cX12_orders 101 = .ok (.goto 30, 3) := by decide +kernel
theorem dX12_orders_104 : decode cX12_orders 104 = .ok (.iload_n 2, 1) := by decide +kernel
theorem dX12_orders_105 : decode cX12_orders 105 = .ok (.ifCond .ne 7, 3) := by decide +kernel
theorem dX12_orders_108 : decode cX12_orders 108 = .ok (.iconst (-1), 1) := by decide +kernel
theorem dX12_orders_109 : decode cX12_orders 109 = .ok (.goto 22, 3) := by decide +kernel
theorem dX12_orders_112 : decode cX12_orders 112 = .ok (.iload_n 1, 1) := by decide +kernel
theorem dX12_orders_113 : decode cX12_orders 113 = .ok (.aload_n 0, 1) := by decide +kernel
theorem dX12_orders_114 : decode cX12_orders 114 = .ok (.getfield 7, 3) := by decide +kernel
theorem dX12_orders_117 : decode cX12_orders 117 = .ok (.if_icmp .lt 8, 3) := by decide +kernel
theorem dX12_orders_120 : decode cX12_orders 120 = .ok (.bipush (-5), 2) := by decide +kernel
theorem dX12_orders_122 : decode cX12_orders 122 = .ok (.goto 9, 3) := by decide +kernel
theorem dX12_orders_125 : decode cX12_orders 125 = .ok (.aload_n 0, 1) := by decide +kernel
theorem dX12_orders_126 : decode cX12_orders 126 = .ok (.getfield 39, 3) := by decide +kernel
theorem dX12_orders_129 : decode cX12_orders 129 = .ok (.iload_n 1, 1) := by decide +kernel
theorem dX12_orders_130 : decode cX12_orders 130 = .ok (.iaload, 1) := by decide +kernel
theorem dX12_orders_131 : decode cX12_orders 131 = .ok (.ireturn, 1) := by decide +kernel
theorem dX12_press_0 : decode cX12_press 0 = .ok (.iload_n 1, 1) := by decide +kernel
theorem dX12_press_1 : decode cX12_press 1 = .ok (.i2l, 1) := by decide +kernel
theorem dX12_press_2 : decode cX12_press 2 = .ok (.lconst 0, 1) := by decide +kernel
theorem dX12_press_3 : decode cX12_press 3 = .ok (.ldc2_w 60, 3) := by decide +kernel
theorem dX12_press_6 : decode cX12_press 6 = .ok (.invokestatic 56, 3) := by decide +kernel
theorem dX12_press_9 : decode cX12_press 9 = .ok (.ifCond .eq 15, 3) := by decide +kernel
theorem dX12_press_12 : decode cX12_press 12 = .ok (.iload_n 2, 1) := by decide +kernel
theorem dX12_press_13 : decode cX12_press 13 = .ok (.i2l, 1) := by decide +kernel
theorem dX12_press_14 : decode cX12_press 14 = .ok (.lconst 1, 1) := by decide +kernel
theorem dX12_press_15 : decode cX12_press 15 = .ok (.ldc2_w 60, 3) := by decide +kernel
theorem dX12_press_18 : decode cX12_press 18 = .ok (.invokestatic 56, 3) := by decide +kernel
theorem dX12_press_21 : decode cX12_press 21 = .ok (.ifCond .ne 8, 3) := by decide +kernel
theorem dX12_press_24 : decode cX12_press 24 = .ok (.aload_n 0, 1) := by decide +kernel
theorem dX12_press_25 : decode cX12_press 25 = .ok (.invokevirtual 75, 3) := by decide +kernel
theorem dX12_press_28 : decode cX12_press 28 = .ok (.ireturn, 1) := by decide +kernel
theorem dX12_press_29 : decode cX12_press 29 = .ok (.iconst 1, 1) := by decide +kernel
theorem dX12_press_30 : decode cX12_press 30 = .ok (.istore_n 3, 1) := by decide +kernel
theorem dX12_press_31 : decode cX12_press 31 = .ok (.iload_n 3, 1) := by decide +kernel
theorem dX12_press_32 : decode cX12_press 32 = .ok (.bipush 9, 2) := by decide +kernel
theorem dX12_press_34 : decode cX12_press 34 = .ok (.if_icmp .gt 21, 3) := by decide +kernel
theorem dX12_press_37 : decode cX12_press 37 = .ok (.iload_n 1, 1) := by decide +kernel
theorem dX12_press_38 : decode cX12_press 38 = .ok (.iload_n 3, 1) := by decide +kernel
theorem dX12_press_39 : decode cX12_press 39 = .ok (.iload_n 2, 1) := by decide +kernel
theorem dX12_press_40 : decode cX12_press 40 = .ok (.invokestatic 89, 3) := by decide +kernel
theorem dX12_press_43 : decode cX12_press 43 = .ok (.iconst 2, 1) := by decide +kernel
theorem dX12_press_44 : decode cX12_press 44 = .ok (.if_icmp .lt 5, 3) := by decide +kernel
theorem dX12_press_47 : decode cX12_press 47 = .ok (.iload_n 3, 1) := by decide +kernel
theorem dX12_press_48 : decode cX12_press 48 = .ok (.ireturn, 1) := by decide +kernel
theorem dX12_press_49 : decode cX12_press 49 = .ok (.iinc 3 1, 3) := by decide +kernel
theorem dX12_press_52 : decode cX12_press 52 = .ok (.goto (-21), 3) := by decide +kernel
theorem dX12_press_55 : decode cX12_press 55 = .ok (.iconst (-1), 1) := by decide +kernel
theorem dX12_press_56 : decode cX12_press 56 = .ok (.ireturn, 1) := by decide +kernel
theorem dX12_copies_0 : decode cX12_copies 0 = .ok (.iconst 1, 1) := by decide +kernel
theorem dX12_copies_1 : decode cX12_copies 1 = .ok (.aload_n 0, 1) := by decide +kernel
theorem dX12_copies_2 : decode cX12_copies 2 = .ok (.getfield 7, 3) := by decide +kernel
theorem dX12_copies_5 : decode cX12_copies 5 = .ok (.ishl, 1) := by decide +kernel
theorem dX12_copies_6 : decode cX12_copies 6 = .ok (.iconst 1, 1) := by decide +kernel
theorem dX12_copies_7 : decode cX12_copies 7 = .ok (.isub, 1) := by decide +kernel
theorem dX12_copies_8 : decode cX12_copies 8 = .ok (.iconst 1, 1) := by decide +kernel
theorem dX12_copies_9 : decode cX12_copies 9 = .ok (.aload_n 0, 1) := by decide +kernel
theorem dX12_copies_10 : decode cX12_copies 10 = .ok (.getfield 17, 3) := by decide +kernel
theorem dX12_copies_13 : decode cX12_copies 13 = .ok (.bipush 125, 2) := by decide +kernel
theorem dX12_copies_15 : decode cX12_copies 15 = .ok (.iaload, 1) := by decide +kernel
theorem dX12_copies_16 : decode cX12_copies 16 = .ok (.ishl, 1) := by decide +kernel
theorem dX12_copies_17 : decode cX12_copies 17 = .ok (.iconst 1, 1) := by decide +kernel
theorem dX12_copies_18 : decode cX12_copies 18 = .ok (.isub, 1) := by decide +kernel
theorem dX12_copies_19 : decode cX12_copies 19 = .ok (.iconst (-1), 1) := by decide +kernel
theorem dX12_copies_20 : decode cX12_copies 20 = .ok (.ixor, 1) := by decide +kernel
theorem dX12_copies_21 : decode cX12_copies 21 = .ok (.iand, 1) := by decide +kernel
theorem dX12_copies_22 : decode cX12_copies 22 = .ok (.istore 5, 2) := by decide +kernel
theorem dX12_copies_24 : decode cX12_copies 24 = .ok (.iload_n 1, 1) := by decide +kernel
theorem dX12_copies_25 : decode cX12_copies 25 = .ok (.ifCond .lt 31, 3) := by decide +kernel
theorem dX12_copies_28 : decode cX12_copies 28 = .ok (.iload_n 1, 1) := by decide +kernel
theorem dX12_copies_29 : decode cX12_copies 29 = .ok (.iload 5, 2) := by decide +kernel
theorem dX12_copies_31 : decode cX12_copies 31 = .ok (.iconst (-1), 1) := by decide +kernel
theorem dX12_copies_32 : decode cX12_copies 32 = .ok (.ixor, 1) := by decide +kernel
theorem dX12_copies_33 : decode cX12_copies 33 = .ok (.iand, 1) := by decide +kernel
theorem dX12_copies_34 : decode cX12_copies 34 = .ok (.ifCond .ne 22, 3) := by decide +kernel
theorem dX12_copies_37 : decode cX12_copies 37 = .ok (.iload_n 2, 1) := by decide +kernel
theorem dX12_copies_38 : decode cX12_copies 38 = .ok (.iload_n 3, 1) := by decide +kernel
theorem dX12_copies_39 : decode cX12_copies 39 = .ok (.invokestatic 101, 3) := by decide +kernel
theorem dX12_copies_42 : decode cX12_copies 42 = .ok (.ifCond .eq 14, 3) := by decide +kernel
theorem dX12_copies_45 : decode cX12_copies 45 = .ok (.iload 4, 2) := by decide +kernel
theorem dX12_copies_47 : decode cX12_copies 47 = .ok (.i2l, 1) := by decide +kernel
theorem dX12_copies_48 : decode cX12_copies 48 = .ok (.lconst 0, 1) := by decide +kernel
theorem dX12_copies_49 : decode cX12_copies 49 = .ok (.lconst 1, 1) := by decide +kernel
theorem dX12_copies_50 : decode cX12_copies 50 = .ok (.invokestatic 56, 3) := by decide +kernel
theorem dX12_copies_53 : decode cX12_copies 53 = .ok (.ifCond .ne 8, 3) := by decide +kernel
theorem dX12_copies_56 : decode cX12_copies 56 = .ok (.aload_n 0, 1) := by decide +kernel
theorem dX12_copies_57 : decode cX12_copies 57 = .ok (.invokevirtual 175, 3) := by decide +kernel
theorem dX12_copies_60 : decode cX12_copies 60 = .ok (.ireturn, 1) := by decide +kernel
theorem dX12_copies_61 : decode cX12_copies 61 = .ok (.iconst 0, 1) := by decide +kernel
theorem dX12_copies_62 : decode cX12_copies 62 = .ok (.istore 6, 2) := by decide +kernel
theorem dX12_copies_64 : decode cX12_copies 64 = .ok (.iconst 0, 1) := by decide +kernel
theorem dX12_copies_65 : decode cX12_copies 65 = .ok (.istore 7, 2) := by decide +kernel
theorem dX12_copies_67 : decode cX12_copies 67 = .ok (.iload 7, 2) := by decide +kernel
theorem dX12_copies_69 : decode cX12_copies 69 = .ok (.aload_n 0, 1) := by decide +kernel
theorem dX12_copies_70 : decode cX12_copies 70 = .ok (.getfield 7, 3) := by decide +kernel
theorem dX12_copies_73 : decode cX12_copies 73 = .ok (.if_icmp .ge 66, 3) := by decide +kernel
theorem dX12_copies_76 : decode cX12_copies 76 = .ok (.iload_n 1, 1) := by decide +kernel
theorem dX12_copies_77 : decode cX12_copies 77 = .ok (.iload 7, 2) := by decide +kernel
theorem dX12_copies_79 : decode cX12_copies 79 = .ok (.invokestatic 93, 3) := by decide +kernel
theorem dX12_copies_82 : decode cX12_copies 82 = .ok (.ifCond .eq 51, 3) := by decide +kernel
theorem dX12_copies_85 : decode cX12_copies 85 = .ok (.iload 7, 2) := by decide +kernel
theorem dX12_copies_87 : decode cX12_copies 87 = .ok (.aload_n 0, 1) := by decide +kernel
theorem dX12_copies_88 : decode cX12_copies 88 = .ok (.getfield 17, 3) := by decide +kernel
theorem dX12_copies_91 : decode cX12_copies 91 = .ok (.bipush 125, 2) := by decide +kernel
theorem dX12_copies_93 : decode cX12_copies 93 = .ok (.iaload, 1) := by decide +kernel
theorem dX12_copies_94 : decode cX12_copies 94 = .ok (.isub, 1) := by decide +kernel
theorem dX12_copies_95 : decode cX12_copies 95 = .ok (.istore 8, 2) := by decide +kernel
theorem dX12_copies_97 : decode cX12_copies 97 = .ok (.iload 8, 2) := by decide +kernel
theorem dX12_copies_99 : decode cX12_copies 99 = .ok (.ifCond .eq 14, 3) := by decide +kernel
theorem dX12_copies_102 : decode cX12_copies 102 = .ok (.iload_n 2, 1) := by decide +kernel
theorem dX12_copies_103 : decode cX12_copies 103 = .ok (.iload_n 3, 1) := by decide +kernel
theorem dX12_copies_104 : decode cX12_copies 104 = .ok (.iload 8, 2) := by decide +kernel
theorem dX12_copies_106 : decode cX12_copies 106 = .ok (.invokestatic 89, 3) := by decide +kernel
theorem dX12_copies_109 : decode cX12_copies 109 = .ok (.iconst 2, 1) := by decide +kernel
theorem dX12_copies_110 : decode cX12_copies 110 = .ok (.if_icmp .ge 5, 3) := by decide +kernel
theorem dX12_copies_113 : decode cX12_copies 113 = .ok (.iconst (-1), 1) := by decide +kernel
theorem dX12_copies_114 : decode cX12_copies 114 = .ok (.ireturn, 1) := by decide +kernel
theorem dX12_copies_115 : decode cX12_copies 115 = .ok (.iload 6, 2) := by decide +kernel
theorem dX12_copies_117 : decode cX12_copies 117 = .ok (.iconst 1, 1) := by decide +kernel
theorem dX12_copies_118 : decode cX12_copies 118 = .ok (.iload 7, 2) := by decide +kernel
theorem dX12_copies_120 : decode cX12_copies 120 = .ok (.iconst 1, 1) := by decide +kernel
theorem dX12_copies_121 : decode cX12_copies 121 = .ok (.isub, 1) := by decide +kernel
theorem dX12_copies_122 : decode cX12_copies 122 = .ok (.ishl, 1) := by decide +kernel
theorem dX12_copies_123 : decode cX12_copies 123 = .ok (.aload_n 0, 1) := by decide +kernel
theorem dX12_copies_124 : decode cX12_copies 124 = .ok (.getfield 67, 3) := by decide +kernel
theorem dX12_copies_127 : decode cX12_copies 127 = .ok (.iconst (-1), 1) := by decide +kernel
theorem dX12_copies_128 : decode cX12_copies 128 = .ok (.ixor, 1) := by decide +kernel
theorem dX12_copies_129 : decode cX12_copies 129 = .ok (.iand, 1) := by decide +kernel
theorem dX12_copies_130 : decode cX12_copies 130 = .ok (.ior, 1) := by decide +kernel
theorem dX12_copies_131 : decode cX12_copies 131 = .ok (.istore 6, 2) := by decide +kernel
theorem dX12_copies_133 : decode cX12_copies 133 = .ok (.iinc 7 1, 3) := by decide +kernel
theorem dX12_copies_136 : decode cX12_copies 136 = .ok (.goto (-69), 3) := by decide +kernel
theorem dX12_copies_139 : decode cX12_copies 139 = .ok (.iload 4, 2) := by decide +kernel
theorem dX12_copies_141 : decode cX12_copies 141 = .ok (.ifCond .ne 11, 3) := by decide +kernel
theorem dX12_copies_144 : decode cX12_copies 144 = .ok (.iload 6, 2) := by decide +kernel
theorem dX12_copies_146 : decode cX12_copies 146 = .ok (.invokestatic 211, 3) := by decide +kernel
theorem dX12_copies_149 : decode cX12_copies 149 = .ok (.goto 5, 3) := by decide +kernel
theorem dX12_copies_152 : decode cX12_copies 152 = .ok (.iload 6, 2) := by decide +kernel
theorem dX12_copies_154 : decode cX12_copies 154 = .ok (.ireturn, 1) := by decide +kernel
theorem dX12_common_0 : decode cX12_common 0 = .ok (.lload_n 0, 1) := by decide +kernel
theorem dX12_common_1 : decode cX12_common 1 = .ok (.lstore 4, 2) := by decide +kernel
theorem dX12_common_3 : decode cX12_common 3 = .ok (.lload_n 2, 1) := by decide +kernel
theorem dX12_common_4 : decode cX12_common 4 = .ok (.lstore 6, 2) := by decide +kernel
theorem dX12_common_6 : decode cX12_common 6 = .ok (.lload 6, 2) := by decide +kernel
theorem dX12_common_8 : decode cX12_common 8 = .ok (.lconst 0, 1) := by decide +kernel
theorem dX12_common_9 : decode cX12_common 9 = .ok (.lcmp, 1) := by decide +kernel
theorem dX12_common_10 : decode cX12_common 10 = .ok (.ifCond .eq 21, 3) := by decide +kernel
theorem dX12_common_13 : decode cX12_common 13 = .ok (.lload 4, 2) := by decide +kernel
theorem dX12_common_15 : decode cX12_common 15 = .ok (.lload 6, 2) := by decide +kernel
theorem dX12_common_17 : decode cX12_common 17 = .ok (.lrem, 1) := by decide +kernel
theorem dX12_common_18 : decode cX12_common 18 = .ok (.lstore 8, 2) := by decide +kernel
theorem dX12_common_20 : decode cX12_common 20 = .ok (.lload 6, 2) := by decide +kernel
theorem dX12_common_22 : decode cX12_common 22 = .ok (.lstore 4, 2) := by decide +kernel
theorem dX12_common_24 : decode cX12_common 24 = .ok (.lload 8, 2) := by decide +kernel
theorem dX12_common_26 : decode cX12_common 26 = .ok (.lstore 6, 2) := by decide +kernel
theorem dX12_common_28 : decode cX12_common 28 = .ok (.goto (-22), 3) := by decide +kernel
theorem dX12_common_31 : decode cX12_common 31 = .ok (.lload 4, 2) := by decide +kernel
theorem dX12_common_33 : decode cX12_common 33 = .ok (.lreturn, 1) := by decide +kernel
theorem dX12_rub_0 : decode cX12_rub 0 = .ok (.aload_n 0, 1) := by decide +kernel
theorem dX12_rub_1 : decode cX12_rub 1 = .ok (.iload_n 1, 1) := by decide +kernel
theorem dX12_rub_2 : decode cX12_rub 2 = .ok (.invokevirtual 172, 3) := by decide +kernel
theorem dX12_rub_5 : decode cX12_rub 5 = .ok (.ifCond .eq 25, 3) := by decide +kernel
theorem dX12_rub_8 : decode cX12_rub 8 = .ok (.iload_n 2, 1) := by decide +kernel
theorem dX12_rub_9 : decode cX12_rub 9 = .ok (.i2l, 1) := by decide +kernel
theorem dX12_rub_10 : decode cX12_rub 10 = .ok (.lconst 0, 1) := by decide +kernel
theorem dX12_rub_11 : decode cX12_rub 11 = .ok (.ldc2_w 104, 3) := by decide +kernel
theorem dX12_rub_14 : decode cX12_rub 14 = .ok (.invokestatic 56, 3) := by decide +kernel
theorem dX12_rub_17 : decode cX12_rub 17 = .ok (.ifCond .eq 13, 3) := by decide +kernel
theorem dX12_rub_20 : decode cX12_rub 20 = .ok (.iload_n 3, 1) := by decide +kernel
theorem dX12_rub_21 : decode cX12_rub 21 = .ok (.i2l, 1) := by decide +kernel
theorem dX12_rub_22 : decode cX12_rub 22 = .ok (.lconst 0, 1) := by decide +kernel
theorem dX12_rub_23 : decode cX12_rub 23 = .ok (.lconst 1, 1) := by decide +kernel
theorem dX12_rub_24 : decode cX12_rub 24 = .ok (.invokestatic 56, 3) := by decide +kernel
theorem dX12_rub_27 : decode cX12_rub 27 = .ok (.ifCond .ne 8, 3) := by decide +kernel
theorem dX12_rub_30 : decode cX12_rub 30 = .ok (.aload_n 0, 1) := by decide +kernel
theorem dX12_rub_31 : decode cX12_rub 31 = .ok (.invokevirtual 75, 3) := by decide +kernel
theorem dX12_rub_34 : decode cX12_rub 34 = .ok (.ireturn, 1) := by decide +kernel
theorem dX12_rub_35 : decode cX12_rub 35 = .ok (.aload_n 0, 1) := by decide +kernel
theorem dX12_rub_36 : decode cX12_rub 36 = .ok (.lconst 1, 1) := by decide +kernel
theorem dX12_rub_37 : decode cX12_rub 37 = .ok (.putfield 227, 3) := by decide +kernel
theorem dX12_rub_40 : decode cX12_rub 40 = .ok (.aload_n 0, 1) := by decide +kernel
theorem dX12_rub_41 : decode cX12_rub 41 = .ok (.lconst 1, 1) := by decide +kernel
theorem dX12_rub_42 : decode cX12_rub 42 = .ok (.putfield 23, 3) := by decide +kernel
theorem dX12_rub_45 : decode cX12_rub 45 = .ok (.iconst 0, 1) := by decide +kernel
theorem dX12_rub_46 : decode cX12_rub 46 = .ok (.istore 4, 2) := by decide +kernel
theorem dX12_rub_48 : decode cX12_rub 48 = .ok (.iload 4, 2) := by decide +kernel
theorem dX12_rub_50 : decode cX12_rub 50 = .ok (.bipush 12, 2) := by decide +kernel
theorem dX12_rub_52 : decode cX12_rub 52 = .ok (.if_icmp .ge 73, 3) := by decide +kernel
theorem dX12_rub_55 : decode cX12_rub 55 = .ok (.aload_n 0, 1) := by decide +kernel
theorem dX12_rub_56 : decode cX12_rub 56 = .ok (.iload_n 1, 1) := by decide +kernel
theorem dX12_rub_57 : decode cX12_rub 57 = .ok (.iload 4, 2) := by decide +kernel
theorem dX12_rub_59 : decode cX12_rub 59 = .ok (.invokevirtual 181, 3) := by decide +kernel
theorem dX12_rub_62 : decode cX12_rub 62 = .ok (.istore 5, 2) := by decide +kernel
theorem dX12_rub_64 : decode cX12_rub 64 = .ok (.iload_n 2, 1) := by decide +kernel
theorem dX12_rub_65 : decode cX12_rub 65 = .ok (.iload 4, 2) := by decide +kernel
theorem dX12_rub_67 : decode cX12_rub 67 = .ok (.invokestatic 93, 3) := by decide +kernel
theorem dX12_rub_70 : decode cX12_rub 70 = .ok (.ifCond .ne 7, 3) := by decide +kernel
theorem dX12_rub_73 : decode cX12_rub 73 = .ok (.iload_n 3, 1) := by decide +kernel
theorem dX12_rub_74 : decode cX12_rub 74 = .ok (.ifCond .ne 45, 3) := by decide +kernel
theorem dX12_rub_77 : decode cX12_rub 77 = .ok (.aload_n 0, 1) := by decide +kernel
theorem dX12_rub_78 : decode cX12_rub 78 = .ok (.dup, 1) := by decide +kernel
theorem dX12_rub_79 : decode cX12_rub 79 = .ok (.getfield 227, 3) := by decide +kernel
theorem dX12_rub_82 : decode cX12_rub 82 = .ok (.iload_n 2, 1) := by decide +kernel
theorem dX12_rub_83 : decode cX12_rub 83 = .ok (.iload 4, 2) := by decide +kernel
theorem dX12_rub_85 : decode cX12_rub 85 = .ok (.invokestatic 93, 3) := by decide +kernel
theorem dX12_rub_88 : decode cX12_rub 88 = .ok (.ifCond .eq 9, 3) := by decide +kernel
theorem dX12_rub_91 : decode cX12_rub 91 = .ok (.iload 5, 2) := by decide +kernel
theorem dX12_rub_93 : decode cX12_rub 93 = .ok (.i2l, 1) := by decide +kernel
theorem dX12_rub_94 : decode cX12_rub 94 = .ok (.goto 9, 3) := by decide +kernel
theorem dX12_rub_97 : decode cX12_rub 97 = .ok (.bipush 10, 2) := by decide +kernel
theorem dX12_rub_99 : decode cX12_rub 99 = .ok (.iload 5, 2) := by decide +kernel
theorem dX12_rub_101 : decode cX12_rub 101 = .ok (.isub, 1) := by decide +kernel
theorem dX12_rub_102 : decode cX12_rub 102 = .ok (.i2l, 1) := by decide +kernel
theorem dX12_rub_103 : decode cX12_rub 103 = .ok (.lmul, 1) := by decide +kernel
theorem dX12_rub_104 : decode cX12_rub 104 = .ok (.putfield 227, 3) := by decide +kernel
theorem dX12_rub_107 : decode cX12_rub 107 = .ok (.aload_n 0, 1) := by decide +kernel
theorem dX12_rub_108 : decode cX12_rub 108 = .ok (.dup, 1) := by decide +kernel
theorem dX12_rub_109 : decode cX12_rub 109 = .ok (.getfield 23, 3) := by decide +kernel
theorem dX12_rub_112 : decode cX12_rub 112 = .ok (.ldc2_w 230, 3) := by decide +kernel
theorem dX12_rub_115 : decode cX12_rub 115 = .ok (.lmul, 1) := by decide +kernel
theorem dX12_rub_116 : decode cX12_rub 116 = .ok (.putfield 23, 3) := by decide +kernel
theorem dX12_rub_119 : decode cX12_rub 119 = .ok (.iinc 4 1, 3) := by decide +kernel
theorem dX12_rub_122 : decode cX12_rub 122 = .ok (.goto (-74), 3) := by decide +kernel
theorem dX12_rub_125 : decode cX12_rub 125 = .ok (.aload_n 0, 1) := by decide +kernel
theorem dX12_rub_126 : decode cX12_rub 126 = .ok (.getfield 227, 3) := by decide +kernel
theorem dX12_rub_129 : decode cX12_rub 129 = .ok (.aload_n 0, 1) := by decide +kernel
theorem dX12_rub_130 : decode cX12_rub 130 = .ok (.getfield 23, 3) := by decide +kernel
theorem dX12_rub_133 : decode cX12_rub 133 = .ok (.invokestatic 232, 3) := by decide +kernel
theorem dX12_rub_136 : decode cX12_rub 136 = .ok (.lstore 4, 2) := by decide +kernel
theorem dX12_rub_138 : decode cX12_rub 138 = .ok (.aload_n 0, 1) := by decide +kernel
theorem dX12_rub_139 : decode cX12_rub 139 = .ok (.dup, 1) := by decide +kernel
theorem dX12_rub_140 : decode cX12_rub 140 = .ok (.getfield 227, 3) := by decide +kernel
theorem dX12_rub_143 : decode cX12_rub 143 = .ok (.lload 4, 2) := by decide +kernel
theorem dX12_rub_145 : decode cX12_rub 145 = .ok (.ldiv, 1) := by decide +kernel
theorem dX12_rub_146 : decode cX12_rub 146 = .ok (.putfield 227, 3) := by decide +kernel
theorem dX12_rub_149 : decode cX12_rub 149 = .ok (.aload_n 0, 1) := by decide +kernel
theorem dX12_rub_150 : decode cX12_rub 150 = .ok (.dup, 1) := by decide +kernel
theorem dX12_rub_151 : decode cX12_rub 151 = .ok (.getfield 23, 3) := by decide +kernel
theorem dX12_rub_154 : decode cX12_rub 154 = .ok (.lload 4, 2) := by decide +kernel
theorem dX12_rub_156 : decode cX12_rub 156 = .ok (.ldiv, 1) := by decide +kernel
theorem dX12_rub_157 : decode cX12_rub 157 = .ok (.putfield 23, 3) := by decide +kernel
theorem dX12_rub_160 : decode cX12_rub 160 = .ok (.iconst 1, 1) := by decide +kernel
theorem dX12_rub_161 : decode cX12_rub 161 = .ok (.ireturn, 1) := by decide +kernel
set_option maxHeartbeats 4000000 in
set_option maxRecDepth 100000 in
theorem ctX12_exchange (l : Launch) (E : VE) (a : Nat → Nat) (x1 : Int32) (x2 : Int32) (p : St)  {Post : St → Prop} (hw : wpX12_exchange x1 x2 p Post) (sz : Nat) : Met l yX12_exchange (mW yX12_exchange cX12_exchange 4 none) rmX12_exchange (CPre E [.ref (a 0), .int x1, .int x2] sz (fl [bModel E a p])) (CQv E Post (fun u => (fl [bModel E a u])) (fl [bModel E a p]) sz) 0 0 (va_A (fl [bModel E a p]) sz) := by
  refine v_met (by decide) (Nat.le_of_ble_eq_true rfl) ?_
  intro pr e s m below meth c A hsz hA C
  subst hsz
  refine v_aload_n (pc := 0) C 0 rfl rfl dX12_exchange_0 ?_
  refine v_get (pc := 1) C cfX12 rfl 0 23 rfl (by decide) wfX12_36 rfl dX12_exchange_1 ?_
  refine v_iload_n (pc := 4) C 1 rfl rfl dX12_exchange_4 ?_
  obtain ⟨hg, hw⟩ := hw
  refine v_iald (pc := 5) C 7 rfl hg rfl dX12_exchange_5 ?_
  refine v_topi (fun x3_1 ex => ?_)
  have hw := hw x3_1 ex
  refine v_istore_n (pc := 6) C [(3, .int x3_1), (0, .ref (a 0)), (1, .int x1), (2, .int x2)] rfl rfl (by decide) dX12_exchange_6 ?_
  refine v_aload_n (pc := 7) C 1 rfl rfl dX12_exchange_7 ?_
  refine v_get (pc := 8) C cfX12 rfl 0 23 rfl (by decide) wfX12_36 rfl dX12_exchange_8 ?_
  refine v_iload_n (pc := 11) C 2 rfl rfl dX12_exchange_11 ?_
  refine v_aload_n (pc := 12) C 1 rfl rfl dX12_exchange_12 ?_
  refine v_get (pc := 13) C cfX12 rfl 0 23 rfl (by decide) wfX12_36 rfl dX12_exchange_13 ?_
  refine v_iload_n (pc := 16) C 3 rfl rfl dX12_exchange_16 ?_
  obtain ⟨hg, hw⟩ := hw
  refine v_iald (pc := 17) C 7 rfl hg rfl dX12_exchange_17 ?_
  obtain ⟨hg, hw⟩ := hw
  obtain ⟨p2, es⟩ : ∃ y : St, y = p.sA 23 (upd (p.A 23) x1.toNatClampNeg ((p.A 23) x2.toNatClampNeg)) := ⟨_, rfl⟩
  have hw := hw p2 es
  refine v_iast (pc := 18) C 7 (w' := (fl [bModel E a p2])) rfl rfl (by subst es; rfl) hg dX12_exchange_18 ?_
  refine v_aload_n (pc := 19) C 1 rfl rfl dX12_exchange_19 ?_
  refine v_get (pc := 20) C cfX12 rfl 0 23 rfl (by decide) wfX12_36 rfl dX12_exchange_20 ?_
  refine v_iload_n (pc := 23) C 3 rfl rfl dX12_exchange_23 ?_
  refine v_iload_n (pc := 24) C 0 rfl rfl dX12_exchange_24 ?_
  obtain ⟨hg, hw⟩ := hw
  obtain ⟨p3, es⟩ : ∃ y : St, y = p2.sA 23 (upd (p2.A 23) x2.toNatClampNeg x3_1) := ⟨_, rfl⟩
  have hw := hw p3 es
  refine v_iast (pc := 25) C 7 (w' := (fl [bModel E a p3])) rfl rfl (by subst es; rfl) hg dX12_exchange_25 ?_
  exact v_vret (pc := 26) C p3 hA rfl hw dX12_exchange_26
set_option maxHeartbeats 4000000 in
set_option maxRecDepth 100000 in
theorem vlX12_nextRow_7 (C : VC pr s m args meth c E A cX12_nextRow 5 (some .boolean) RX12) (hA : va_A w0 s.heap.size = A) (a : Nat → Nat)  {Post : Int32 → St → Prop} {KX : Int32 → St → Prop} (hX : ∀ (x1 : Int32) (p : St), KX x1 p → V pr l e rmX12_nextRow s m args below meth c E A 5 0 0 (MQ below (CQi E Post (fun u => (fl [bModel E a u])) w0 s.heap.size) args s 0 0 A) (fl [bModel E a p]) 34 [(0, .ref (a 0)), (1, .int x1)] []) : ∀ (n : Nat) (x1 : Int32) (p : St), wLX12_nextRow_7  Post KX n (x1, p) → V pr l e rmX12_nextRow s m args below meth c E A 5 0 0 (MQ below (CQi E Post (fun u => (fl [bModel E a u])) w0 s.heap.size) args s 0 0 A) (fl [bModel E a p]) 7 [(0, .ref (a 0)), (1, .int x1)] [] := by
  intro n
  induction n with
  | zero => intro x1 p hw; exact absurd hw id
  | succ n hself =>
    intro x1 p hw
    have hw : wlX12_nextRow_7  Post KX (wLX12_nextRow_7  Post KX n) x1 p := hw
    refine v_iload_n (pc := 7) C 1 rfl rfl dX12_nextRow_7 ?_
    refine v_if_lt (pc := 8) C 34 (by decide) dX12_nextRow_8 (fun hc => ?_) (fun hc => ?_)
    · have hw := hw.1 hc
      refine v_sub (lv' := [(0, .ref (a 0)), (1, .int x1)]) [0, 1] rfl ?_
      exact hX x1 p hw
    · have hw := hw.2 hc
      refine v_aload_n (pc := 11) C 0 rfl rfl dX12_nextRow_11 ?_
      refine v_get (pc := 12) C cfX12 rfl 0 23 rfl (by decide) wfX12_36 rfl dX12_nextRow_12 ?_
      refine v_iload_n (pc := 15) C 1 rfl rfl dX12_nextRow_15 ?_
      obtain ⟨hg, hw⟩ := hw
      refine v_iald (pc := 16) C 7 rfl hg rfl dX12_nextRow_16 ?_
      refine v_aload_n (pc := 17) C 0 rfl rfl dX12_nextRow_17 ?_
      refine v_get (pc := 18) C cfX12 rfl 0 23 rfl (by decide) wfX12_36 rfl dX12_nextRow_18 ?_
      refine v_iload_n (pc := 21) C 1 rfl rfl dX12_nextRow_21 ?_
      refine v_iconst (pc := 22) C 1 ki_1 dX12_nextRow_22 ?_
      refine v_iadd (pc := 23) C dX12_nextRow_23 ?_
      obtain ⟨hg, hw⟩ := hw
      refine v_iald (pc := 24) C 7 rfl hg rfl dX12_nextRow_24 ?_
      refine v_icmp_le (pc := 25) C 34 (by decide) dX12_nextRow_25 (fun hc => ?_) (fun hc => ?_)
      · have hw := hw.1 hc
        refine v_sub (lv' := [(0, .ref (a 0)), (1, .int x1)]) [0, 1] rfl ?_
        exact hX x1 p hw
      · have hw := hw.2 hc
        obtain ⟨x1_2, ex⟩ : ∃ y : Int32, y = x1 + (-1) := ⟨_, rfl⟩
        have hw := hw x1_2 ex
        refine v_iinc (pc := 28) C 1 rfl (by rw [ex, ki_m1]) [(1, .int x1_2), (0, .ref (a 0))] rfl (by decide) dX12_nextRow_28 ?_
        refine v_goto (pc := 31) C 7 (by decide) dX12_nextRow_31 ?_
        refine v_sub (lv' := [(0, .ref (a 0)), (1, .int x1_2)]) [1, 0] rfl ?_
        exact hself x1_2 p hw
set_option maxHeartbeats 4000000 in
set_option maxRecDepth 100000 in
theorem vlX12_nextRow_47 (C : VC pr s m args meth c E A cX12_nextRow 5 (some .boolean) RX12) (hA : va_A w0 s.heap.size = A) (a : Nat → Nat)  {Post : Int32 → St → Prop} {KX : Int32 → Int32 → St → Prop} (hX : ∀ (x1 : Int32) (x2 : Int32) (p : St), KX x1 x2 p → V pr l e rmX12_nextRow s m args below meth c E A 5 0 0 (MQ below (CQi E Post (fun u => (fl [bModel E a u])) w0 s.heap.size) args s 0 0 A) (fl [bModel E a p]) 68 [(0, .ref (a 0)), (1, .int x1), (2, .int x2)] []) : ∀ (n : Nat) (x1 : Int32) (x2 : Int32) (p : St), wLX12_nextRow_47  Post KX n (x1, x2, p) → V pr l e rmX12_nextRow s m args below meth c E A 5 0 0 (MQ below (CQi E Post (fun u => (fl [bModel E a u])) w0 s.heap.size) args s 0 0 A) (fl [bModel E a p]) 47 [(0, .ref (a 0)), (1, .int x1), (2, .int x2)] [] := by
  intro n
  induction n with
  | zero => intro x1 x2 p hw; exact absurd hw id
  | succ n hself =>
    intro x1 x2 p hw
    have hw : wlX12_nextRow_47  Post KX (wLX12_nextRow_47  Post KX n) x1 x2 p := hw
    refine v_aload_n (pc := 47) C 0 rfl rfl dX12_nextRow_47 ?_
    refine v_get (pc := 48) C cfX12 rfl 0 23 rfl (by decide) wfX12_36 rfl dX12_nextRow_48 ?_
    refine v_iload_n (pc := 51) C 2 rfl rfl dX12_nextRow_51 ?_
    obtain ⟨hg, hw⟩ := hw
    refine v_iald (pc := 52) C 7 rfl hg rfl dX12_nextRow_52 ?_
    refine v_aload_n (pc := 53) C 0 rfl rfl dX12_nextRow_53 ?_
    refine v_get (pc := 54) C cfX12 rfl 0 23 rfl (by decide) wfX12_36 rfl dX12_nextRow_54 ?_
    refine v_iload_n (pc := 57) C 1 rfl rfl dX12_nextRow_57 ?_
    obtain ⟨hg, hw⟩ := hw
    refine v_iald (pc := 58) C 7 rfl hg rfl dX12_nextRow_58 ?_
    refine v_icmp_ge (pc := 59) C 68 (by decide) dX12_nextRow_59 (fun hc => ?_) (fun hc => ?_)
    · have hw := hw.1 hc
      refine v_sub (lv' := [(0, .ref (a 0)), (1, .int x1), (2, .int x2)]) [0, 1, 2] rfl ?_
      exact hX x1 x2 p hw
    · have hw := hw.2 hc
      obtain ⟨x2_6, ex⟩ : ∃ y : Int32, y = x2 + (-1) := ⟨_, rfl⟩
      have hw := hw x2_6 ex
      refine v_iinc (pc := 62) C 2 rfl (by rw [ex, ki_m1]) [(2, .int x2_6), (0, .ref (a 0)), (1, .int x1)] rfl (by decide) dX12_nextRow_62 ?_
      refine v_goto (pc := 65) C 47 (by decide) dX12_nextRow_65 ?_
      refine v_sub (lv' := [(0, .ref (a 0)), (1, .int x1), (2, .int x2_6)]) [1, 2, 0] rfl ?_
      exact hself x1 x2_6 p hw
set_option maxHeartbeats 4000000 in
set_option maxRecDepth 100000 in
theorem vlX12_nextRow_86 (C : VC pr s m args meth c E A cX12_nextRow 5 (some .boolean) RX12) (hA : va_A w0 s.heap.size = A) (a : Nat → Nat)  {Post : Int32 → St → Prop} {KX : St → Prop} (hX : ∀ (p : St), KX p → V pr l e rmX12_nextRow s m args below meth c E A 5 0 0 (MQ below (CQi E Post (fun u => (fl [bModel E a u])) w0 s.heap.size) args s 0 0 A) (fl [bModel E a p]) 108 [] []) : ∀ (n : Nat) (x3 : Int32) (x4 : Int32) (p : St), wLX12_nextRow_86  Post KX n (x3, x4, p) → V pr l e rmX12_nextRow s m args below meth c E A 5 0 0 (MQ below (CQi E Post (fun u => (fl [bModel E a u])) w0 s.heap.size) args s 0 0 A) (fl [bModel E a p]) 86 [(0, .ref (a 0)), (3, .int x3), (4, .int x4)] [] := by
  intro n
  induction n with
  | zero => intro x3 x4 p hw; exact absurd hw id
  | succ n hself =>
    intro x3 x4 p hw
    have hw : wlX12_nextRow_86  Post KX (wLX12_nextRow_86  Post KX n) x3 x4 p := hw
    refine v_iload (pc := 86) C 2 rfl dX12_nextRow_86 ?_
    refine v_iload_n (pc := 88) C 1 rfl rfl dX12_nextRow_88 ?_
    refine v_icmp_ge (pc := 89) C 108 (by decide) dX12_nextRow_89 (fun hc => ?_) (fun hc => ?_)
    · have hw := hw.1 hc
      refine v_sub (lv' := []) [] rfl ?_
      exact hX p hw
    · have hw := hw.2 hc
      refine v_aload_n (pc := 92) C 0 rfl rfl dX12_nextRow_92 ?_
      refine v_iload (pc := 93) C 2 rfl dX12_nextRow_93 ?_
      refine v_iload_n (pc := 95) C 1 rfl rfl dX12_nextRow_95 ?_
      refine v_goAv (pc := 96) C (wc' := (fun (u : St) => (fl [bModel E a u]))) (fun _ => rfl) (v_runVA (pc := 96) C [.int x4, .int x3] [] (fun sz => ctX12_exchange l E a x4 x3 p hw sz) mfX12_exchange mvX12_exchange wmX12_214 rfl ⟨Nat.le_of_ble_eq_true rfl, Nat.le_of_ble_eq_true rfl⟩ ⟨rfl, rfl⟩ 0 (ci := 12) (qc := (RX12, TX12, 30)) rfl rfl rfl rfl (Nat.le_of_ble_eq_true rfl) ⟨Nat.zero_le _, Nat.zero_le _⟩ dX12_nextRow_96) (fun p13 hw => ?_)
      obtain ⟨x3_14, ex⟩ : ∃ y : Int32, y = x3 + (-1) := ⟨_, rfl⟩
      have hw := hw x3_14 ex
      refine v_iinc (pc := 99) C 1 rfl (by rw [ex, ki_m1]) [(3, .int x3_14), (0, .ref (a 0)), (4, .int x4)] rfl (by decide) dX12_nextRow_99 ?_
      obtain ⟨x4_15, ex⟩ : ∃ y : Int32, y = x4 + 1 := ⟨_, rfl⟩
      have hw := hw x4_15 ex
      refine v_iinc (pc := 102) C 2 rfl (by rw [ex, ki_1]) [(4, .int x4_15), (3, .int x3_14), (0, .ref (a 0))] rfl (by decide) dX12_nextRow_102 ?_
      refine v_goto (pc := 105) C 86 (by decide) dX12_nextRow_105 ?_
      refine v_sub (lv' := [(0, .ref (a 0)), (3, .int x3_14), (4, .int x4_15)]) [2, 1, 0] rfl ?_
      exact hself x3_14 x4_15 p13 hw
set_option maxHeartbeats 4000000 in
set_option maxRecDepth 100000 in
theorem vjX12_nextRow_34 (C : VC pr s m args meth c E A cX12_nextRow 5 (some .boolean) RX12) (hA : va_A w0 s.heap.size = A) (a : Nat → Nat)  {Post : Int32 → St → Prop} (x1 : Int32) (p : St) (hw : wjX12_nextRow_34  Post x1 p) : V pr l e rmX12_nextRow s m args below meth c E A 5 0 0 (MQ below (CQi E Post (fun u => (fl [bModel E a u])) w0 s.heap.size) args s 0 0 A) (fl [bModel E a p]) 34 [(0, .ref (a 0)), (1, .int x1)] [] := by
  refine v_iload_n (pc := 34) C 1 rfl rfl dX12_nextRow_34 ?_
  refine v_if_ge (pc := 35) C 40 (by decide) dX12_nextRow_35 (fun hc => ?_) (fun hc => ?_)
  · have hw := hw.1 hc
    refine v_aload_n (pc := 40) C 0 rfl rfl dX12_nextRow_40 ?_
    refine v_get (pc := 41) C cfX12 rfl 0 0 rfl (by decide) wfX12_7 rfl dX12_nextRow_41 ?_
    refine v_iconst (pc := 44) C 1 ki_1 dX12_nextRow_44 ?_
    refine v_isub (pc := 45) C dX12_nextRow_45 ?_
    refine v_topi (fun x2_5 ex => ?_)
    have hw := hw x2_5 ex
    refine v_istore_n (pc := 46) C [(2, .int x2_5), (0, .ref (a 0)), (1, .int x1)] rfl rfl (by decide) dX12_nextRow_46 ?_
    obtain ⟨n, hw⟩ := hw
    refine v_sub (lv' := [(0, .ref (a 0)), (1, .int x1), (2, .int x2_5)]) [1, 2, 0] rfl ?_
    refine vlX12_nextRow_47 C hA a  (fun y7 y8 p9 hw => ?_) n x1 x2_5 p hw
    refine v_aload_n (pc := 68) C 0 rfl rfl dX12_nextRow_68 ?_
    refine v_iload_n (pc := 69) C 1 rfl rfl dX12_nextRow_69 ?_
    refine v_iload_n (pc := 70) C 2 rfl rfl dX12_nextRow_70 ?_
    refine v_goAv (pc := 71) C (wc' := (fun (u : St) => (fl [bModel E a u]))) (fun _ => rfl) (v_runVA (pc := 71) C [.int y7, .int y8] [] (fun sz => ctX12_exchange l E a y7 y8 p9 hw sz) mfX12_exchange mvX12_exchange wmX12_214 rfl ⟨Nat.le_of_ble_eq_true rfl, Nat.le_of_ble_eq_true rfl⟩ ⟨rfl, rfl⟩ 0 (ci := 12) (qc := (RX12, TX12, 30)) rfl rfl rfl rfl (Nat.le_of_ble_eq_true rfl) ⟨Nat.zero_le _, Nat.zero_le _⟩ dX12_nextRow_71) (fun p10 hw => ?_)
    refine v_aload_n (pc := 74) C 0 rfl rfl dX12_nextRow_74 ?_
    refine v_get (pc := 75) C cfX12 rfl 0 0 rfl (by decide) wfX12_7 rfl dX12_nextRow_75 ?_
    refine v_iconst (pc := 78) C 1 ki_1 dX12_nextRow_78 ?_
    refine v_isub (pc := 79) C dX12_nextRow_79 ?_
    refine v_topi (fun x3_11 ex => ?_)
    have hw := hw x3_11 ex
    refine v_istore_n (pc := 80) C [(3, .int x3_11), (0, .ref (a 0)), (1, .int y7), (2, .int y8)] rfl rfl (by decide) dX12_nextRow_80 ?_
    refine v_iload_n (pc := 81) C 2 rfl rfl dX12_nextRow_81 ?_
    refine v_iconst (pc := 82) C 1 ki_1 dX12_nextRow_82 ?_
    refine v_iadd (pc := 83) C dX12_nextRow_83 ?_
    refine v_topi (fun x4_12 ex => ?_)
    have hw := hw x4_12 ex
    refine v_istore (pc := 84) C [(4, .int x4_12), (3, .int x3_11), (0, .ref (a 0)), (1, .int y7), (2, .int y8)] rfl (by decide) dX12_nextRow_84 ?_
    obtain ⟨n, hw⟩ := hw
    refine v_sub (lv' := [(0, .ref (a 0)), (3, .int x3_11), (4, .int x4_12)]) [2, 1, 0] rfl ?_
    refine vlX12_nextRow_86 C hA a  (fun p16 hw => ?_) n x3_11 x4_12 p10 hw
    refine v_iconst (pc := 108) C 1 ki_1 dX12_nextRow_108 ?_
    exact v_iretz (pc := 109) C rfl p16 hA rfl hw dX12_nextRow_109
  · have hw := hw.2 hc
    refine v_iconst (pc := 38) C 0 ki_0 dX12_nextRow_38 ?_
    exact v_iretz (pc := 39) C rfl p hA rfl hw dX12_nextRow_39
set_option maxHeartbeats 4000000 in
set_option maxRecDepth 100000 in
theorem ctX12_nextRow (l : Launch) (E : VE) (a : Nat → Nat)  (p : St)  {Post : Int32 → St → Prop} (hw : wpX12_nextRow p Post) (sz : Nat) : Met l yX12_nextRow (mW yX12_nextRow cX12_nextRow 5 (some .boolean)) rmX12_nextRow (CPre E [.ref (a 0)] sz (fl [bModel E a p])) (CQi E Post (fun u => (fl [bModel E a u])) (fl [bModel E a p]) sz) 0 0 (va_A (fl [bModel E a p]) sz) := by
  refine v_met (by decide) (Nat.le_of_ble_eq_true rfl) ?_
  intro pr e s m below meth c A hsz hA C
  subst hsz
  refine v_aload_n (pc := 0) C 0 rfl rfl dX12_nextRow_0 ?_
  refine v_get (pc := 1) C cfX12 rfl 0 0 rfl (by decide) wfX12_7 rfl dX12_nextRow_1 ?_
  refine v_iconst (pc := 4) C 2 ki_2 dX12_nextRow_4 ?_
  refine v_isub (pc := 5) C dX12_nextRow_5 ?_
  refine v_topi (fun x1_1 ex => ?_)
  have hw := hw x1_1 ex
  refine v_istore_n (pc := 6) C [(1, .int x1_1), (0, .ref (a 0))] rfl rfl (by decide) dX12_nextRow_6 ?_
  obtain ⟨n, hw⟩ := hw
  refine v_sub (lv' := [(0, .ref (a 0)), (1, .int x1_1)]) [1, 0] rfl ?_
  refine vlX12_nextRow_7 C hA a  (fun y3 p4 hw => ?_) n x1_1 p hw
  refine v_sub (lv' := [(0, .ref (a 0)), (1, .int y3)]) [0, 1] rfl ?_
  exact vjX12_nextRow_34 C hA a  y3 p4 hw
set_option maxHeartbeats 4000000 in
set_option maxRecDepth 100000 in
theorem vlX12_placeOf_2 (C : VC pr s m args meth c E A cX12_placeOf 3 (some .int) RX12) (hA : va_A w0 s.heap.size = A) (a : Nat → Nat) (p : St) {Post : Int32 → Prop} {KX : Int32 → Prop} (hX : ∀ (x2 : Int32), KX x2 → V pr l e rmX12_placeOf s m args below meth c E A 3 0 0 (MQ below (CQi E (fun (z : Int32) (_ : Unit) => Post z) (fun _ => (fl [bModel E a p])) w0 s.heap.size) args s 0 0 A) (fl [bModel E a p]) 18 [(2, .int x2)] []) : ∀ (n : Nat) (x1 : Int32) (x2 : Int32), wLX12_placeOf_2 p Post KX n (x1, x2) → V pr l e rmX12_placeOf s m args below meth c E A 3 0 0 (MQ below (CQi E (fun (z : Int32) (_ : Unit) => Post z) (fun _ => (fl [bModel E a p])) w0 s.heap.size) args s 0 0 A) (fl [bModel E a p]) 2 [(0, .ref (a 0)), (1, .int x1), (2, .int x2)] [] := by
  intro n
  induction n with
  | zero => intro x1 x2 hw; exact absurd hw id
  | succ n hself =>
    intro x1 x2 hw
    have hw : wlX12_placeOf_2 p Post KX (wLX12_placeOf_2 p Post KX n) x1 x2 := hw
    refine v_aload_n (pc := 2) C 0 rfl rfl dX12_placeOf_2 ?_
    refine v_get (pc := 3) C cfX12 rfl 0 23 rfl (by decide) wfX12_36 rfl dX12_placeOf_3 ?_
    refine v_iload_n (pc := 6) C 2 rfl rfl dX12_placeOf_6 ?_
    obtain ⟨hg, hw⟩ := hw
    refine v_iald (pc := 7) C 7 rfl hg rfl dX12_placeOf_7 ?_
    refine v_iload_n (pc := 8) C 1 rfl rfl dX12_placeOf_8 ?_
    refine v_icmp_eq (pc := 9) C 18 (by decide) dX12_placeOf_9 (fun hc => ?_) (fun hc => ?_)
    · have hw := hw.1 hc
      refine v_sub (lv' := [(2, .int x2)]) [2] rfl ?_
      exact hX x2 hw
    · have hw := hw.2 hc
      obtain ⟨x2_1, ex⟩ : ∃ y : Int32, y = x2 + 1 := ⟨_, rfl⟩
      have hw := hw x2_1 ex
      refine v_iinc (pc := 12) C 2 rfl (by rw [ex, ki_1]) [(2, .int x2_1), (0, .ref (a 0)), (1, .int x1)] rfl (by decide) dX12_placeOf_12 ?_
      refine v_goto (pc := 15) C 2 (by decide) dX12_placeOf_15 ?_
      refine v_sub (lv' := [(0, .ref (a 0)), (1, .int x1), (2, .int x2_1)]) [1, 2, 0] rfl ?_
      exact hself x1 x2_1 hw
set_option maxHeartbeats 4000000 in
set_option maxRecDepth 100000 in
theorem ctX12_placeOf (l : Launch) (E : VE) (a : Nat → Nat) (x1 : Int32) (p : St)  {Post : Int32 → Prop} (hw : wpX12_placeOf x1 p Post) (sz : Nat) : Met l yX12_placeOf (mW yX12_placeOf cX12_placeOf 3 (some .int)) rmX12_placeOf (CPre E [.ref (a 0), .int x1] sz (fl [bModel E a p])) (CQi E (fun (z : Int32) (_ : Unit) => Post z) (fun _ => (fl [bModel E a p])) (fl [bModel E a p]) sz) 0 0 (va_A (fl [bModel E a p]) sz) := by
  refine v_met (by decide) (Nat.le_of_ble_eq_true rfl) ?_
  intro pr e s m below meth c A hsz hA C
  subst hsz
  refine v_iconst (pc := 0) C 0 ki_0 dX12_placeOf_0 ?_
  refine v_istore_n (pc := 1) C [(2, .int 0), (0, .ref (a 0)), (1, .int x1)] rfl rfl (by decide) dX12_placeOf_1 ?_
  obtain ⟨n, hw⟩ := hw
  refine v_sub (lv' := [(0, .ref (a 0)), (1, .int x1), (2, .int 0)]) [1, 2, 0] rfl ?_
  refine vlX12_placeOf_2 C hA a p (fun y2 hw => ?_) n x1 0 hw
  refine v_iload_n (pc := 18) C 0 rfl rfl dX12_placeOf_18 ?_
  exact v_ireti (pc := 19) C () hA rfl hw dX12_placeOf_19
set_option maxHeartbeats 4000000 in
set_option maxRecDepth 100000 in
theorem vjX12_isRow_114 (C : VC pr s m args meth c E A cX12_isRow 8 (some .boolean) RX12) (hA : va_A w0 s.heap.size = A) (a : Nat → Nat) (p : St) {Post : Int32 → Prop} {self : (Int32 × Int32 × Int32 × Int32) → Prop} {KX : Int32 → Int32 → Int32 → Prop} (x1 : Int32) (x2 : Int32) (x3 : Int32) (x4 : Int32) (z0 : Int32) (hw : wjX12_isRow_114 p Post self KX x1 x2 x3 x4 z0) (hself : ∀ (x1 : Int32) (x2 : Int32) (x3 : Int32) (x4 : Int32), self (x1, x2, x3, x4) → V pr l e rmX12_isRow s m args below meth c E A 8 0 0 (MQ below (CQi E (fun (z : Int32) (_ : Unit) => Post z) (fun _ => (fl [bModel E a p])) w0 s.heap.size) args s 0 0 A) (fl [bModel E a p]) 23 [(0, .ref (a 0)), (1, .int x1), (2, .int x2), (3, .int x3), (4, .int x4)] []) (hX : ∀ (x1 : Int32) (x2 : Int32) (x3 : Int32), KX x1 x2 x3 → V pr l e rmX12_isRow s m args below meth c E A 8 0 0 (MQ below (CQi E (fun (z : Int32) (_ : Unit) => Post z) (fun _ => (fl [bModel E a p])) w0 s.heap.size) args s 0 0 A) (fl [bModel E a p]) 135 [(0, .ref (a 0)), (1, .int x1), (2, .int x2), (3, .int x3)] []) : V pr l e rmX12_isRow s m args below meth c E A 8 0 0 (MQ below (CQi E (fun (z : Int32) (_ : Unit) => Post z) (fun _ => (fl [bModel E a p])) w0 s.heap.size) args s 0 0 A) (fl [bModel E a p]) 114 [(0, .ref (a 0)), (1, .int x1), (2, .int x2), (3, .int x3), (4, .int x4)] [.int z0] := by
  refine v_istore (pc := 114) C [(7, .int z0), (0, .ref (a 0)), (1, .int x1), (2, .int x2), (3, .int x3), (4, .int x4)] rfl (by decide) dX12_isRow_114 ?_
  refine v_iload (pc := 116) C 0 rfl dX12_isRow_116 ?_
  refine v_iload_n (pc := 118) C 4 rfl rfl dX12_isRow_118 ?_
  refine v_icmp_le (pc := 119) C 127 (by decide) dX12_isRow_119 (fun hc => ?_) (fun hc => ?_)
  · have hw := hw.1 hc
    refine v_iload_n (pc := 127) C 4 rfl rfl dX12_isRow_127 ?_
    refine v_istore_n (pc := 128) C [(3, .int x3), (7, .int z0), (0, .ref (a 0)), (1, .int x1), (2, .int x2), (4, .int x4)] rfl rfl (by decide) dX12_isRow_128 ?_
    obtain ⟨x4_6, ex⟩ : ∃ y : Int32, y = x4 + 1 := ⟨_, rfl⟩
    have hw := hw x4_6 ex
    refine v_iinc (pc := 129) C 5 rfl (by rw [ex, ki_1]) [(4, .int x4_6), (3, .int x3), (7, .int z0), (0, .ref (a 0)), (1, .int x1), (2, .int x2)] rfl (by decide) dX12_isRow_129 ?_
    refine v_goto (pc := 132) C 23 (by decide) dX12_isRow_132 ?_
    refine v_sub (lv' := [(0, .ref (a 0)), (1, .int x1), (2, .int x2), (3, .int x3), (4, .int x4_6)]) [3, 4, 5, 1, 0] rfl ?_
    exact hself x1 x2 x3 x4_6 hw
  · have hw := hw.2 hc
    refine v_iload (pc := 122) C 0 rfl dX12_isRow_122 ?_
    refine v_goto (pc := 124) C 128 (by decide) dX12_isRow_124 ?_
    refine v_istore_n (pc := 128) C [(3, .int z0), (7, .int z0), (0, .ref (a 0)), (1, .int x1), (2, .int x2), (4, .int x4)] rfl rfl (by decide) dX12_isRow_128 ?_
    obtain ⟨x4_7, ex⟩ : ∃ y : Int32, y = x4 + 1 := ⟨_, rfl⟩
    have hw := hw x4_7 ex
    refine v_iinc (pc := 129) C 5 rfl (by rw [ex, ki_1]) [(4, .int x4_7), (3, .int z0), (7, .int z0), (0, .ref (a 0)), (1, .int x1), (2, .int x2)] rfl (by decide) dX12_isRow_129 ?_
    refine v_goto (pc := 132) C 23 (by decide) dX12_isRow_132 ?_
    refine v_sub (lv' := [(0, .ref (a 0)), (1, .int x1), (2, .int x2), (3, .int z0), (4, .int x4_7)]) [3, 4, 5, 1, 0] rfl ?_
    exact hself x1 x2 z0 x4_7 hw
set_option maxHeartbeats 4000000 in
set_option maxRecDepth 100000 in
theorem vlX12_isRow_23 (C : VC pr s m args meth c E A cX12_isRow 8 (some .boolean) RX12) (hA : va_A w0 s.heap.size = A) (a : Nat → Nat) (p : St) {Post : Int32 → Prop} {KX : Int32 → Int32 → Int32 → Prop} (hX : ∀ (x1 : Int32) (x2 : Int32) (x3 : Int32), KX x1 x2 x3 → V pr l e rmX12_isRow s m args below meth c E A 8 0 0 (MQ below (CQi E (fun (z : Int32) (_ : Unit) => Post z) (fun _ => (fl [bModel E a p])) w0 s.heap.size) args s 0 0 A) (fl [bModel E a p]) 135 [(0, .ref (a 0)), (1, .int x1), (2, .int x2), (3, .int x3)] []) : ∀ (n : Nat) (x1 : Int32) (x2 : Int32) (x3 : Int32) (x4 : Int32), wLX12_isRow_23 p Post KX n (x1, x2, x3, x4) → V pr l e rmX12_isRow s m args below meth c E A 8 0 0 (MQ below (CQi E (fun (z : Int32) (_ : Unit) => Post z) (fun _ => (fl [bModel E a p])) w0 s.heap.size) args s 0 0 A) (fl [bModel E a p]) 23 [(0, .ref (a 0)), (1, .int x1), (2, .int x2), (3, .int x3), (4, .int x4)] [] := by
  intro n
  induction n with
  | zero => intro x1 x2 x3 x4 hw; exact absurd hw id
  | succ n hself =>
    intro x1 x2 x3 x4 hw
    have hw : wlX12_isRow_23 p Post KX (wLX12_isRow_23 p Post KX n) x1 x2 x3 x4 := hw
    refine v_iload (pc := 23) C 4 rfl dX12_isRow_23 ?_
    refine v_aload_n (pc := 25) C 0 rfl rfl dX12_isRow_25 ?_
    refine v_get (pc := 26) C cfX12 rfl 0 4 rfl (by decide) wfX12_17 rfl dX12_isRow_26 ?_
    refine v_bipush (pc := 29) C 124 kb_124 dX12_isRow_29 ?_
    refine v_iald (pc := 31) C 2 rfl vi_124_126 tn_124 dX12_isRow_31 ?_
    refine v_icmp_ge (pc := 32) C 135 (by decide) dX12_isRow_32 (fun hc => ?_) (fun hc => ?_)
    · have hw := hw.1 hc
      refine v_sub (lv' := [(0, .ref (a 0)), (1, .int x1), (2, .int x2), (3, .int x3)]) [0, 1, 2, 3] rfl ?_
      exact hX x1 x2 x3 hw
    · have hw := hw.2 hc
      refine v_bipush (pc := 35) C 84 kb_84 dX12_isRow_35 ?_
      refine v_iconst (pc := 37) C 4 ki_4 dX12_isRow_37 ?_
      refine v_iload (pc := 38) C 4 rfl dX12_isRow_38 ?_
      refine v_imul (pc := 40) C dX12_isRow_40 ?_
      refine v_iadd (pc := 41) C dX12_isRow_41 ?_
      refine v_topi (fun x5_2 ex => ?_)
      have hw := hw x5_2 ex
      refine v_istore (pc := 42) C [(5, .int x5_2), (0, .ref (a 0)), (1, .int x1), (2, .int x2), (3, .int x3), (4, .int x4)] rfl (by decide) dX12_isRow_42 ?_
      refine v_aload_n (pc := 44) C 1 rfl rfl dX12_isRow_44 ?_
      refine v_iload_n (pc := 45) C 3 rfl rfl dX12_isRow_45 ?_
      refine v_goAi (pc := 46) C (wc' := (fun (_ : Unit) => (fl [bModel E a p]))) (fun _ => rfl) (v_runVA (pc := 46) C [.int x2] [] (fun sz => ctX12_placeOf l E a x2 p hw sz) mfX12_placeOf mvX12_placeOf wmX12_218 rfl ⟨Nat.le_of_ble_eq_true rfl, Nat.le_of_ble_eq_true rfl⟩ ⟨rfl, rfl⟩ 0 (ci := 12) (qc := (RX12, TX12, 30)) rfl rfl rfl rfl (Nat.le_of_ble_eq_true rfl) ⟨Nat.zero_le _, Nat.zero_le _⟩ dX12_isRow_46) (fun r3 _ hw => ?_)
      refine v_aload_n (pc := 49) C 1 rfl rfl dX12_isRow_49 ?_
      refine v_aload_n (pc := 50) C 1 rfl rfl dX12_isRow_50 ?_
      refine v_get (pc := 51) C cfX12 rfl 0 4 rfl (by decide) wfX12_17 rfl dX12_isRow_51 ?_
      refine v_iload (pc := 54) C 0 rfl dX12_isRow_54 ?_
      refine v_iconst (pc := 56) C 3 ki_3 dX12_isRow_56 ?_
      refine v_iadd (pc := 57) C dX12_isRow_57 ?_
      obtain ⟨hg, hw⟩ := hw
      refine v_iald (pc := 58) C 2 rfl hg rfl dX12_isRow_58 ?_
      refine v_goAi (pc := 59) C (wc' := (fun (_ : Unit) => (fl [bModel E a p]))) (fun _ => rfl) (v_runVA (pc := 59) C [.int ((p.A 4) (x5_2 + 3).toNatClampNeg)] [.int r3] (fun sz => ctX12_placeOf l E a ((p.A 4) (x5_2 + 3).toNatClampNeg) p hw sz) mfX12_placeOf mvX12_placeOf wmX12_218 rfl ⟨Nat.le_of_ble_eq_true rfl, Nat.le_of_ble_eq_true rfl⟩ ⟨rfl, rfl⟩ 0 (ci := 12) (qc := (RX12, TX12, 30)) rfl rfl rfl rfl (Nat.le_of_ble_eq_true rfl) ⟨Nat.zero_le _, Nat.zero_le _⟩ dX12_isRow_59) (fun r4 _ hw => ?_)
      refine v_isub (pc := 62) C dX12_isRow_62 ?_
      refine v_topi (fun x6_5 ex => ?_)
      have hw := hw x6_5 ex
      refine v_istore (pc := 63) C [(6, .int x6_5), (5, .int x5_2), (0, .ref (a 0)), (1, .int x1), (2, .int x2), (3, .int x3), (4, .int x4)] rfl (by decide) dX12_isRow_63 ?_
      refine v_iload (pc := 65) C 0 rfl dX12_isRow_65 ?_
      refine v_if_lt (pc := 67) C 113 (by decide) dX12_isRow_67 (fun hc => ?_) (fun hc => ?_)
      · have hw := hw.1 hc
        refine v_iconst (pc := 113) C 0 ki_0 dX12_isRow_113 ?_
        refine v_sub (lv' := [(0, .ref (a 0)), (1, .int x1), (2, .int x2), (3, .int x3), (4, .int x4)]) [2, 3, 4, 5, 6] rfl ?_
        exact vjX12_isRow_114 C hA a p x1 x2 x3 x4 0 hw hself hX
      · have hw := hw.2 hc
        refine v_aload_n (pc := 70) C 2 rfl rfl dX12_isRow_70 ?_
        refine v_get (pc := 71) C cfX12 rfl 0 4 rfl (by decide) wfX12_17 rfl dX12_isRow_71 ?_
        refine v_iload (pc := 74) C 1 rfl dX12_isRow_74 ?_
        refine v_iconst (pc := 76) C 2 ki_2 dX12_isRow_76 ?_
        refine v_iadd (pc := 77) C dX12_isRow_77 ?_
        obtain ⟨hg, hw⟩ := hw
        refine v_iald (pc := 78) C 2 rfl hg rfl dX12_isRow_78 ?_
        refine v_iload_n (pc := 79) C 3 rfl rfl dX12_isRow_79 ?_
        refine v_bipush (pc := 80) C 12 kb_12 dX12_isRow_80 ?_
        refine v_irem (pc := 82) C (by decide) dX12_isRow_82 ?_
        refine v_goBi (pc := 83) C (bs := [bModel E a p]) (cs := []) (cs' := (fun (_ : Unit) => [])) (bs' := (fun (_ : Unit) => [bModel E a p])) (w' := (fun (_ : Unit) => (fl [bModel E a p]))) [] rfl rfl (fun _ => rfl) (fun _ => rfl) (fun _ => rfl) (v_runSB (pc := 83) C [.int ((p.A 4) (x5_2 + 2).toNatClampNeg), .int (x1 - x1 / 12 * 12)] [] (fun sz => ctX12_has l E ((p.A 4) (x5_2 + 2).toNatClampNeg) (x1 - x1 / 12 * 12) hw sz) [] rfl rfl rfl mfX12_has msX12_has wmX12_93 rfl ⟨Nat.le_of_ble_eq_true rfl, Nat.le_of_ble_eq_true rfl⟩ ⟨rfl, rfl⟩ rfl (Nat.le_of_ble_eq_true rfl) ⟨Nat.zero_le _, Nat.zero_le _⟩ dX12_isRow_83) (fun r8 _ hw => ?_)
        refine v_if_eq (pc := 86) C 113 (by decide) dX12_isRow_86 (fun hc => ?_) (fun hc => ?_)
        · have hw := hw.1 hc
          refine v_iconst (pc := 113) C 0 ki_0 dX12_isRow_113 ?_
          refine v_sub (lv' := [(0, .ref (a 0)), (1, .int x1), (2, .int x2), (3, .int x3), (4, .int x4)]) [2, 3, 4, 5, 6] rfl ?_
          exact vjX12_isRow_114 C hA a p x1 x2 x3 x4 0 hw hself hX
        · have hw := hw.2 hc
          refine v_aload_n (pc := 89) C 2 rfl rfl dX12_isRow_89 ?_
          refine v_get (pc := 90) C cfX12 rfl 0 4 rfl (by decide) wfX12_17 rfl dX12_isRow_90 ?_
          refine v_iload (pc := 93) C 1 rfl dX12_isRow_93 ?_
          obtain ⟨hg, hw⟩ := hw
          refine v_iald (pc := 95) C 2 rfl hg rfl dX12_isRow_95 ?_
          refine v_aload_n (pc := 96) C 2 rfl rfl dX12_isRow_96 ?_
          refine v_get (pc := 97) C cfX12 rfl 0 4 rfl (by decide) wfX12_17 rfl dX12_isRow_97 ?_
          refine v_iload (pc := 100) C 1 rfl dX12_isRow_100 ?_
          refine v_iconst (pc := 102) C 1 ki_1 dX12_isRow_102 ?_
          refine v_iadd (pc := 103) C dX12_isRow_103 ?_
          obtain ⟨hg, hw⟩ := hw
          refine v_iald (pc := 104) C 2 rfl hg rfl dX12_isRow_104 ?_
          refine v_iload (pc := 105) C 0 rfl dX12_isRow_105 ?_
          refine v_goBi (pc := 107) C (bs := [bModel E a p]) (cs := []) (cs' := (fun (_ : Unit) => [])) (bs' := (fun (_ : Unit) => [bModel E a p])) (w' := (fun (_ : Unit) => (fl [bModel E a p]))) [] rfl rfl (fun _ => rfl) (fun _ => rfl) (fun _ => rfl) (v_runSB (pc := 107) C [.int ((p.A 4) x5_2.toNatClampNeg), .int ((p.A 4) (x5_2 + 1).toNatClampNeg), .int x6_5] [] (fun sz => ctX12_forceOf l E ((p.A 4) x5_2.toNatClampNeg) ((p.A 4) (x5_2 + 1).toNatClampNeg) x6_5 hw sz) [] rfl rfl rfl mfX12_forceOf msX12_forceOf wmX12_89 rfl ⟨Nat.le_of_ble_eq_true rfl, Nat.le_of_ble_eq_true rfl⟩ ⟨rfl, rfl⟩ rfl (Nat.le_of_ble_eq_true rfl) ⟨Nat.zero_le _, Nat.zero_le _⟩ dX12_isRow_107) (fun r9 _ hw => ?_)
          refine v_goto (pc := 110) C 114 (by decide) dX12_isRow_110 ?_
          refine v_sub (lv' := [(0, .ref (a 0)), (1, .int x1), (2, .int x2), (3, .int x3), (4, .int x4)]) [2, 3, 4, 5, 6] rfl ?_
          exact vjX12_isRow_114 C hA a p x1 x2 x3 x4 r9 hw hself hX
set_option maxHeartbeats 4000000 in
set_option maxRecDepth 100000 in
theorem vlX12_isRow_2 (C : VC pr s m args meth c E A cX12_isRow 8 (some .boolean) RX12) (hA : va_A w0 s.heap.size = A) (a : Nat → Nat) (p : St) {Post : Int32 → Prop} {KX : Prop} (hX : KX → V pr l e rmX12_isRow s m args below meth c E A 8 0 0 (MQ below (CQi E (fun (z : Int32) (_ : Unit) => Post z) (fun _ => (fl [bModel E a p])) w0 s.heap.size) args s 0 0 A) (fl [bModel E a p]) 156 [] []) : ∀ (n : Nat) (x1 : Int32), wLX12_isRow_2 p Post KX n x1 → V pr l e rmX12_isRow s m args below meth c E A 8 0 0 (MQ below (CQi E (fun (z : Int32) (_ : Unit) => Post z) (fun _ => (fl [bModel E a p])) w0 s.heap.size) args s 0 0 A) (fl [bModel E a p]) 2 [(0, .ref (a 0)), (1, .int x1)] [] := by
  intro n
  induction n with
  | zero => intro x1 hw; exact absurd hw id
  | succ n hself =>
    intro x1 hw
    have hw : wlX12_isRow_2 p Post KX (wLX12_isRow_2 p Post KX n) x1 := hw
    refine v_iload_n (pc := 2) C 1 rfl rfl dX12_isRow_2 ?_
    refine v_bipush (pc := 3) C 12 kb_12 dX12_isRow_3 ?_
    refine v_aload_n (pc := 5) C 0 rfl rfl dX12_isRow_5 ?_
    refine v_get (pc := 6) C cfX12 rfl 0 0 rfl (by decide) wfX12_7 rfl dX12_isRow_6 ?_
    refine v_imul (pc := 9) C dX12_isRow_9 ?_
    refine v_icmp_ge (pc := 10) C 156 (by decide) dX12_isRow_10 (fun hc => ?_) (fun hc => ?_)
    · have hw := hw.1 hc
      refine v_sub (lv' := []) [] rfl ?_
      exact hX  hw
    · have hw := hw.2 hc
      refine v_iload_n (pc := 13) C 1 rfl rfl dX12_isRow_13 ?_
      refine v_bipush (pc := 14) C 12 kb_12 dX12_isRow_14 ?_
      refine v_idiv (pc := 16) C (by decide) dX12_isRow_16 ?_
      refine v_topi (fun x2_1 ex => ?_)
      have hw := hw x2_1 ex
      refine v_istore_n (pc := 17) C [(2, .int x2_1), (0, .ref (a 0)), (1, .int x1)] rfl rfl (by decide) dX12_isRow_17 ?_
      refine v_iconst (pc := 18) C 0 ki_0 dX12_isRow_18 ?_
      refine v_istore_n (pc := 19) C [(3, .int 0), (2, .int x2_1), (0, .ref (a 0)), (1, .int x1)] rfl rfl (by decide) dX12_isRow_19 ?_
      refine v_iconst (pc := 20) C 0 ki_0 dX12_isRow_20 ?_
      refine v_istore (pc := 21) C [(4, .int 0), (3, .int 0), (2, .int x2_1), (0, .ref (a 0)), (1, .int x1)] rfl (by decide) dX12_isRow_21 ?_
      obtain ⟨n, hw⟩ := hw
      refine v_sub (lv' := [(0, .ref (a 0)), (1, .int x1), (2, .int x2_1), (3, .int 0), (4, .int 0)]) [3, 4, 2, 1, 0] rfl ?_
      refine vlX12_isRow_23 C hA a p (fun y10 y11 y12 hw => ?_) n x1 x2_1 0 0 hw
      refine v_iload_n (pc := 135) C 3 rfl rfl dX12_isRow_135 ?_
      refine v_aload_n (pc := 136) C 0 rfl rfl dX12_isRow_136 ?_
      refine v_iload_n (pc := 137) C 2 rfl rfl dX12_isRow_137 ?_
      refine v_iload_n (pc := 138) C 1 rfl rfl dX12_isRow_138 ?_
      refine v_bipush (pc := 139) C 12 kb_12 dX12_isRow_139 ?_
      refine v_irem (pc := 141) C (by decide) dX12_isRow_141 ?_
      refine v_goAi (pc := 142) C (wc' := (fun (_ : Unit) => (fl [bModel E a p]))) (fun _ => rfl) (v_runVA (pc := 142) C [.int y11, .int (y10 - y10 / 12 * 12)] [.int y12] (fun sz => ctX12_dentOf l E a y11 (y10 - y10 / 12 * 12) p hw sz) mfX12_dentOf mvX12_dentOf wmX12_181 rfl ⟨Nat.le_of_ble_eq_true rfl, Nat.le_of_ble_eq_true rfl⟩ ⟨rfl, rfl⟩ 0 (ci := 12) (qc := (RX12, TX12, 30)) rfl rfl rfl rfl (Nat.le_of_ble_eq_true rfl) ⟨Nat.zero_le _, Nat.zero_le _⟩ dX12_isRow_142) (fun r13 _ hw => ?_)
      refine v_icmp_eq (pc := 145) C 150 (by decide) dX12_isRow_145 (fun hc => ?_) (fun hc => ?_)
      · have hw := hw.1 hc
        obtain ⟨x1_14, ex⟩ : ∃ y : Int32, y = y10 + 1 := ⟨_, rfl⟩
        have hw := hw x1_14 ex
        refine v_iinc (pc := 150) C 1 rfl (by rw [ex, ki_1]) [(1, .int x1_14), (0, .ref (a 0)), (2, .int y11), (3, .int y12)] rfl (by decide) dX12_isRow_150 ?_
        refine v_goto (pc := 153) C 2 (by decide) dX12_isRow_153 ?_
        refine v_sub (lv' := [(0, .ref (a 0)), (1, .int x1_14)]) [1, 0] rfl ?_
        exact hself x1_14 hw
      · have hw := hw.2 hc
        refine v_iconst (pc := 148) C 0 ki_0 dX12_isRow_148 ?_
        exact v_iretz (pc := 149) C rfl () hA rfl hw dX12_isRow_149
set_option maxHeartbeats 4000000 in
set_option maxRecDepth 100000 in
theorem ctX12_isRow (l : Launch) (E : VE) (a : Nat → Nat)  (p : St)  {Post : Int32 → Prop} (hw : wpX12_isRow p Post) (sz : Nat) : Met l yX12_isRow (mW yX12_isRow cX12_isRow 8 (some .boolean)) rmX12_isRow (CPre E [.ref (a 0)] sz (fl [bModel E a p])) (CQi E (fun (z : Int32) (_ : Unit) => Post z) (fun _ => (fl [bModel E a p])) (fl [bModel E a p]) sz) 0 0 (va_A (fl [bModel E a p]) sz) := by
  refine v_met (by decide) (Nat.le_of_ble_eq_true rfl) ?_
  intro pr e s m below meth c A hsz hA C
  subst hsz
  refine v_iconst (pc := 0) C 0 ki_0 dX12_isRow_0 ?_
  refine v_istore_n (pc := 1) C [(1, .int 0), (0, .ref (a 0))] rfl rfl (by decide) dX12_isRow_1 ?_
  obtain ⟨n, hw⟩ := hw
  refine v_sub (lv' := [(0, .ref (a 0)), (1, .int 0)]) [1, 0] rfl ?_
  refine vlX12_isRow_2 C hA a p (fun hw => ?_) n 0 hw
  refine v_iconst (pc := 156) C 1 ki_1 dX12_isRow_156 ?_
  exact v_iretz (pc := 157) C rfl () hA rfl hw dX12_isRow_157
set_option maxHeartbeats 4000000 in
set_option maxRecDepth 100000 in
theorem vlX12_orders_12 (C : VC pr s m args meth c E A cX12_orders 5 (some .int) RX12) (hA : va_A w0 s.heap.size = A) (a : Nat → Nat)  {Post : Int32 → St → Prop} {KX : Int32 → St → Prop} (hX : ∀ (x1 : Int32) (p : St), KX x1 p → V pr l e rmX12_orders s m args below meth c E A 5 0 0 (MQ below (CQi E Post (fun u => (fl [bModel E a u])) w0 s.heap.size) args s 0 0 A) (fl [bModel E a p]) 33 [(0, .ref (a 0)), (1, .int x1)] []) : ∀ (n : Nat) (x1 : Int32) (x2 : Int32) (p : St), wLX12_orders_12  Post KX n (x1, x2, p) → V pr l e rmX12_orders s m args below meth c E A 5 0 0 (MQ below (CQi E Post (fun u => (fl [bModel E a u])) w0 s.heap.size) args s 0 0 A) (fl [bModel E a p]) 12 [(0, .ref (a 0)), (1, .int x1), (2, .int x2)] [] := by
  intro n
  induction n with
  | zero => intro x1 x2 p hw; exact absurd hw id
  | succ n hself =>
    intro x1 x2 p hw
    have hw : wlX12_orders_12  Post KX (wLX12_orders_12  Post KX n) x1 x2 p := hw
    refine v_iload_n (pc := 12) C 2 rfl rfl dX12_orders_12 ?_
    refine v_aload_n (pc := 13) C 0 rfl rfl dX12_orders_13 ?_
    refine v_get (pc := 14) C cfX12 rfl 0 0 rfl (by decide) wfX12_7 rfl dX12_orders_14 ?_
    refine v_icmp_ge (pc := 17) C 33 (by decide) dX12_orders_17 (fun hc => ?_) (fun hc => ?_)
    · have hw := hw.1 hc
      refine v_sub (lv' := [(0, .ref (a 0)), (1, .int x1)]) [0, 1] rfl ?_
      exact hX x1 p hw
    · have hw := hw.2 hc
      refine v_aload_n (pc := 20) C 0 rfl rfl dX12_orders_20 ?_
      refine v_get (pc := 21) C cfX12 rfl 0 23 rfl (by decide) wfX12_36 rfl dX12_orders_21 ?_
      refine v_iload_n (pc := 24) C 2 rfl rfl dX12_orders_24 ?_
      refine v_iload_n (pc := 25) C 2 rfl rfl dX12_orders_25 ?_
      obtain ⟨hg, hw⟩ := hw
      obtain ⟨p1, es⟩ : ∃ y : St, y = p.sA 23 (upd (p.A 23) x2.toNatClampNeg x2) := ⟨_, rfl⟩
      have hw := hw p1 es
      refine v_iast (pc := 26) C 7 (w' := (fl [bModel E a p1])) rfl rfl (by subst es; rfl) hg dX12_orders_26 ?_
      obtain ⟨x2_2, ex⟩ : ∃ y : Int32, y = x2 + 1 := ⟨_, rfl⟩
      have hw := hw x2_2 ex
      refine v_iinc (pc := 27) C 2 rfl (by rw [ex, ki_1]) [(2, .int x2_2), (0, .ref (a 0)), (1, .int x1)] rfl (by decide) dX12_orders_27 ?_
      refine v_goto (pc := 30) C 12 (by decide) dX12_orders_30 ?_
      refine v_sub (lv' := [(0, .ref (a 0)), (1, .int x1), (2, .int x2_2)]) [1, 2, 0] rfl ?_
      exact hself x1 x2_2 p1 hw
set_option maxHeartbeats 4000000 in
set_option maxRecDepth 100000 in
theorem vjX12_orders_87 (C : VC pr s m args meth c E A cX12_orders 5 (some .int) RX12) (hA : va_A w0 s.heap.size = A) (a : Nat → Nat)  {Post : Int32 → St → Prop} {self : (Int32 × Int32 × Int32 × St) → Prop} {KX : Int32 → Int32 → St → Prop} (x1 : Int32) (x2 : Int32) (p : St) (hw : wjX12_orders_87  Post self KX x1 x2 p) (hself : ∀ (x1 : Int32) (x2 : Int32) (x3 : Int32) (p : St), self (x1, x2, x3, p) → V pr l e rmX12_orders s m args below meth c E A 5 0 0 (MQ below (CQi E Post (fun u => (fl [bModel E a u])) w0 s.heap.size) args s 0 0 A) (fl [bModel E a p]) 37 [(0, .ref (a 0)), (1, .int x1), (2, .int x2), (3, .int x3)] []) (hX : ∀ (x1 : Int32) (x2 : Int32) (p : St), KX x1 x2 p → V pr l e rmX12_orders s m args below meth c E A 5 0 0 (MQ below (CQi E Post (fun u => (fl [bModel E a u])) w0 s.heap.size) args s 0 0 A) (fl [bModel E a p]) 95 [(0, .ref (a 0)), (1, .int x1), (2, .int x2)] []) : V pr l e rmX12_orders s m args below meth c E A 5 0 0 (MQ below (CQi E Post (fun u => (fl [bModel E a u])) w0 s.heap.size) args s 0 0 A) (fl [bModel E a p]) 87 [(0, .ref (a 0)), (1, .int x1), (2, .int x2)] [] := by
  refine v_aload_n (pc := 87) C 0 rfl rfl dX12_orders_87 ?_
  refine v_goAi (pc := 88) C (wc' := (fun (u : St) => (fl [bModel E a u]))) (fun _ => rfl) (v_runVA (pc := 88) C [] [] (fun sz => ctX12_nextRow l E a p hw sz) mfX12_nextRow mvX12_nextRow wmX12_224 rfl ⟨Nat.le_of_ble_eq_true rfl, Nat.le_of_ble_eq_true rfl⟩ ⟨rfl, rfl⟩ 0 (ci := 12) (qc := (RX12, TX12, 30)) rfl rfl rfl rfl (Nat.le_of_ble_eq_true rfl) ⟨Nat.zero_le _, Nat.zero_le _⟩ dX12_orders_88) (fun r6 p7 hw => ?_)
  refine v_istore_n (pc := 91) C [(3, .int r6), (0, .ref (a 0)), (1, .int x1), (2, .int x2)] rfl rfl (by decide) dX12_orders_91 ?_
  refine v_goto (pc := 92) C 37 (by decide) dX12_orders_92 ?_
  refine v_sub (lv' := [(0, .ref (a 0)), (1, .int x1), (2, .int x2), (3, .int r6)]) [1, 2, 3, 0] rfl ?_
  exact hself x1 x2 r6 p7 hw
set_option maxHeartbeats 4000000 in
set_option maxRecDepth 100000 in
theorem vlX12_orders_51 (C : VC pr s m args meth c E A cX12_orders 5 (some .int) RX12) (hA : va_A w0 s.heap.size = A) (a : Nat → Nat)  {Post : Int32 → St → Prop} {KX : Int32 → Int32 → St → Prop} (hX : ∀ (x1 : Int32) (x2 : Int32) (p : St), KX x1 x2 p → V pr l e rmX12_orders s m args below meth c E A 5 0 0 (MQ below (CQi E Post (fun u => (fl [bModel E a u])) w0 s.heap.size) args s 0 0 A) (fl [bModel E a p]) 84 [(0, .ref (a 0)), (1, .int x1), (2, .int x2)] []) : ∀ (n : Nat) (x1 : Int32) (x2 : Int32) (x4 : Int32) (p : St), wLX12_orders_51  Post KX n (x1, x2, x4, p) → V pr l e rmX12_orders s m args below meth c E A 5 0 0 (MQ below (CQi E Post (fun u => (fl [bModel E a u])) w0 s.heap.size) args s 0 0 A) (fl [bModel E a p]) 51 [(0, .ref (a 0)), (1, .int x1), (2, .int x2), (4, .int x4)] [] := by
  intro n
  induction n with
  | zero => intro x1 x2 x4 p hw; exact absurd hw id
  | succ n hself =>
    intro x1 x2 x4 p hw
    have hw : wlX12_orders_51  Post KX (wLX12_orders_51  Post KX n) x1 x2 x4 p := hw
    refine v_iload (pc := 51) C 3 rfl dX12_orders_51 ?_
    refine v_aload_n (pc := 53) C 0 rfl rfl dX12_orders_53 ?_
    refine v_get (pc := 54) C cfX12 rfl 0 0 rfl (by decide) wfX12_7 rfl dX12_orders_54 ?_
    refine v_icmp_ge (pc := 57) C 84 (by decide) dX12_orders_57 (fun hc => ?_) (fun hc => ?_)
    · have hw := hw.1 hc
      refine v_sub (lv' := [(0, .ref (a 0)), (1, .int x1), (2, .int x2)]) [0, 1, 2] rfl ?_
      exact hX x1 x2 p hw
    · have hw := hw.2 hc
      refine v_iload_n (pc := 60) C 2 rfl rfl dX12_orders_60 ?_
      refine v_if_ne (pc := 61) C 84 (by decide) dX12_orders_61 (fun hc => ?_) (fun hc => ?_)
      · have hw := hw.1 hc
        refine v_sub (lv' := [(0, .ref (a 0)), (1, .int x1), (2, .int x2)]) [0, 1, 2] rfl ?_
        exact hX x1 x2 p hw
      · have hw := hw.2 hc
        refine v_aload_n (pc := 64) C 0 rfl rfl dX12_orders_64 ?_
        refine v_get (pc := 65) C cfX12 rfl 0 24 rfl (by decide) wfX12_39 rfl dX12_orders_65 ?_
        refine v_iload (pc := 68) C 3 rfl dX12_orders_68 ?_
        refine v_aload_n (pc := 70) C 0 rfl rfl dX12_orders_70 ?_
        refine v_get (pc := 71) C cfX12 rfl 0 23 rfl (by decide) wfX12_36 rfl dX12_orders_71 ?_
        refine v_iload (pc := 74) C 3 rfl dX12_orders_74 ?_
        obtain ⟨hg, hw⟩ := hw
        refine v_iald (pc := 76) C 7 rfl hg rfl dX12_orders_76 ?_
        obtain ⟨hg, hw⟩ := hw
        obtain ⟨p8, es⟩ : ∃ y : St, y = p.sA 24 (upd (p.A 24) x4.toNatClampNeg ((p.A 23) x4.toNatClampNeg)) := ⟨_, rfl⟩
        have hw := hw p8 es
        refine v_iast (pc := 77) C 8 (w' := (fl [bModel E a p8])) rfl rfl (by subst es; rfl) hg dX12_orders_77 ?_
        obtain ⟨x4_9, ex⟩ : ∃ y : Int32, y = x4 + 1 := ⟨_, rfl⟩
        have hw := hw x4_9 ex
        refine v_iinc (pc := 78) C 3 rfl (by rw [ex, ki_1]) [(4, .int x4_9), (0, .ref (a 0)), (1, .int x1), (2, .int x2)] rfl (by decide) dX12_orders_78 ?_
        refine v_goto (pc := 81) C 51 (by decide) dX12_orders_81 ?_
        refine v_sub (lv' := [(0, .ref (a 0)), (1, .int x1), (2, .int x2), (4, .int x4_9)]) [1, 2, 3, 0] rfl ?_
        exact hself x1 x2 x4_9 p8 hw
set_option maxHeartbeats 4000000 in
set_option maxRecDepth 100000 in
theorem vlX12_orders_37 (C : VC pr s m args meth c E A cX12_orders 5 (some .int) RX12) (hA : va_A w0 s.heap.size = A) (a : Nat → Nat)  {Post : Int32 → St → Prop} {KX : Int32 → Int32 → St → Prop} (hX : ∀ (x1 : Int32) (x2 : Int32) (p : St), KX x1 x2 p → V pr l e rmX12_orders s m args below meth c E A 5 0 0 (MQ below (CQi E Post (fun u => (fl [bModel E a u])) w0 s.heap.size) args s 0 0 A) (fl [bModel E a p]) 95 [(0, .ref (a 0)), (1, .int x1), (2, .int x2)] []) : ∀ (n : Nat) (x1 : Int32) (x2 : Int32) (x3 : Int32) (p : St), wLX12_orders_37  Post KX n (x1, x2, x3, p) → V pr l e rmX12_orders s m args below meth c E A 5 0 0 (MQ below (CQi E Post (fun u => (fl [bModel E a u])) w0 s.heap.size) args s 0 0 A) (fl [bModel E a p]) 37 [(0, .ref (a 0)), (1, .int x1), (2, .int x2), (3, .int x3)] [] := by
  intro n
  induction n with
  | zero => intro x1 x2 x3 p hw; exact absurd hw id
  | succ n hself =>
    intro x1 x2 x3 p hw
    have hw : wlX12_orders_37  Post KX (wLX12_orders_37  Post KX n) x1 x2 x3 p := hw
    refine v_iload_n (pc := 37) C 3 rfl rfl dX12_orders_37 ?_
    refine v_if_eq (pc := 38) C 95 (by decide) dX12_orders_38 (fun hc => ?_) (fun hc => ?_)
    · have hw := hw.1 hc
      refine v_sub (lv' := [(0, .ref (a 0)), (1, .int x1), (2, .int x2)]) [0, 1, 2] rfl ?_
      exact hX x1 x2 p hw
    · have hw := hw.2 hc
      refine v_aload_n (pc := 41) C 0 rfl rfl dX12_orders_41 ?_
      refine v_goAi (pc := 42) C (wc' := (fun (_ : Unit) => (fl [bModel E a p]))) (fun _ => rfl) (v_runVA (pc := 42) C [] [] (fun sz => ctX12_isRow l E a p hw sz) mfX12_isRow mvX12_isRow wmX12_221 rfl ⟨Nat.le_of_ble_eq_true rfl, Nat.le_of_ble_eq_true rfl⟩ ⟨rfl, rfl⟩ 0 (ci := 12) (qc := (RX12, TX12, 30)) rfl rfl rfl rfl (Nat.le_of_ble_eq_true rfl) ⟨Nat.zero_le _, Nat.zero_le _⟩ dX12_orders_42) (fun r5 _ hw => ?_)
      refine v_if_eq (pc := 45) C 87 (by decide) dX12_orders_45 (fun hc => ?_) (fun hc => ?_)
      · have hw := hw.1 hc
        refine v_sub (lv' := [(0, .ref (a 0)), (1, .int x1), (2, .int x2)]) [0, 1, 2] rfl ?_
        exact vjX12_orders_87 C hA a  x1 x2 p hw hself hX
      · have hw := hw.2 hc
        refine v_iconst (pc := 48) C 0 ki_0 dX12_orders_48 ?_
        refine v_istore (pc := 49) C [(4, .int 0), (0, .ref (a 0)), (1, .int x1), (2, .int x2), (3, .int x3)] rfl (by decide) dX12_orders_49 ?_
        obtain ⟨n, hw⟩ := hw
        refine v_sub (lv' := [(0, .ref (a 0)), (1, .int x1), (2, .int x2), (4, .int 0)]) [1, 2, 3, 0] rfl ?_
        refine vlX12_orders_51 C hA a  (fun y10 y11 p12 hw => ?_) n x1 x2 0 p hw
        obtain ⟨x2_13, ex⟩ : ∃ y : Int32, y = y11 + 1 := ⟨_, rfl⟩
        have hw := hw x2_13 ex
        refine v_iinc (pc := 84) C 2 rfl (by rw [ex, ki_1]) [(2, .int x2_13), (0, .ref (a 0)), (1, .int y10)] rfl (by decide) dX12_orders_84 ?_
        refine v_sub (lv' := [(0, .ref (a 0)), (1, .int y10), (2, .int x2_13)]) [1, 2, 0] rfl ?_
        exact vjX12_orders_87 C hA a  y10 x2_13 p12 hw hself hX
set_option maxHeartbeats 4000000 in
set_option maxRecDepth 100000 in
theorem ctX12_orders (l : Launch) (E : VE) (a : Nat → Nat) (x1 : Int32) (p : St)  {Post : Int32 → St → Prop} (hw : wpX12_orders x1 p Post) (sz : Nat) : Met l yX12_orders (mW yX12_orders cX12_orders 5 (some .int)) rmX12_orders (CPre E [.ref (a 0), .int x1] sz (fl [bModel E a p])) (CQi E Post (fun u => (fl [bModel E a u])) (fl [bModel E a p]) sz) 0 0 (va_A (fl [bModel E a p]) sz) := by
  refine v_met (by decide) (Nat.le_of_ble_eq_true rfl) ?_
  intro pr e s m below meth c A hsz hA C
  subst hsz
  refine v_iload_n (pc := 0) C 1 rfl rfl dX12_orders_0 ?_
  refine v_iconst (pc := 1) C (-1) ki_m1 dX12_orders_1 ?_
  refine v_icmp_ge (pc := 2) C 10 (by decide) dX12_orders_2 (fun hc => ?_) (fun hc => ?_)
  · have hw := hw.1 hc
    refine v_iconst (pc := 10) C 0 ki_0 dX12_orders_10 ?_
    refine v_istore_n (pc := 11) C [(2, .int 0), (0, .ref (a 0)), (1, .int x1)] rfl rfl (by decide) dX12_orders_11 ?_
    obtain ⟨n, hw⟩ := hw
    refine v_sub (lv' := [(0, .ref (a 0)), (1, .int x1), (2, .int 0)]) [1, 2, 0] rfl ?_
    refine vlX12_orders_12 C hA a  (fun y3 p4 hw => ?_) n x1 0 p hw
    refine v_iconst (pc := 33) C 0 ki_0 dX12_orders_33 ?_
    refine v_istore_n (pc := 34) C [(2, .int 0), (0, .ref (a 0)), (1, .int y3)] rfl rfl (by decide) dX12_orders_34 ?_
    refine v_iconst (pc := 35) C 1 ki_1 dX12_orders_35 ?_
    refine v_istore_n (pc := 36) C [(3, .int 1), (2, .int 0), (0, .ref (a 0)), (1, .int y3)] rfl rfl (by decide) dX12_orders_36 ?_
    obtain ⟨n, hw⟩ := hw
    refine v_sub (lv' := [(0, .ref (a 0)), (1, .int y3), (2, .int 0), (3, .int 1)]) [2, 3, 1, 0] rfl ?_
    refine vlX12_orders_37 C hA a  (fun y14 y15 p16 hw => ?_) n y3 0 1 p4 hw
    refine v_iload_n (pc := 95) C 1 rfl rfl dX12_orders_95 ?_
    refine v_iconst (pc := 96) C (-1) ki_m1 dX12_orders_96 ?_
    refine v_icmp_ne (pc := 97) C 104 (by decide) dX12_orders_97 (fun hc => ?_) (fun hc => ?_)
    · have hw := hw.1 hc
      refine v_iload_n (pc := 104) C 2 rfl rfl dX12_orders_104 ?_
      refine v_if_ne (pc := 105) C 112 (by decide) dX12_orders_105 (fun hc => ?_) (fun hc => ?_)
      · have hw := hw.1 hc
        refine v_iload_n (pc := 112) C 1 rfl rfl dX12_orders_112 ?_
        refine v_aload_n (pc := 113) C 0 rfl rfl dX12_orders_113 ?_
        refine v_get (pc := 114) C cfX12 rfl 0 0 rfl (by decide) wfX12_7 rfl dX12_orders_114 ?_
        refine v_icmp_lt (pc := 117) C 125 (by decide) dX12_orders_117 (fun hc => ?_) (fun hc => ?_)
        · have hw := hw.1 hc
          refine v_aload_n (pc := 125) C 0 rfl rfl dX12_orders_125 ?_
          refine v_get (pc := 126) C cfX12 rfl 0 24 rfl (by decide) wfX12_39 rfl dX12_orders_126 ?_
          refine v_iload_n (pc := 129) C 1 rfl rfl dX12_orders_129 ?_
          obtain ⟨hg, hw⟩ := hw
          refine v_iald (pc := 130) C 8 rfl hg rfl dX12_orders_130 ?_
          exact v_ireti (pc := 131) C p16 hA rfl hw dX12_orders_131
        · have hw := hw.2 hc
          refine v_bipush (pc := 120) C (-5) kb_m5 dX12_orders_120 ?_
          refine v_goto (pc := 122) C 131 (by decide) dX12_orders_122 ?_
          exact v_ireti (pc := 131) C p16 hA rfl hw dX12_orders_131
      · have hw := hw.2 hc
        refine v_iconst (pc := 108) C (-1) ki_m1 dX12_orders_108 ?_
        refine v_goto (pc := 109) C 131 (by decide) dX12_orders_109 ?_
        exact v_ireti (pc := 131) C p16 hA rfl hw dX12_orders_131
    · have hw := hw.2 hc
      refine v_iload_n (pc := 100) C 2 rfl rfl dX12_orders_100 ?_
      refine v_goto (pc := 101) C 131 (by decide) dX12_orders_101 ?_
      exact v_ireti (pc := 131) C p16 hA rfl hw dX12_orders_131
  · have hw := hw.2 hc
    refine v_aload_n (pc := 5) C 0 rfl rfl dX12_orders_5 ?_
    refine v_goAi (pc := 6) C (wc' := (fun (u : St) => (fl [bModel E a u]))) (fun _ => rfl) (v_runVA (pc := 6) C [] [] (fun sz => ctX12_badLess l E a p hw sz) mfX12_badLess mvX12_badLess wmX12_175 rfl ⟨Nat.le_of_ble_eq_true rfl, Nat.le_of_ble_eq_true rfl⟩ ⟨rfl, rfl⟩ 0 (ci := 12) (qc := (RX12, TX12, 30)) rfl rfl rfl rfl (Nat.le_of_ble_eq_true rfl) ⟨Nat.zero_le _, Nat.zero_le _⟩ dX12_orders_6) (fun r17 p18 hw => ?_)
    exact v_ireti (pc := 9) C p18 hA rfl hw dX12_orders_9
set_option maxHeartbeats 4000000 in
set_option maxRecDepth 100000 in
theorem vjX12_press_24 (C : VC pr s m args meth c E A cX12_press 4 (some .int) RX12) (hA : va_A w0 s.heap.size = A) (a : Nat → Nat)  {Post : Int32 → St → Prop} (p : St) (hw : wjX12_press_24  Post p) : V pr l e rmX12_press s m args below meth c E A 4 0 0 (MQ below (CQi E Post (fun u => (fl [bModel E a u])) w0 s.heap.size) args s 0 0 A) (fl [bModel E a p]) 24 [(0, .ref (a 0))] [] := by
  refine v_aload_n (pc := 24) C 0 rfl rfl dX12_press_24 ?_
  refine v_goAi (pc := 25) C (wc' := (fun (u : St) => (fl [bModel E a u]))) (fun _ => rfl) (v_runVA (pc := 25) C [] [] (fun sz => ctX12_bad l E a p hw sz) mfX12_bad mvX12_bad wmX12_75 rfl ⟨Nat.le_of_ble_eq_true rfl, Nat.le_of_ble_eq_true rfl⟩ ⟨rfl, rfl⟩ 0 (ci := 12) (qc := (RX12, TX12, 30)) rfl rfl rfl rfl (Nat.le_of_ble_eq_true rfl) ⟨Nat.zero_le _, Nat.zero_le _⟩ dX12_press_25) (fun r2 p3 hw => ?_)
  exact v_ireti (pc := 28) C p3 hA rfl hw dX12_press_28
set_option maxHeartbeats 4000000 in
set_option maxRecDepth 100000 in
theorem vlX12_press_31 (C : VC pr s m args meth c E A cX12_press 4 (some .int) RX12) (hA : va_A w0 s.heap.size = A) (a : Nat → Nat)  {Post : Int32 → St → Prop} {KX : St → Prop} (hX : ∀ (p : St), KX p → V pr l e rmX12_press s m args below meth c E A 4 0 0 (MQ below (CQi E Post (fun u => (fl [bModel E a u])) w0 s.heap.size) args s 0 0 A) (fl [bModel E a p]) 55 [] []) : ∀ (n : Nat) (x1 : Int32) (x2 : Int32) (x3 : Int32) (p : St), wLX12_press_31  Post KX n (x1, x2, x3, p) → V pr l e rmX12_press s m args below meth c E A 4 0 0 (MQ below (CQi E Post (fun u => (fl [bModel E a u])) w0 s.heap.size) args s 0 0 A) (fl [bModel E a p]) 31 [(1, .int x1), (2, .int x2), (3, .int x3)] [] := by
  intro n
  induction n with
  | zero => intro x1 x2 x3 p hw; exact absurd hw id
  | succ n hself =>
    intro x1 x2 x3 p hw
    have hw : wlX12_press_31  Post KX (wLX12_press_31  Post KX n) x1 x2 x3 p := hw
    refine v_iload_n (pc := 31) C 2 rfl rfl dX12_press_31 ?_
    refine v_bipush (pc := 32) C 9 kb_9 dX12_press_32 ?_
    refine v_icmp_gt (pc := 34) C 55 (by decide) dX12_press_34 (fun hc => ?_) (fun hc => ?_)
    · have hw := hw.1 hc
      refine v_sub (lv' := []) [] rfl ?_
      exact hX p hw
    · have hw := hw.2 hc
      refine v_iload_n (pc := 37) C 0 rfl rfl dX12_press_37 ?_
      refine v_iload_n (pc := 38) C 2 rfl rfl dX12_press_38 ?_
      refine v_iload_n (pc := 39) C 1 rfl rfl dX12_press_39 ?_
      refine v_goBi (pc := 40) C (bs := [bModel E a p]) (cs := []) (cs' := (fun (_ : Unit) => [])) (bs' := (fun (_ : Unit) => [bModel E a p])) (w' := (fun (_ : Unit) => (fl [bModel E a p]))) [] rfl rfl (fun _ => rfl) (fun _ => rfl) (fun _ => rfl) (v_runSB (pc := 40) C [.int x1, .int x3, .int x2] [] (fun sz => ctX12_forceOf l E x1 x3 x2 hw sz) [] rfl rfl rfl mfX12_forceOf msX12_forceOf wmX12_89 rfl ⟨Nat.le_of_ble_eq_true rfl, Nat.le_of_ble_eq_true rfl⟩ ⟨rfl, rfl⟩ rfl (Nat.le_of_ble_eq_true rfl) ⟨Nat.zero_le _, Nat.zero_le _⟩ dX12_press_40) (fun r5 _ hw => ?_)
      refine v_iconst (pc := 43) C 2 ki_2 dX12_press_43 ?_
      refine v_icmp_lt (pc := 44) C 49 (by decide) dX12_press_44 (fun hc => ?_) (fun hc => ?_)
      · have hw := hw.1 hc
        obtain ⟨x3_6, ex⟩ : ∃ y : Int32, y = x3 + 1 := ⟨_, rfl⟩
        have hw := hw x3_6 ex
        refine v_iinc (pc := 49) C 2 rfl (by rw [ex, ki_1]) [(3, .int x3_6), (1, .int x1), (2, .int x2)] rfl (by decide) dX12_press_49 ?_
        refine v_goto (pc := 52) C 31 (by decide) dX12_press_52 ?_
        refine v_sub (lv' := [(1, .int x1), (2, .int x2), (3, .int x3_6)]) [1, 2, 0] rfl ?_
        exact hself x1 x2 x3_6 p hw
      · have hw := hw.2 hc
        refine v_iload_n (pc := 47) C 2 rfl rfl dX12_press_47 ?_
        exact v_ireti (pc := 48) C p hA rfl hw dX12_press_48
set_option maxHeartbeats 4000000 in
set_option maxRecDepth 100000 in
theorem ctX12_press (l : Launch) (E : VE) (a : Nat → Nat) (x1 : Int32) (x2 : Int32) (p : St)  {Post : Int32 → St → Prop} (hw : wpX12_press x1 x2 p Post) (sz : Nat) : Met l yX12_press (mW yX12_press cX12_press 4 (some .int)) rmX12_press (CPre E [.ref (a 0), .int x1, .int x2] sz (fl [bModel E a p])) (CQi E Post (fun u => (fl [bModel E a u])) (fl [bModel E a p]) sz) 0 0 (va_A (fl [bModel E a p]) sz) := by
  refine v_met (by decide) (Nat.le_of_ble_eq_true rfl) ?_
  intro pr e s m below meth c A hsz hA C
  subst hsz
  refine v_iload_n (pc := 0) C 1 rfl rfl dX12_press_0 ?_
  refine v_i2l (pc := 1) C dX12_press_1 ?_
  refine v_lconst (pc := 2) C 0 kl_0 dX12_press_2 ?_
  refine v_ldc2 (pc := 3) C 5 wlX12_60 dX12_press_3 ?_
  refine v_goBi (pc := 6) C (bs := [bModel E a p]) (cs := []) (cs' := (fun (_ : Unit) => [])) (bs' := (fun (_ : Unit) => [bModel E a p])) (w' := (fun (_ : Unit) => (fl [bModel E a p]))) [] rfl rfl (fun _ => rfl) (fun _ => rfl) (fun _ => rfl) (v_runSB (pc := 6) C [.long (x1.toInt64), .long 0, .long 5] [] (fun sz => ctX12_in l E (x1.toInt64) 0 5 hw sz) [] rfl rfl rfl mfX12_in msX12_in wmX12_56 rfl ⟨Nat.le_of_ble_eq_true rfl, Nat.le_of_ble_eq_true rfl⟩ ⟨rfl, rfl⟩ rfl (Nat.le_of_ble_eq_true rfl) ⟨Nat.zero_le _, Nat.zero_le _⟩ dX12_press_6) (fun r1 _ hw => ?_)
  refine v_if_eq (pc := 9) C 24 (by decide) dX12_press_9 (fun hc => ?_) (fun hc => ?_)
  · have hw := hw.1 hc
    refine v_sub (lv' := [(0, .ref (a 0))]) [0] rfl ?_
    exact vjX12_press_24 C hA a  p hw
  · have hw := hw.2 hc
    refine v_iload_n (pc := 12) C 2 rfl rfl dX12_press_12 ?_
    refine v_i2l (pc := 13) C dX12_press_13 ?_
    refine v_lconst (pc := 14) C 1 kl_1 dX12_press_14 ?_
    refine v_ldc2 (pc := 15) C 5 wlX12_60 dX12_press_15 ?_
    refine v_goBi (pc := 18) C (bs := [bModel E a p]) (cs := []) (cs' := (fun (_ : Unit) => [])) (bs' := (fun (_ : Unit) => [bModel E a p])) (w' := (fun (_ : Unit) => (fl [bModel E a p]))) [] rfl rfl (fun _ => rfl) (fun _ => rfl) (fun _ => rfl) (v_runSB (pc := 18) C [.long (x2.toInt64), .long 1, .long 5] [] (fun sz => ctX12_in l E (x2.toInt64) 1 5 hw sz) [] rfl rfl rfl mfX12_in msX12_in wmX12_56 rfl ⟨Nat.le_of_ble_eq_true rfl, Nat.le_of_ble_eq_true rfl⟩ ⟨rfl, rfl⟩ rfl (Nat.le_of_ble_eq_true rfl) ⟨Nat.zero_le _, Nat.zero_le _⟩ dX12_press_18) (fun r4 _ hw => ?_)
    refine v_if_ne (pc := 21) C 29 (by decide) dX12_press_21 (fun hc => ?_) (fun hc => ?_)
    · have hw := hw.1 hc
      refine v_iconst (pc := 29) C 1 ki_1 dX12_press_29 ?_
      refine v_istore_n (pc := 30) C [(3, .int 1), (0, .ref (a 0)), (1, .int x1), (2, .int x2)] rfl rfl (by decide) dX12_press_30 ?_
      obtain ⟨n, hw⟩ := hw
      refine v_sub (lv' := [(1, .int x1), (2, .int x2), (3, .int 1)]) [2, 3, 0] rfl ?_
      refine vlX12_press_31 C hA a  (fun p7 hw => ?_) n x1 x2 1 p hw
      refine v_iconst (pc := 55) C (-1) ki_m1 dX12_press_55 ?_
      exact v_ireti (pc := 56) C p7 hA rfl hw dX12_press_56
    · have hw := hw.2 hc
      refine v_sub (lv' := [(0, .ref (a 0))]) [0] rfl ?_
      exact vjX12_press_24 C hA a  p hw
set_option maxHeartbeats 4000000 in
set_option maxRecDepth 100000 in
theorem vjX12_copies_56 (C : VC pr s m args meth c E A cX12_copies 9 (some .int) RX12) (hA : va_A w0 s.heap.size = A) (a : Nat → Nat)  {Post : Int32 → St → Prop} (p : St) (hw : wjX12_copies_56  Post p) : V pr l e rmX12_copies s m args below meth c E A 9 0 0 (MQ below (CQi E Post (fun u => (fl [bModel E a u])) w0 s.heap.size) args s 0 0 A) (fl [bModel E a p]) 56 [(0, .ref (a 0))] [] := by
  refine v_aload_n (pc := 56) C 0 rfl rfl dX12_copies_56 ?_
  refine v_goAi (pc := 57) C (wc' := (fun (u : St) => (fl [bModel E a u]))) (fun _ => rfl) (v_runVA (pc := 57) C [] [] (fun sz => ctX12_badLess l E a p hw sz) mfX12_badLess mvX12_badLess wmX12_175 rfl ⟨Nat.le_of_ble_eq_true rfl, Nat.le_of_ble_eq_true rfl⟩ ⟨rfl, rfl⟩ 0 (ci := 12) (qc := (RX12, TX12, 30)) rfl rfl rfl rfl (Nat.le_of_ble_eq_true rfl) ⟨Nat.zero_le _, Nat.zero_le _⟩ dX12_copies_57) (fun r2 p3 hw => ?_)
  exact v_ireti (pc := 60) C p3 hA rfl hw dX12_copies_60
set_option maxHeartbeats 4000000 in
set_option maxRecDepth 100000 in
theorem vlX12_copies_67 (C : VC pr s m args meth c E A cX12_copies 9 (some .int) RX12) (hA : va_A w0 s.heap.size = A) (a : Nat → Nat)  {Post : Int32 → St → Prop} {KX : Int32 → Int32 → St → Prop} (hX : ∀ (x4 : Int32) (x6 : Int32) (p : St), KX x4 x6 p → V pr l e rmX12_copies s m args below meth c E A 9 0 0 (MQ below (CQi E Post (fun u => (fl [bModel E a u])) w0 s.heap.size) args s 0 0 A) (fl [bModel E a p]) 139 [(4, .int x4), (6, .int x6)] []) : ∀ (n : Nat) (x1 : Int32) (x2 : Int32) (x3 : Int32) (x4 : Int32) (x6 : Int32) (x7 : Int32) (p : St), wLX12_copies_67  Post KX n (x1, x2, x3, x4, x6, x7, p) → V pr l e rmX12_copies s m args below meth c E A 9 0 0 (MQ below (CQi E Post (fun u => (fl [bModel E a u])) w0 s.heap.size) args s 0 0 A) (fl [bModel E a p]) 67 [(0, .ref (a 0)), (1, .int x1), (2, .int x2), (3, .int x3), (4, .int x4), (6, .int x6), (7, .int x7)] [] := by
  intro n
  induction n with
  | zero => intro x1 x2 x3 x4 x6 x7 p hw; exact absurd hw id
  | succ n hself =>
    intro x1 x2 x3 x4 x6 x7 p hw
    have hw : wlX12_copies_67  Post KX (wLX12_copies_67  Post KX n) x1 x2 x3 x4 x6 x7 p := hw
    refine v_iload (pc := 67) C 6 rfl dX12_copies_67 ?_
    refine v_aload_n (pc := 69) C 0 rfl rfl dX12_copies_69 ?_
    refine v_get (pc := 70) C cfX12 rfl 0 0 rfl (by decide) wfX12_7 rfl dX12_copies_70 ?_
    refine v_icmp_ge (pc := 73) C 139 (by decide) dX12_copies_73 (fun hc => ?_) (fun hc => ?_)
    · have hw := hw.1 hc
      refine v_sub (lv' := [(4, .int x4), (6, .int x6)]) [4, 5] rfl ?_
      exact hX x4 x6 p hw
    · have hw := hw.2 hc
      refine v_iload_n (pc := 76) C 1 rfl rfl dX12_copies_76 ?_
      refine v_iload (pc := 77) C 6 rfl dX12_copies_77 ?_
      refine v_goBi (pc := 79) C (bs := [bModel E a p]) (cs := []) (cs' := (fun (_ : Unit) => [])) (bs' := (fun (_ : Unit) => [bModel E a p])) (w' := (fun (_ : Unit) => (fl [bModel E a p]))) [] rfl rfl (fun _ => rfl) (fun _ => rfl) (fun _ => rfl) (v_runSB (pc := 79) C [.int x1, .int x7] [] (fun sz => ctX12_has l E x1 x7 hw sz) [] rfl rfl rfl mfX12_has msX12_has wmX12_93 rfl ⟨Nat.le_of_ble_eq_true rfl, Nat.le_of_ble_eq_true rfl⟩ ⟨rfl, rfl⟩ rfl (Nat.le_of_ble_eq_true rfl) ⟨Nat.zero_le _, Nat.zero_le _⟩ dX12_copies_79) (fun r6 _ hw => ?_)
      refine v_if_eq (pc := 82) C 133 (by decide) dX12_copies_82 (fun hc => ?_) (fun hc => ?_)
      · have hw := hw.1 hc
        obtain ⟨x7_7, ex⟩ : ∃ y : Int32, y = x7 + 1 := ⟨_, rfl⟩
        have hw := hw x7_7 ex
        refine v_iinc (pc := 133) C 6 rfl (by rw [ex, ki_1]) [(7, .int x7_7), (0, .ref (a 0)), (1, .int x1), (2, .int x2), (3, .int x3), (4, .int x4), (6, .int x6)] rfl (by decide) dX12_copies_133 ?_
        refine v_goto (pc := 136) C 67 (by decide) dX12_copies_136 ?_
        refine v_sub (lv' := [(0, .ref (a 0)), (1, .int x1), (2, .int x2), (3, .int x3), (4, .int x4), (6, .int x6), (7, .int x7_7)]) [1, 2, 3, 4, 5, 6, 0] rfl ?_
        exact hself x1 x2 x3 x4 x6 x7_7 p hw
      · have hw := hw.2 hc
        refine v_iload (pc := 85) C 6 rfl dX12_copies_85 ?_
        refine v_aload_n (pc := 87) C 0 rfl rfl dX12_copies_87 ?_
        refine v_get (pc := 88) C cfX12 rfl 0 4 rfl (by decide) wfX12_17 rfl dX12_copies_88 ?_
        refine v_bipush (pc := 91) C 125 kb_125 dX12_copies_91 ?_
        refine v_iald (pc := 93) C 2 rfl vi_125_126 tn_125 dX12_copies_93 ?_
        refine v_isub (pc := 94) C dX12_copies_94 ?_
        refine v_topi (fun x8_8 ex => ?_)
        have hw := hw x8_8 ex
        refine v_istore (pc := 95) C [(8, .int x8_8), (0, .ref (a 0)), (1, .int x1), (2, .int x2), (3, .int x3), (4, .int x4), (6, .int x6), (7, .int x7)] rfl (by decide) dX12_copies_95 ?_
        refine v_iload (pc := 97) C 0 rfl dX12_copies_97 ?_
        refine v_if_eq (pc := 99) C 113 (by decide) dX12_copies_99 (fun hc => ?_) (fun hc => ?_)
        · have hw := hw.1 hc
          refine v_iconst (pc := 113) C (-1) ki_m1 dX12_copies_113 ?_
          exact v_ireti (pc := 114) C p hA rfl hw dX12_copies_114
        · have hw := hw.2 hc
          refine v_iload_n (pc := 102) C 3 rfl rfl dX12_copies_102 ?_
          refine v_iload_n (pc := 103) C 4 rfl rfl dX12_copies_103 ?_
          refine v_iload (pc := 104) C 0 rfl dX12_copies_104 ?_
          refine v_goBi (pc := 106) C (bs := [bModel E a p]) (cs := []) (cs' := (fun (_ : Unit) => [])) (bs' := (fun (_ : Unit) => [bModel E a p])) (w' := (fun (_ : Unit) => (fl [bModel E a p]))) [] rfl rfl (fun _ => rfl) (fun _ => rfl) (fun _ => rfl) (v_runSB (pc := 106) C [.int x2, .int x3, .int x8_8] [] (fun sz => ctX12_forceOf l E x2 x3 x8_8 hw sz) [] rfl rfl rfl mfX12_forceOf msX12_forceOf wmX12_89 rfl ⟨Nat.le_of_ble_eq_true rfl, Nat.le_of_ble_eq_true rfl⟩ ⟨rfl, rfl⟩ rfl (Nat.le_of_ble_eq_true rfl) ⟨Nat.zero_le _, Nat.zero_le _⟩ dX12_copies_106) (fun r9 _ hw => ?_)
          refine v_iconst (pc := 109) C 2 ki_2 dX12_copies_109 ?_
          refine v_icmp_ge (pc := 110) C 115 (by decide) dX12_copies_110 (fun hc => ?_) (fun hc => ?_)
          · have hw := hw.1 hc
            refine v_iload (pc := 115) C 6 rfl dX12_copies_115 ?_
            refine v_iconst (pc := 117) C 1 ki_1 dX12_copies_117 ?_
            refine v_iload (pc := 118) C 7 rfl dX12_copies_118 ?_
            refine v_iconst (pc := 120) C 1 ki_1 dX12_copies_120 ?_
            refine v_isub (pc := 121) C dX12_copies_121 ?_
            refine v_ishl (pc := 122) C dX12_copies_122 ?_
            refine v_aload_n (pc := 123) C 1 rfl rfl dX12_copies_123 ?_
            refine v_get (pc := 124) C cfX12 rfl 0 1 rfl (by decide) wfX12_67 rfl dX12_copies_124 ?_
            refine v_iconst (pc := 127) C (-1) ki_m1 dX12_copies_127 ?_
            refine v_ixor (pc := 128) C dX12_copies_128 ?_
            refine v_iand (pc := 129) C dX12_copies_129 ?_
            refine v_ior (pc := 130) C dX12_copies_130 ?_
            refine v_topi (fun x6_10 ex => ?_)
            have hw := hw x6_10 ex
            refine v_istore (pc := 131) C [(6, .int x6_10), (8, .int x8_8), (0, .ref (a 0)), (1, .int x1), (2, .int x2), (3, .int x3), (4, .int x4), (7, .int x7)] rfl (by decide) dX12_copies_131 ?_
            obtain ⟨x7_11, ex⟩ : ∃ y : Int32, y = x7 + 1 := ⟨_, rfl⟩
            have hw := hw x7_11 ex
            refine v_iinc (pc := 133) C 7 rfl (by rw [ex, ki_1]) [(7, .int x7_11), (6, .int x6_10), (8, .int x8_8), (0, .ref (a 0)), (1, .int x1), (2, .int x2), (3, .int x3), (4, .int x4)] rfl (by decide) dX12_copies_133 ?_
            refine v_goto (pc := 136) C 67 (by decide) dX12_copies_136 ?_
            refine v_sub (lv' := [(0, .ref (a 0)), (1, .int x1), (2, .int x2), (3, .int x3), (4, .int x4), (6, .int x6_10), (7, .int x7_11)]) [3, 4, 5, 6, 7, 1, 0] rfl ?_
            exact hself x1 x2 x3 x4 x6_10 x7_11 p hw
          · have hw := hw.2 hc
            refine v_iconst (pc := 113) C (-1) ki_m1 dX12_copies_113 ?_
            exact v_ireti (pc := 114) C p hA rfl hw dX12_copies_114
set_option maxHeartbeats 4000000 in
set_option maxRecDepth 100000 in
theorem ctX12_copies (l : Launch) (E : VE) (a : Nat → Nat) (x1 : Int32) (x2 : Int32) (x3 : Int32) (x4 : Int32) (p : St)  {Post : Int32 → St → Prop} (hw : wpX12_copies x1 x2 x3 x4 p Post) (sz : Nat) : Met l yX12_copies (mW yX12_copies cX12_copies 9 (some .int)) rmX12_copies (CPre E [.ref (a 0), .int x1, .int x2, .int x3, .int x4] sz (fl [bModel E a p])) (CQi E Post (fun u => (fl [bModel E a u])) (fl [bModel E a p]) sz) 0 0 (va_A (fl [bModel E a p]) sz) := by
  refine v_met (by decide) (Nat.le_of_ble_eq_true rfl) ?_
  intro pr e s m below meth c A hsz hA C
  subst hsz
  refine v_iconst (pc := 0) C 1 ki_1 dX12_copies_0 ?_
  refine v_aload_n (pc := 1) C 0 rfl rfl dX12_copies_1 ?_
  refine v_get (pc := 2) C cfX12 rfl 0 0 rfl (by decide) wfX12_7 rfl dX12_copies_2 ?_
  refine v_ishl (pc := 5) C dX12_copies_5 ?_
  refine v_iconst (pc := 6) C 1 ki_1 dX12_copies_6 ?_
  refine v_isub (pc := 7) C dX12_copies_7 ?_
  refine v_iconst (pc := 8) C 1 ki_1 dX12_copies_8 ?_
  refine v_aload_n (pc := 9) C 0 rfl rfl dX12_copies_9 ?_
  refine v_get (pc := 10) C cfX12 rfl 0 4 rfl (by decide) wfX12_17 rfl dX12_copies_10 ?_
  refine v_bipush (pc := 13) C 125 kb_125 dX12_copies_13 ?_
  refine v_iald (pc := 15) C 2 rfl vi_125_126 tn_125 dX12_copies_15 ?_
  refine v_ishl (pc := 16) C dX12_copies_16 ?_
  refine v_iconst (pc := 17) C 1 ki_1 dX12_copies_17 ?_
  refine v_isub (pc := 18) C dX12_copies_18 ?_
  refine v_iconst (pc := 19) C (-1) ki_m1 dX12_copies_19 ?_
  refine v_ixor (pc := 20) C dX12_copies_20 ?_
  refine v_iand (pc := 21) C dX12_copies_21 ?_
  refine v_topi (fun x5_1 ex => ?_)
  have hw := hw x5_1 ex
  refine v_istore (pc := 22) C [(5, .int x5_1), (0, .ref (a 0)), (1, .int x1), (2, .int x2), (3, .int x3), (4, .int x4)] rfl (by decide) dX12_copies_22 ?_
  refine v_iload_n (pc := 24) C 2 rfl rfl dX12_copies_24 ?_
  refine v_if_lt (pc := 25) C 56 (by decide) dX12_copies_25 (fun hc => ?_) (fun hc => ?_)
  · have hw := hw.1 hc
    refine v_sub (lv' := [(0, .ref (a 0))]) [1] rfl ?_
    exact vjX12_copies_56 C hA a  p hw
  · have hw := hw.2 hc
    refine v_iload_n (pc := 28) C 2 rfl rfl dX12_copies_28 ?_
    refine v_iload (pc := 29) C 0 rfl dX12_copies_29 ?_
    refine v_iconst (pc := 31) C (-1) ki_m1 dX12_copies_31 ?_
    refine v_ixor (pc := 32) C dX12_copies_32 ?_
    refine v_iand (pc := 33) C dX12_copies_33 ?_
    refine v_if_ne (pc := 34) C 56 (by decide) dX12_copies_34 (fun hc => ?_) (fun hc => ?_)
    · have hw := hw.1 hc
      refine v_sub (lv' := [(0, .ref (a 0))]) [1] rfl ?_
      exact vjX12_copies_56 C hA a  p hw
    · have hw := hw.2 hc
      refine v_iload_n (pc := 37) C 3 rfl rfl dX12_copies_37 ?_
      refine v_iload_n (pc := 38) C 4 rfl rfl dX12_copies_38 ?_
      refine v_goBi (pc := 39) C (bs := [bModel E a p]) (cs := []) (cs' := (fun (_ : Unit) => [])) (bs' := (fun (_ : Unit) => [bModel E a p])) (w' := (fun (_ : Unit) => (fl [bModel E a p]))) [] rfl rfl (fun _ => rfl) (fun _ => rfl) (fun _ => rfl) (v_runSB (pc := 39) C [.int x2, .int x3] [] (fun sz => ctX12_isPen l E x2 x3 hw sz) [] rfl rfl rfl mfX12_isPen msX12_isPen wmX12_101 rfl ⟨Nat.le_of_ble_eq_true rfl, Nat.le_of_ble_eq_true rfl⟩ ⟨rfl, rfl⟩ rfl (Nat.le_of_ble_eq_true rfl) ⟨Nat.zero_le _, Nat.zero_le _⟩ dX12_copies_39) (fun r4 _ hw => ?_)
      refine v_if_eq (pc := 42) C 56 (by decide) dX12_copies_42 (fun hc => ?_) (fun hc => ?_)
      · have hw := hw.1 hc
        refine v_sub (lv' := [(0, .ref (a 0))]) [1] rfl ?_
        exact vjX12_copies_56 C hA a  p hw
      · have hw := hw.2 hc
        refine v_iload (pc := 45) C 5 rfl dX12_copies_45 ?_
        refine v_i2l (pc := 47) C dX12_copies_47 ?_
        refine v_lconst (pc := 48) C 0 kl_0 dX12_copies_48 ?_
        refine v_lconst (pc := 49) C 1 kl_1 dX12_copies_49 ?_
        refine v_goBi (pc := 50) C (bs := [bModel E a p]) (cs := []) (cs' := (fun (_ : Unit) => [])) (bs' := (fun (_ : Unit) => [bModel E a p])) (w' := (fun (_ : Unit) => (fl [bModel E a p]))) [] rfl rfl (fun _ => rfl) (fun _ => rfl) (fun _ => rfl) (v_runSB (pc := 50) C [.long (x4.toInt64), .long 0, .long 1] [] (fun sz => ctX12_in l E (x4.toInt64) 0 1 hw sz) [] rfl rfl rfl mfX12_in msX12_in wmX12_56 rfl ⟨Nat.le_of_ble_eq_true rfl, Nat.le_of_ble_eq_true rfl⟩ ⟨rfl, rfl⟩ rfl (Nat.le_of_ble_eq_true rfl) ⟨Nat.zero_le _, Nat.zero_le _⟩ dX12_copies_50) (fun r5 _ hw => ?_)
        refine v_if_ne (pc := 53) C 61 (by decide) dX12_copies_53 (fun hc => ?_) (fun hc => ?_)
        · have hw := hw.1 hc
          refine v_iconst (pc := 61) C 0 ki_0 dX12_copies_61 ?_
          refine v_istore (pc := 62) C [(6, .int 0), (5, .int x5_1), (0, .ref (a 0)), (1, .int x1), (2, .int x2), (3, .int x3), (4, .int x4)] rfl (by decide) dX12_copies_62 ?_
          refine v_iconst (pc := 64) C 0 ki_0 dX12_copies_64 ?_
          refine v_istore (pc := 65) C [(7, .int 0), (6, .int 0), (5, .int x5_1), (0, .ref (a 0)), (1, .int x1), (2, .int x2), (3, .int x3), (4, .int x4)] rfl (by decide) dX12_copies_65 ?_
          obtain ⟨n, hw⟩ := hw
          refine v_sub (lv' := [(0, .ref (a 0)), (1, .int x1), (2, .int x2), (3, .int x3), (4, .int x4), (6, .int 0), (7, .int 0)]) [3, 4, 5, 6, 7, 1, 0] rfl ?_
          refine vlX12_copies_67 C hA a  (fun y12 y13 p14 hw => ?_) n x1 x2 x3 x4 0 0 p hw
          refine v_iload (pc := 139) C 0 rfl dX12_copies_139 ?_
          refine v_if_ne (pc := 141) C 152 (by decide) dX12_copies_141 (fun hc => ?_) (fun hc => ?_)
          · have hw := hw.1 hc
            refine v_iload (pc := 152) C 1 rfl dX12_copies_152 ?_
            exact v_ireti (pc := 154) C p14 hA rfl hw dX12_copies_154
          · have hw := hw.2 hc
            refine v_iload (pc := 144) C 1 rfl dX12_copies_144 ?_
            refine v_goBi (pc := 146) C (bs := [bModel E a p14]) (cs := []) (cs' := (fun (_ : Unit) => [])) (bs' := (fun (_ : Unit) => [bModel E a p14])) (w' := (fun (_ : Unit) => (fl [bModel E a p14]))) [] rfl rfl (fun _ => rfl) (fun _ => rfl) (fun _ => rfl) (v_runSB (pc := 146) C [.int y13] [] (fun sz => ctX12_ones l E y13 hw sz) [] rfl rfl rfl mfX12_ones msX12_ones wmX12_211 rfl ⟨Nat.le_of_ble_eq_true rfl, Nat.le_of_ble_eq_true rfl⟩ ⟨rfl, rfl⟩ rfl (Nat.le_of_ble_eq_true rfl) ⟨Nat.zero_le _, Nat.zero_le _⟩ dX12_copies_146) (fun r15 _ hw => ?_)
            refine v_goto (pc := 149) C 154 (by decide) dX12_copies_149 ?_
            exact v_ireti (pc := 154) C p14 hA rfl hw dX12_copies_154
        · have hw := hw.2 hc
          refine v_sub (lv' := [(0, .ref (a 0))]) [1] rfl ?_
          exact vjX12_copies_56 C hA a  p hw
set_option maxHeartbeats 4000000 in
set_option maxRecDepth 100000 in
theorem vlX12_common_6 (C : VC pr s m args meth c E A cX12_common 10 (some .long) RX12) (hA : va_A w0 s.heap.size = A)   {Post : Int64 → Prop} {KX : Int64 → Prop} (hX : ∀ (x4 : Int64), KX x4 → V pr l e rmX12_common s m args below meth c E A 10 0 0 (MQ below (CQl E (fun (z : Int64) (_ : Unit) => Post z) (fun _ => (fl [])) w0 s.heap.size) args s 0 0 A) (fl []) 31 [(4, .long x4)] []) : ∀ (n : Nat) (x4 : Int64) (x6 : Int64), wLX12_common_6  Post KX n (x4, x6) → V pr l e rmX12_common s m args below meth c E A 10 0 0 (MQ below (CQl E (fun (z : Int64) (_ : Unit) => Post z) (fun _ => (fl [])) w0 s.heap.size) args s 0 0 A) (fl []) 6 [(4, .long x4), (6, .long x6)] [] := by
  intro n
  induction n with
  | zero => intro x4 x6 hw; exact absurd hw id
  | succ n hself =>
    intro x4 x6 hw
    have hw : wlX12_common_6  Post KX (wLX12_common_6  Post KX n) x4 x6 := hw
    refine v_lload (pc := 6) C 1 rfl dX12_common_6 ?_
    refine v_lconst (pc := 8) C 0 kl_0 dX12_common_8 ?_
    refine v_lcmp (pc := 9) C dX12_common_9 ?_
    refine v_if_eq (pc := 10) C 31 (by decide) dX12_common_10 (fun hc => ?_) (fun hc => ?_)
    · have hw := hw.1 hc
      refine v_sub (lv' := [(4, .long x4)]) [0] rfl ?_
      exact hX x4 hw
    · have hw := hw.2 hc
      refine v_lload (pc := 13) C 0 rfl dX12_common_13 ?_
      refine v_lload (pc := 15) C 1 rfl dX12_common_15 ?_
      obtain ⟨hg, hw⟩ := hw
      refine v_lrem (pc := 17) C hg dX12_common_17 ?_
      refine v_topl (fun x8_1 ex => ?_)
      have hw := hw x8_1 ex
      refine v_lstore (pc := 18) C [(8, .long x8_1), (4, .long x4), (6, .long x6)] rfl (by decide) dX12_common_18 ?_
      refine v_lload (pc := 20) C 2 rfl dX12_common_20 ?_
      refine v_lstore (pc := 22) C [(4, .long x6), (8, .long x8_1), (6, .long x6)] rfl (by decide) dX12_common_22 ?_
      refine v_lload (pc := 24) C 1 rfl dX12_common_24 ?_
      refine v_lstore (pc := 26) C [(6, .long x8_1), (4, .long x6), (8, .long x8_1)] rfl (by decide) dX12_common_26 ?_
      refine v_goto (pc := 28) C 6 (by decide) dX12_common_28 ?_
      refine v_sub (lv' := [(4, .long x6), (6, .long x8_1)]) [1, 0] rfl ?_
      exact hself x6 x8_1 hw
set_option maxHeartbeats 4000000 in
set_option maxRecDepth 100000 in
theorem ctX12_common (l : Launch) (E : VE)  (x0 : Int64) (x2 : Int64)   {Post : Int64 → Prop} (hw : wpX12_common x0 x2 Post) (sz : Nat) : Met l yX12_common (mW yX12_common cX12_common 10 (some .long)) rmX12_common (CPre E [.long x0, .long x2] sz (fl [])) (CQl E (fun (z : Int64) (_ : Unit) => Post z) (fun _ => (fl [])) (fl []) sz) 0 0 (va_A (fl []) sz) := by
  refine v_met (by decide) (Nat.le_of_ble_eq_true rfl) ?_
  intro pr e s m below meth c A hsz hA C
  subst hsz
  refine v_lload_n (pc := 0) C 0 rfl rfl dX12_common_0 ?_
  refine v_lstore (pc := 1) C [(4, .long x0), (0, .long x0), (2, .long x2)] rfl (by decide) dX12_common_1 ?_
  refine v_lload_n (pc := 3) C 2 rfl rfl dX12_common_3 ?_
  refine v_lstore (pc := 4) C [(6, .long x2), (4, .long x0), (0, .long x0), (2, .long x2)] rfl (by decide) dX12_common_4 ?_
  obtain ⟨n, hw⟩ := hw
  refine v_sub (lv' := [(4, .long x0), (6, .long x2)]) [1, 0] rfl ?_
  refine vlX12_common_6 C hA   (fun y2 hw => ?_) n x0 x2 hw
  refine v_lload (pc := 31) C 0 rfl dX12_common_31 ?_
  exact v_lret (pc := 33) C () hA rfl hw dX12_common_33
set_option maxHeartbeats 4000000 in
set_option maxRecDepth 100000 in
theorem vjX12_rub_30 (C : VC pr s m args meth c E A cX12_rub 6 (some .int) RX12) (hA : va_A w0 s.heap.size = A) (a : Nat → Nat)  {Post : Int32 → St → Prop} (p : St) (hw : wjX12_rub_30  Post p) : V pr l e rmX12_rub s m args below meth c E A 6 0 0 (MQ below (CQi E Post (fun u => (fl [bModel E a u])) w0 s.heap.size) args s 0 0 A) (fl [bModel E a p]) 30 [(0, .ref (a 0))] [] := by
  refine v_aload_n (pc := 30) C 0 rfl rfl dX12_rub_30 ?_
  refine v_goAi (pc := 31) C (wc' := (fun (u : St) => (fl [bModel E a u]))) (fun _ => rfl) (v_runVA (pc := 31) C [] [] (fun sz => ctX12_bad l E a p hw sz) mfX12_bad mvX12_bad wmX12_75 rfl ⟨Nat.le_of_ble_eq_true rfl, Nat.le_of_ble_eq_true rfl⟩ ⟨rfl, rfl⟩ 0 (ci := 12) (qc := (RX12, TX12, 30)) rfl rfl rfl rfl (Nat.le_of_ble_eq_true rfl) ⟨Nat.zero_le _, Nat.zero_le _⟩ dX12_rub_31) (fun r2 p3 hw => ?_)
  exact v_ireti (pc := 34) C p3 hA rfl hw dX12_rub_34
set_option maxHeartbeats 4000000 in
set_option maxRecDepth 100000 in
theorem vjX12_rub_103 (C : VC pr s m args meth c E A cX12_rub 6 (some .int) RX12) (hA : va_A w0 s.heap.size = A) (a : Nat → Nat)  {Post : Int32 → St → Prop} {self : (Int32 × Int32 × Int32 × Int32 × St) → Prop} {KX : St → Prop} (x1 : Int32) (x2 : Int32) (x3 : Int32) (x4 : Int32) (z0 : Int64) (z1 : Int64) (p : St) (hw : wjX12_rub_103  Post self KX x1 x2 x3 x4 z0 z1 p) (hself : ∀ (x1 : Int32) (x2 : Int32) (x3 : Int32) (x4 : Int32) (p : St), self (x1, x2, x3, x4, p) → V pr l e rmX12_rub s m args below meth c E A 6 0 0 (MQ below (CQi E Post (fun u => (fl [bModel E a u])) w0 s.heap.size) args s 0 0 A) (fl [bModel E a p]) 48 [(0, .ref (a 0)), (1, .int x1), (2, .int x2), (3, .int x3), (4, .int x4)] []) (hX : ∀ (p : St), KX p → V pr l e rmX12_rub s m args below meth c E A 6 0 0 (MQ below (CQi E Post (fun u => (fl [bModel E a u])) w0 s.heap.size) args s 0 0 A) (fl [bModel E a p]) 125 [(0, .ref (a 0))] []) : V pr l e rmX12_rub s m args below meth c E A 6 0 0 (MQ below (CQi E Post (fun u => (fl [bModel E a u])) w0 s.heap.size) args s 0 0 A) (fl [bModel E a p]) 103 [(0, .ref (a 0)), (1, .int x1), (2, .int x2), (3, .int x3), (4, .int x4)] [.long z0, .long z1, .ref (a 0)] := by
  refine v_lmul (pc := 103) C dX12_rub_103 ?_
  obtain ⟨p11, es⟩ : ∃ y : St, y = p.sL 7 (z1 * z0) := ⟨_, rfl⟩
  have hw := hw p11 es
  refine v_put (pc := 104) C cfX12 rfl 0 7 (ty := .long) (w' := (fl [bModel E a p11])) rfl (by subst es; rfl) (by decide) wfX12_227 rfl rfl rfl rfl (Nat.le_of_ble_eq_true rfl) dX12_rub_104 ?_
  refine v_aload_n (pc := 107) C 0 rfl rfl dX12_rub_107 ?_
  refine v_dup (pc := 108) C rfl dX12_rub_108 ?_
  refine v_get (pc := 109) C cfX12 rfl 0 8 rfl (by decide) wfX12_23 rfl dX12_rub_109 ?_
  refine v_ldc2 (pc := 112) C 10 wlX12_230 dX12_rub_112 ?_
  refine v_lmul (pc := 115) C dX12_rub_115 ?_
  obtain ⟨p12, es⟩ : ∃ y : St, y = p11.sL 8 ((p11.L 8) * 10) := ⟨_, rfl⟩
  have hw := hw p12 es
  refine v_put (pc := 116) C cfX12 rfl 0 8 (ty := .long) (w' := (fl [bModel E a p12])) rfl (by subst es; rfl) (by decide) wfX12_23 rfl rfl rfl rfl (Nat.le_of_ble_eq_true rfl) dX12_rub_116 ?_
  obtain ⟨x4_13, ex⟩ : ∃ y : Int32, y = x4 + 1 := ⟨_, rfl⟩
  have hw := hw x4_13 ex
  refine v_iinc (pc := 119) C 4 rfl (by rw [ex, ki_1]) [(4, .int x4_13), (0, .ref (a 0)), (1, .int x1), (2, .int x2), (3, .int x3)] rfl (by decide) dX12_rub_119 ?_
  refine v_goto (pc := 122) C 48 (by decide) dX12_rub_122 ?_
  refine v_sub (lv' := [(0, .ref (a 0)), (1, .int x1), (2, .int x2), (3, .int x3), (4, .int x4_13)]) [1, 2, 3, 4, 0] rfl ?_
  exact hself x1 x2 x3 x4_13 p12 hw
set_option maxHeartbeats 4000000 in
set_option maxRecDepth 100000 in
theorem vjX12_rub_77 (C : VC pr s m args meth c E A cX12_rub 6 (some .int) RX12) (hA : va_A w0 s.heap.size = A) (a : Nat → Nat)  {Post : Int32 → St → Prop} {self : (Int32 × Int32 × Int32 × Int32 × St) → Prop} {KX : St → Prop} (x1 : Int32) (x2 : Int32) (x3 : Int32) (x4 : Int32) (x5 : Int32) (p : St) (hw : wjX12_rub_77  Post self KX x1 x2 x3 x4 x5 p) (hself : ∀ (x1 : Int32) (x2 : Int32) (x3 : Int32) (x4 : Int32) (p : St), self (x1, x2, x3, x4, p) → V pr l e rmX12_rub s m args below meth c E A 6 0 0 (MQ below (CQi E Post (fun u => (fl [bModel E a u])) w0 s.heap.size) args s 0 0 A) (fl [bModel E a p]) 48 [(0, .ref (a 0)), (1, .int x1), (2, .int x2), (3, .int x3), (4, .int x4)] []) (hX : ∀ (p : St), KX p → V pr l e rmX12_rub s m args below meth c E A 6 0 0 (MQ below (CQi E Post (fun u => (fl [bModel E a u])) w0 s.heap.size) args s 0 0 A) (fl [bModel E a p]) 125 [(0, .ref (a 0))] []) : V pr l e rmX12_rub s m args below meth c E A 6 0 0 (MQ below (CQi E Post (fun u => (fl [bModel E a u])) w0 s.heap.size) args s 0 0 A) (fl [bModel E a p]) 77 [(0, .ref (a 0)), (1, .int x1), (2, .int x2), (3, .int x3), (4, .int x4), (5, .int x5)] [] := by
  refine v_aload_n (pc := 77) C 0 rfl rfl dX12_rub_77 ?_
  refine v_dup (pc := 78) C rfl dX12_rub_78 ?_
  refine v_get (pc := 79) C cfX12 rfl 0 7 rfl (by decide) wfX12_227 rfl dX12_rub_79 ?_
  refine v_iload_n (pc := 82) C 2 rfl rfl dX12_rub_82 ?_
  refine v_iload (pc := 83) C 4 rfl dX12_rub_83 ?_
  refine v_goBi (pc := 85) C (bs := [bModel E a p]) (cs := []) (cs' := (fun (_ : Unit) => [])) (bs' := (fun (_ : Unit) => [bModel E a p])) (w' := (fun (_ : Unit) => (fl [bModel E a p]))) [] rfl rfl (fun _ => rfl) (fun _ => rfl) (fun _ => rfl) (v_runSB (pc := 85) C [.int x2, .int x4] [.long (p.L 7), .ref (a 0)] (fun sz => ctX12_has l E x2 x4 hw sz) [] rfl rfl rfl mfX12_has msX12_has wmX12_93 rfl ⟨Nat.le_of_ble_eq_true rfl, Nat.le_of_ble_eq_true rfl⟩ ⟨rfl, rfl⟩ rfl (Nat.le_of_ble_eq_true rfl) ⟨Nat.zero_le _, Nat.zero_le _⟩ dX12_rub_85) (fun r10 _ hw => ?_)
  refine v_if_eq (pc := 88) C 97 (by decide) dX12_rub_88 (fun hc => ?_) (fun hc => ?_)
  · have hw := hw.1 hc
    refine v_bipush (pc := 97) C 10 kb_10 dX12_rub_97 ?_
    refine v_iload (pc := 99) C 5 rfl dX12_rub_99 ?_
    refine v_isub (pc := 101) C dX12_rub_101 ?_
    refine v_i2l (pc := 102) C dX12_rub_102 ?_
    refine v_sub (lv' := [(0, .ref (a 0)), (1, .int x1), (2, .int x2), (3, .int x3), (4, .int x4)]) [0, 1, 2, 3, 4] rfl ?_
    exact vjX12_rub_103 C hA a  x1 x2 x3 x4 ((((10 : Int32) - x5)).toInt64) (p.L 7) p hw hself hX
  · have hw := hw.2 hc
    refine v_iload (pc := 91) C 5 rfl dX12_rub_91 ?_
    refine v_i2l (pc := 93) C dX12_rub_93 ?_
    refine v_goto (pc := 94) C 103 (by decide) dX12_rub_94 ?_
    refine v_sub (lv' := [(0, .ref (a 0)), (1, .int x1), (2, .int x2), (3, .int x3), (4, .int x4)]) [0, 1, 2, 3, 4] rfl ?_
    exact vjX12_rub_103 C hA a  x1 x2 x3 x4 (x5.toInt64) (p.L 7) p hw hself hX
set_option maxHeartbeats 4000000 in
set_option maxRecDepth 100000 in
theorem vlX12_rub_48 (C : VC pr s m args meth c E A cX12_rub 6 (some .int) RX12) (hA : va_A w0 s.heap.size = A) (a : Nat → Nat)  {Post : Int32 → St → Prop} {KX : St → Prop} (hX : ∀ (p : St), KX p → V pr l e rmX12_rub s m args below meth c E A 6 0 0 (MQ below (CQi E Post (fun u => (fl [bModel E a u])) w0 s.heap.size) args s 0 0 A) (fl [bModel E a p]) 125 [(0, .ref (a 0))] []) : ∀ (n : Nat) (x1 : Int32) (x2 : Int32) (x3 : Int32) (x4 : Int32) (p : St), wLX12_rub_48  Post KX n (x1, x2, x3, x4, p) → V pr l e rmX12_rub s m args below meth c E A 6 0 0 (MQ below (CQi E Post (fun u => (fl [bModel E a u])) w0 s.heap.size) args s 0 0 A) (fl [bModel E a p]) 48 [(0, .ref (a 0)), (1, .int x1), (2, .int x2), (3, .int x3), (4, .int x4)] [] := by
  intro n
  induction n with
  | zero => intro x1 x2 x3 x4 p hw; exact absurd hw id
  | succ n hself =>
    intro x1 x2 x3 x4 p hw
    have hw : wlX12_rub_48  Post KX (wLX12_rub_48  Post KX n) x1 x2 x3 x4 p := hw
    refine v_iload (pc := 48) C 4 rfl dX12_rub_48 ?_
    refine v_bipush (pc := 50) C 12 kb_12 dX12_rub_50 ?_
    refine v_icmp_ge (pc := 52) C 125 (by decide) dX12_rub_52 (fun hc => ?_) (fun hc => ?_)
    · have hw := hw.1 hc
      refine v_sub (lv' := [(0, .ref (a 0))]) [0] rfl ?_
      exact hX p hw
    · have hw := hw.2 hc
      refine v_aload_n (pc := 55) C 0 rfl rfl dX12_rub_55 ?_
      refine v_iload_n (pc := 56) C 1 rfl rfl dX12_rub_56 ?_
      refine v_iload (pc := 57) C 4 rfl dX12_rub_57 ?_
      refine v_goAi (pc := 59) C (wc' := (fun (_ : Unit) => (fl [bModel E a p]))) (fun _ => rfl) (v_runVA (pc := 59) C [.int x1, .int x4] [] (fun sz => ctX12_dentOf l E a x1 x4 p hw sz) mfX12_dentOf mvX12_dentOf wmX12_181 rfl ⟨Nat.le_of_ble_eq_true rfl, Nat.le_of_ble_eq_true rfl⟩ ⟨rfl, rfl⟩ 0 (ci := 12) (qc := (RX12, TX12, 30)) rfl rfl rfl rfl (Nat.le_of_ble_eq_true rfl) ⟨Nat.zero_le _, Nat.zero_le _⟩ dX12_rub_59) (fun r8 _ hw => ?_)
      refine v_istore (pc := 62) C [(5, .int r8), (0, .ref (a 0)), (1, .int x1), (2, .int x2), (3, .int x3), (4, .int x4)] rfl (by decide) dX12_rub_62 ?_
      refine v_iload_n (pc := 64) C 3 rfl rfl dX12_rub_64 ?_
      refine v_iload (pc := 65) C 5 rfl dX12_rub_65 ?_
      refine v_goBi (pc := 67) C (bs := [bModel E a p]) (cs := []) (cs' := (fun (_ : Unit) => [])) (bs' := (fun (_ : Unit) => [bModel E a p])) (w' := (fun (_ : Unit) => (fl [bModel E a p]))) [] rfl rfl (fun _ => rfl) (fun _ => rfl) (fun _ => rfl) (v_runSB (pc := 67) C [.int x2, .int x4] [] (fun sz => ctX12_has l E x2 x4 hw sz) [] rfl rfl rfl mfX12_has msX12_has wmX12_93 rfl ⟨Nat.le_of_ble_eq_true rfl, Nat.le_of_ble_eq_true rfl⟩ ⟨rfl, rfl⟩ rfl (Nat.le_of_ble_eq_true rfl) ⟨Nat.zero_le _, Nat.zero_le _⟩ dX12_rub_67) (fun r9 _ hw => ?_)
      refine v_if_ne (pc := 70) C 77 (by decide) dX12_rub_70 (fun hc => ?_) (fun hc => ?_)
      · have hw := hw.1 hc
        refine v_sub (lv' := [(0, .ref (a 0)), (1, .int x1), (2, .int x2), (3, .int x3), (4, .int x4), (5, .int r8)]) [1, 2, 3, 4, 5, 0] rfl ?_
        exact vjX12_rub_77 C hA a  x1 x2 x3 x4 r8 p hw hself hX
      · have hw := hw.2 hc
        refine v_iload_n (pc := 73) C 4 rfl rfl dX12_rub_73 ?_
        refine v_if_ne (pc := 74) C 119 (by decide) dX12_rub_74 (fun hc => ?_) (fun hc => ?_)
        · have hw := hw.1 hc
          obtain ⟨x4_14, ex⟩ : ∃ y : Int32, y = x4 + 1 := ⟨_, rfl⟩
          have hw := hw x4_14 ex
          refine v_iinc (pc := 119) C 5 rfl (by rw [ex, ki_1]) [(4, .int x4_14), (5, .int r8), (0, .ref (a 0)), (1, .int x1), (2, .int x2), (3, .int x3)] rfl (by decide) dX12_rub_119 ?_
          refine v_goto (pc := 122) C 48 (by decide) dX12_rub_122 ?_
          refine v_sub (lv' := [(0, .ref (a 0)), (1, .int x1), (2, .int x2), (3, .int x3), (4, .int x4_14)]) [2, 3, 4, 5, 0] rfl ?_
          exact hself x1 x2 x3 x4_14 p hw
        · have hw := hw.2 hc
          refine v_sub (lv' := [(0, .ref (a 0)), (1, .int x1), (2, .int x2), (3, .int x3), (4, .int x4), (5, .int r8)]) [1, 2, 3, 4, 5, 0] rfl ?_
          exact vjX12_rub_77 C hA a  x1 x2 x3 x4 r8 p hw hself hX
set_option maxHeartbeats 4000000 in
set_option maxRecDepth 100000 in
theorem ctX12_rub (l : Launch) (E : VE) (a : Nat → Nat) (x1 : Int32) (x2 : Int32) (x3 : Int32) (p : St)  {Post : Int32 → St → Prop} (hw : wpX12_rub x1 x2 x3 p Post) (sz : Nat) : Met l yX12_rub (mW yX12_rub cX12_rub 6 (some .int)) rmX12_rub (CPre E [.ref (a 0), .int x1, .int x2, .int x3] sz (fl [bModel E a p])) (CQi E Post (fun u => (fl [bModel E a u])) (fl [bModel E a p]) sz) 0 0 (va_A (fl [bModel E a p]) sz) := by
  refine v_met (by decide) (Nat.le_of_ble_eq_true rfl) ?_
  intro pr e s m below meth c A hsz hA C
  subst hsz
  refine v_aload_n (pc := 0) C 0 rfl rfl dX12_rub_0 ?_
  refine v_iload_n (pc := 1) C 1 rfl rfl dX12_rub_1 ?_
  refine v_goAi (pc := 2) C (wc' := (fun (_ : Unit) => (fl [bModel E a p]))) (fun _ => rfl) (v_runVA (pc := 2) C [.int x1] [] (fun sz => ctX12_isSheet l E a x1 p hw sz) mfX12_isSheet mvX12_isSheet wmX12_172 rfl ⟨Nat.le_of_ble_eq_true rfl, Nat.le_of_ble_eq_true rfl⟩ ⟨rfl, rfl⟩ 0 (ci := 12) (qc := (RX12, TX12, 30)) rfl rfl rfl rfl (Nat.le_of_ble_eq_true rfl) ⟨Nat.zero_le _, Nat.zero_le _⟩ dX12_rub_2) (fun r1 _ hw => ?_)
  refine v_if_eq (pc := 5) C 30 (by decide) dX12_rub_5 (fun hc => ?_) (fun hc => ?_)
  · have hw := hw.1 hc
    refine v_sub (lv' := [(0, .ref (a 0))]) [0] rfl ?_
    exact vjX12_rub_30 C hA a  p hw
  · have hw := hw.2 hc
    refine v_iload_n (pc := 8) C 2 rfl rfl dX12_rub_8 ?_
    refine v_i2l (pc := 9) C dX12_rub_9 ?_
    refine v_lconst (pc := 10) C 0 kl_0 dX12_rub_10 ?_
    refine v_ldc2 (pc := 11) C 4095 wlX12_104 dX12_rub_11 ?_
    refine v_goBi (pc := 14) C (bs := [bModel E a p]) (cs := []) (cs' := (fun (_ : Unit) => [])) (bs' := (fun (_ : Unit) => [bModel E a p])) (w' := (fun (_ : Unit) => (fl [bModel E a p]))) [] rfl rfl (fun _ => rfl) (fun _ => rfl) (fun _ => rfl) (v_runSB (pc := 14) C [.long (x2.toInt64), .long 0, .long 4095] [] (fun sz => ctX12_in l E (x2.toInt64) 0 4095 hw sz) [] rfl rfl rfl mfX12_in msX12_in wmX12_56 rfl ⟨Nat.le_of_ble_eq_true rfl, Nat.le_of_ble_eq_true rfl⟩ ⟨rfl, rfl⟩ rfl (Nat.le_of_ble_eq_true rfl) ⟨Nat.zero_le _, Nat.zero_le _⟩ dX12_rub_14) (fun r4 _ hw => ?_)
    refine v_if_eq (pc := 17) C 30 (by decide) dX12_rub_17 (fun hc => ?_) (fun hc => ?_)
    · have hw := hw.1 hc
      refine v_sub (lv' := [(0, .ref (a 0))]) [0] rfl ?_
      exact vjX12_rub_30 C hA a  p hw
    · have hw := hw.2 hc
      refine v_iload_n (pc := 20) C 3 rfl rfl dX12_rub_20 ?_
      refine v_i2l (pc := 21) C dX12_rub_21 ?_
      refine v_lconst (pc := 22) C 0 kl_0 dX12_rub_22 ?_
      refine v_lconst (pc := 23) C 1 kl_1 dX12_rub_23 ?_
      refine v_goBi (pc := 24) C (bs := [bModel E a p]) (cs := []) (cs' := (fun (_ : Unit) => [])) (bs' := (fun (_ : Unit) => [bModel E a p])) (w' := (fun (_ : Unit) => (fl [bModel E a p]))) [] rfl rfl (fun _ => rfl) (fun _ => rfl) (fun _ => rfl) (v_runSB (pc := 24) C [.long (x3.toInt64), .long 0, .long 1] [] (fun sz => ctX12_in l E (x3.toInt64) 0 1 hw sz) [] rfl rfl rfl mfX12_in msX12_in wmX12_56 rfl ⟨Nat.le_of_ble_eq_true rfl, Nat.le_of_ble_eq_true rfl⟩ ⟨rfl, rfl⟩ rfl (Nat.le_of_ble_eq_true rfl) ⟨Nat.zero_le _, Nat.zero_le _⟩ dX12_rub_24) (fun r5 _ hw => ?_)
      refine v_if_ne (pc := 27) C 35 (by decide) dX12_rub_27 (fun hc => ?_) (fun hc => ?_)
      · have hw := hw.1 hc
        refine v_aload_n (pc := 35) C 0 rfl rfl dX12_rub_35 ?_
        refine v_lconst (pc := 36) C 1 kl_1 dX12_rub_36 ?_
        obtain ⟨p6, es⟩ : ∃ y : St, y = p.sL 7 1 := ⟨_, rfl⟩
        have hw := hw p6 es
        refine v_put (pc := 37) C cfX12 rfl 0 7 (ty := .long) (w' := (fl [bModel E a p6])) rfl (by subst es; rfl) (by decide) wfX12_227 rfl rfl rfl rfl (Nat.le_of_ble_eq_true rfl) dX12_rub_37 ?_
        refine v_aload_n (pc := 40) C 0 rfl rfl dX12_rub_40 ?_
        refine v_lconst (pc := 41) C 1 kl_1 dX12_rub_41 ?_
        obtain ⟨p7, es⟩ : ∃ y : St, y = p6.sL 8 1 := ⟨_, rfl⟩
        have hw := hw p7 es
        refine v_put (pc := 42) C cfX12 rfl 0 8 (ty := .long) (w' := (fl [bModel E a p7])) rfl (by subst es; rfl) (by decide) wfX12_23 rfl rfl rfl rfl (Nat.le_of_ble_eq_true rfl) dX12_rub_42 ?_
        refine v_iconst (pc := 45) C 0 ki_0 dX12_rub_45 ?_
        refine v_istore (pc := 46) C [(4, .int 0), (0, .ref (a 0)), (1, .int x1), (2, .int x2), (3, .int x3)] rfl (by decide) dX12_rub_46 ?_
        obtain ⟨n, hw⟩ := hw
        refine v_sub (lv' := [(0, .ref (a 0)), (1, .int x1), (2, .int x2), (3, .int x3), (4, .int 0)]) [1, 2, 3, 4, 0] rfl ?_
        refine vlX12_rub_48 C hA a  (fun p15 hw => ?_) n x1 x2 x3 0 p7 hw
        refine v_aload_n (pc := 125) C 0 rfl rfl dX12_rub_125 ?_
        refine v_get (pc := 126) C cfX12 rfl 0 7 rfl (by decide) wfX12_227 rfl dX12_rub_126 ?_
        refine v_aload_n (pc := 129) C 0 rfl rfl dX12_rub_129 ?_
        refine v_get (pc := 130) C cfX12 rfl 0 8 rfl (by decide) wfX12_23 rfl dX12_rub_130 ?_
        refine v_goBl (pc := 133) C (bs := [bModel E a p15]) (cs := []) (cs' := (fun (_ : Unit) => [])) (bs' := (fun (_ : Unit) => [bModel E a p15])) (w' := (fun (_ : Unit) => (fl [bModel E a p15]))) [] rfl rfl (fun _ => rfl) (fun _ => rfl) (fun _ => rfl) (v_runSB (pc := 133) C [.long (p15.L 7), .long (p15.L 8)] [] (fun sz => ctX12_common l E (p15.L 7) (p15.L 8) hw sz) [] rfl rfl rfl mfX12_common msX12_common wmX12_232 rfl ⟨Nat.le_of_ble_eq_true rfl, Nat.le_of_ble_eq_true rfl⟩ ⟨rfl, rfl⟩ rfl (Nat.le_of_ble_eq_true rfl) ⟨Nat.zero_le _, Nat.zero_le _⟩ dX12_rub_133) (fun r16 _ hw => ?_)
        refine v_lstore (pc := 136) C [(4, .long r16), (0, .ref (a 0))] rfl (by decide) dX12_rub_136 ?_
        refine v_aload_n (pc := 138) C 1 rfl rfl dX12_rub_138 ?_
        refine v_dup (pc := 139) C rfl dX12_rub_139 ?_
        refine v_get (pc := 140) C cfX12 rfl 0 7 rfl (by decide) wfX12_227 rfl dX12_rub_140 ?_
        refine v_lload (pc := 143) C 0 rfl dX12_rub_143 ?_
        obtain ⟨hg, hw⟩ := hw
        refine v_ldiv (pc := 145) C hg dX12_rub_145 ?_
        obtain ⟨p17, es⟩ : ∃ y : St, y = p15.sL 7 ((p15.L 7) / r16) := ⟨_, rfl⟩
        have hw := hw p17 es
        refine v_put (pc := 146) C cfX12 rfl 0 7 (ty := .long) (w' := (fl [bModel E a p17])) rfl (by subst es; rfl) (by decide) wfX12_227 rfl rfl rfl rfl (Nat.le_of_ble_eq_true rfl) dX12_rub_146 ?_
        refine v_aload_n (pc := 149) C 1 rfl rfl dX12_rub_149 ?_
        refine v_dup (pc := 150) C rfl dX12_rub_150 ?_
        refine v_get (pc := 151) C cfX12 rfl 0 8 rfl (by decide) wfX12_23 rfl dX12_rub_151 ?_
        refine v_lload (pc := 154) C 0 rfl dX12_rub_154 ?_
        obtain ⟨hg, hw⟩ := hw
        refine v_ldiv (pc := 156) C hg dX12_rub_156 ?_
        obtain ⟨p18, es⟩ : ∃ y : St, y = p17.sL 8 ((p17.L 8) / r16) := ⟨_, rfl⟩
        have hw := hw p18 es
        refine v_put (pc := 157) C cfX12 rfl 0 8 (ty := .long) (w' := (fl [bModel E a p18])) rfl (by subst es; rfl) (by decide) wfX12_23 rfl rfl rfl rfl (Nat.le_of_ble_eq_true rfl) dX12_rub_157 ?_
        refine v_iconst (pc := 160) C 1 ki_1 dX12_rub_160 ?_
        exact v_ireti (pc := 161) C p18 hA rfl hw dX12_rub_161
      · have hw := hw.2 hc
        refine v_sub (lv' := [(0, .ref (a 0))]) [0] rfl ?_
        exact vjX12_rub_30 C hA a  p hw
end

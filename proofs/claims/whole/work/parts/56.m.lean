section
variable {pr : Program} {l : Launch} {e : Env} {s : State} {m : MethodId} {args : Array Value} {below : List Frame} {meth : Method} {c : Code} {E : VE} {A : Nat → Prop} {w0 : va_W}
theorem dX7_isWord_0 : decode cX7_isWord 0 = .ok (.aload_n 0, 1) := by decide +kernel
theorem dX7_isWord_1 : decode cX7_isWord 1 = .ok (.getfield 22, 3) := by decide +kernel
theorem dX7_isWord_4 : decode cX7_isWord 4 = .ok (.iconst 1, 1) := by decide +kernel
theorem dX7_isWord_5 : decode cX7_isWord 5 = .ok (.if_icmp .ne 19, 3) := by decide +kernel
theorem dX7_isWord_8 : decode cX7_isWord 8 = .ok (.aload_n 0, 1) := by decide +kernel
theorem dX7_isWord_9 : decode cX7_isWord 9 = .ok (.getfield 19, 3) := by decide +kernel
theorem dX7_isWord_12 : decode cX7_isWord 12 = .ok (.aload_n 0, 1) := by decide +kernel
theorem dX7_isWord_13 : decode cX7_isWord 13 = .ok (.getfield 25, 3) := by decide +kernel
theorem dX7_isWord_16 : decode cX7_isWord 16 = .ok (.isub, 1) := by decide +kernel
theorem dX7_isWord_17 : decode cX7_isWord 17 = .ok (.aload_n 1, 1) := by decide +kernel
theorem dX7_isWord_18 : decode cX7_isWord 18 = .ok (.invokevirtual 103, 3) := by decide +kernel
theorem dX7_isWord_21 : decode cX7_isWord 21 = .ok (.if_icmp .eq 5, 3) := by decide +kernel
theorem dX7_isWord_24 : decode cX7_isWord 24 = .ok (.iconst 0, 1) := by decide +kernel
theorem dX7_isWord_25 : decode cX7_isWord 25 = .ok (.ireturn, 1) := by decide +kernel
theorem dX7_isWord_26 : decode cX7_isWord 26 = .ok (.iconst 0, 1) := by decide +kernel
theorem dX7_isWord_27 : decode cX7_isWord 27 = .ok (.istore_n 2, 1) := by decide +kernel
theorem dX7_isWord_28 : decode cX7_isWord 28 = .ok (.iload_n 2, 1) := by decide +kernel
theorem dX7_isWord_29 : decode cX7_isWord 29 = .ok (.aload_n 1, 1) := by decide +kernel
theorem dX7_isWord_30 : decode cX7_isWord 30 = .ok (.invokevirtual 103, 3) := by decide +kernel
theorem dX7_isWord_33 : decode cX7_isWord 33 = .ok (.if_icmp .ge 30, 3) := by decide +kernel
theorem dX7_isWord_36 : decode cX7_isWord 36 = .ok (.aload_n 0, 1) := by decide +kernel
theorem dX7_isWord_37 : decode cX7_isWord 37 = .ok (.getfield 9, 3) := by decide +kernel
theorem dX7_isWord_40 : decode cX7_isWord 40 = .ok (.aload_n 0, 1) := by decide +kernel
theorem dX7_isWord_41 : decode cX7_isWord 41 = .ok (.getfield 25, 3) := by decide +kernel
theorem dX7_isWord_44 : decode cX7_isWord 44 = .ok (.iload_n 2, 1) := by decide +kernel
theorem dX7_isWord_45 : decode cX7_isWord 45 = .ok (.iadd, 1) := by decide +kernel
theorem dX7_isWord_46 : decode cX7_isWord 46 = .ok (.iaload, 1) := by decide +kernel
theorem dX7_isWord_47 : decode cX7_isWord 47 = .ok (.aload_n 1, 1) := by decide +kernel
theorem dX7_isWord_48 : decode cX7_isWord 48 = .ok (.iload_n 2, 1) := by decide +kernel
theorem dX7_isWord_49 : decode cX7_isWord 49 = .ok (.invokevirtual 107, 3) := by decide +kernel
theorem dX7_isWord_52 : decode cX7_isWord 52 = .ok (.if_icmp .eq 5, 3) := by decide +kernel
theorem dX7_isWord_55 : decode cX7_isWord 55 = .ok (.iconst 0, 1) := by decide +kernel
theorem dX7_isWord_56 : decode cX7_isWord 56 = .ok (.ireturn, 1) := by decide +kernel
theorem dX7_isWord_57 : decode cX7_isWord 57 = .ok (.iinc 2 1, 3) := by decide +kernel
theorem dX7_isWord_60 : decode cX7_isWord 60 = .ok (.goto (-32), 3) := by decide +kernel
theorem dX7_isWord_63 : decode cX7_isWord 63 = .ok (.iconst 1, 1) := by decide +kernel
theorem dX7_isWord_64 : decode cX7_isWord 64 = .ok (.ireturn, 1) := by decide +kernel
theorem dX7_isNumber_0 : decode cX7_isNumber 0 = .ok (.aload_n 0, 1) := by decide +kernel
theorem dX7_isNumber_1 : decode cX7_isNumber 1 = .ok (.getfield 22, 3) := by decide +kernel
theorem dX7_isNumber_4 : decode cX7_isNumber 4 = .ok (.iconst 2, 1) := by decide +kernel
theorem dX7_isNumber_5 : decode cX7_isNumber 5 = .ok (.if_icmp .ne 23, 3) := by decide +kernel
theorem dX7_isNumber_8 : decode cX7_isNumber 8 = .ok (.aload_n 0, 1) := by decide +kernel
theorem dX7_isNumber_9 : decode cX7_isNumber 9 = .ok (.getfield 28, 3) := by decide +kernel
theorem dX7_isNumber_12 : decode cX7_isNumber 12 = .ok (.iload_n 1, 1) := by decide +kernel
theorem dX7_isNumber_13 : decode cX7_isNumber 13 = .ok (.if_icmp .lt 15, 3) := by decide +kernel
theorem dX7_isNumber_16 : decode cX7_isNumber 16 = .ok (.aload_n 0, 1) := by decide +kernel
theorem dX7_isNumber_17 : decode cX7_isNumber 17 = .ok (.getfield 28, 3) := by decide +kernel
theorem dX7_isNumber_20 : decode cX7_isNumber 20 = .ok (.iload_n 2, 1) := by decide +kernel
theorem dX7_isNumber_21 : decode cX7_isNumber 21 = .ok (.if_icmp .gt 7, 3) := by decide +kernel
theorem dX7_isNumber_24 : decode cX7_isNumber 24 = .ok (.iconst 1, 1) := by decide +kernel
theorem dX7_isNumber_25 : decode cX7_isNumber 25 = .ok (.goto 4, 3) := by decide +kernel
theorem dX7_isNumber_28 : decode cX7_isNumber 28 = .ok (.iconst 0, 1) := by decide +kernel
theorem dX7_isNumber_29 : decode cX7_isNumber 29 = .ok (.ireturn, 1) := by decide +kernel
theorem dX7_passStop_0 : decode cX7_passStop 0 = .ok (.aload_n 0, 1) := by decide +kernel
theorem dX7_passStop_1 : decode cX7_passStop 1 = .ok (.getfield 22, 3) := by decide +kernel
theorem dX7_passStop_4 : decode cX7_passStop 4 = .ok (.iconst 3, 1) := by decide +kernel
theorem dX7_passStop_5 : decode cX7_passStop 5 = .ok (.if_icmp .eq 5, 3) := by decide +kernel
theorem dX7_passStop_8 : decode cX7_passStop 8 = .ok (.iconst 0, 1) := by decide +kernel
theorem dX7_passStop_9 : decode cX7_passStop 9 = .ok (.ireturn, 1) := by decide +kernel
theorem dX7_passStop_10 : decode cX7_passStop 10 = .ok (.aload_n 0, 1) := by decide +kernel
theorem dX7_passStop_11 : decode cX7_passStop 11 = .ok (.invokevirtual 37, 3) := by decide +kernel
theorem dX7_passStop_14 : decode cX7_passStop 14 = .ok (.iconst 1, 1) := by decide +kernel
theorem dX7_passStop_15 : decode cX7_passStop 15 = .ok (.ireturn, 1) := by decide +kernel
theorem dX7_readFirst_0 : decode cX7_readFirst 0 = .ok (.aload_n 0, 1) := by decide +kernel
theorem dX7_readFirst_1 : decode cX7_readFirst 1 = .ok (.ldc 48, 2) := by decide +kernel
theorem dX7_readFirst_3 : decode cX7_readFirst 3 = .ok (.invokevirtual 50, 3) := by decide +kernel
theorem dX7_readFirst_6 : decode cX7_readFirst 6 = .ok (.ifCond .ne 5, 3) := by decide +kernel
theorem dX7_readFirst_9 : decode cX7_readFirst 9 = .ok (.iconst 0, 1) := by decide +kernel
theorem dX7_readFirst_10 : decode cX7_readFirst 10 = .ok (.ireturn, 1) := by decide +kernel
theorem dX7_readFirst_11 : decode cX7_readFirst 11 = .ok (.aload_n 0, 1) := by decide +kernel
theorem dX7_readFirst_12 : decode cX7_readFirst 12 = .ok (.invokevirtual 37, 3) := by decide +kernel
theorem dX7_readFirst_15 : decode cX7_readFirst 15 = .ok (.aload_n 0, 1) := by decide +kernel
theorem dX7_readFirst_16 : decode cX7_readFirst 16 = .ok (.iconst 1, 1) := by decide +kernel
theorem dX7_readFirst_17 : decode cX7_readFirst 17 = .ok (.bipush 6, 2) := by decide +kernel
theorem dX7_readFirst_19 : decode cX7_readFirst 19 = .ok (.invokevirtual 54, 3) := by decide +kernel
theorem dX7_readFirst_22 : decode cX7_readFirst 22 = .ok (.ifCond .ne 5, 3) := by decide +kernel
theorem dX7_readFirst_25 : decode cX7_readFirst 25 = .ok (.iconst 0, 1) := by decide +kernel
theorem dX7_readFirst_26 : decode cX7_readFirst 26 = .ok (.ireturn, 1) := by decide +kernel
theorem dX7_readFirst_27 : decode cX7_readFirst 27 = .ok (.aload_n 1, 1) := by decide +kernel
theorem dX7_readFirst_28 : decode cX7_readFirst 28 = .ok (.aload_n 0, 1) := by decide +kernel
theorem dX7_readFirst_29 : decode cX7_readFirst 29 = .ok (.getfield 28, 3) := by decide +kernel
theorem dX7_readFirst_32 : decode cX7_readFirst 32 = .ok (.invokevirtual 58, 3) := by decide +kernel
theorem dX7_readFirst_35 : decode cX7_readFirst 35 = .ok (.aload_n 0, 1) := by decide +kernel
theorem dX7_readFirst_36 : decode cX7_readFirst 36 = .ok (.invokevirtual 37, 3) := by decide +kernel
theorem dX7_readFirst_39 : decode cX7_readFirst 39 = .ok (.aload_n 0, 1) := by decide +kernel
theorem dX7_readFirst_40 : decode cX7_readFirst 40 = .ok (.invokevirtual 64, 3) := by decide +kernel
theorem dX7_readFirst_43 : decode cX7_readFirst 43 = .ok (.ireturn, 1) := by decide +kernel
theorem dX7_readCarbon_0 : decode cX7_readCarbon 0 = .ok (.aload_n 0, 1) := by decide +kernel
theorem dX7_readCarbon_1 : decode cX7_readCarbon 1 = .ok (.invokevirtual 37, 3) := by decide +kernel
theorem dX7_readCarbon_4 : decode cX7_readCarbon 4 = .ok (.aload_n 0, 1) := by decide +kernel
theorem dX7_readCarbon_5 : decode cX7_readCarbon 5 = .ok (.iconst 0, 1) := by decide +kernel
theorem dX7_readCarbon_6 : decode cX7_readCarbon 6 = .ok (.aload_n 1, 1) := by decide +kernel
theorem dX7_readCarbon_7 : decode cX7_readCarbon 7 = .ok (.getfield 97, 3) := by decide +kernel
theorem dX7_readCarbon_10 : decode cX7_readCarbon 10 = .ok (.iconst 1, 1) := by decide +kernel
theorem dX7_readCarbon_11 : decode cX7_readCarbon 11 = .ok (.isub, 1) := by decide +kernel
theorem dX7_readCarbon_12 : decode cX7_readCarbon 12 = .ok (.invokevirtual 54, 3) := by decide +kernel
theorem dX7_readCarbon_15 : decode cX7_readCarbon 15 = .ok (.ifCond .ne 5, 3) := by decide +kernel
theorem dX7_readCarbon_18 : decode cX7_readCarbon 18 = .ok (.iconst 0, 1) := by decide +kernel
theorem dX7_readCarbon_19 : decode cX7_readCarbon 19 = .ok (.ireturn, 1) := by decide +kernel
theorem dX7_readCarbon_20 : decode cX7_readCarbon 20 = .ok (.aload_n 1, 1) := by decide +kernel
theorem dX7_readCarbon_21 : decode cX7_readCarbon 21 = .ok (.dup, 1) := by decide +kernel
theorem dX7_readCarbon_22 : decode cX7_readCarbon 22 = .ok (.getfield 100, 3) := by decide +kernel
theorem dX7_readCarbon_25 : decode cX7_readCarbon 25 = .ok (.iconst 1, 1) := by decide +kernel
theorem dX7_readCarbon_26 : decode cX7_readCarbon 26 = .ok (.aload_n 0, 1) := by decide +kernel
theorem dX7_readCarbon_27 : decode cX7_readCarbon 27 = .ok (.getfield 28, 3) := by decide +kernel
theorem dX7_readCarbon_30 : decode cX7_readCarbon 30 = .ok (.ishl, 1) := by decide +kernel
theorem dX7_readCarbon_31 : decode cX7_readCarbon 31 = .ok (.ior, 1) := by decide +kernel
theorem dX7_readCarbon_32 : decode cX7_readCarbon 32 = .ok (.putfield 100, 3) := by decide +kernel
theorem dX7_readCarbon_35 : decode cX7_readCarbon 35 = .ok (.aload_n 0, 1) := by decide +kernel
theorem dX7_readCarbon_36 : decode cX7_readCarbon 36 = .ok (.invokevirtual 37, 3) := by decide +kernel
theorem dX7_readCarbon_39 : decode cX7_readCarbon 39 = .ok (.aload_n 0, 1) := by decide +kernel
theorem dX7_readCarbon_40 : decode cX7_readCarbon 40 = .ok (.invokevirtual 64, 3) := by decide +kernel
theorem dX7_readCarbon_43 : decode cX7_readCarbon 43 = .ok (.ireturn, 1) := by decide +kernel
theorem dX7_readPen_0 : decode cX7_readPen 0 = .ok (.aload_n 0, 1) := by decide +kernel
theorem dX7_readPen_1 : decode cX7_readPen 1 = .ok (.iconst 0, 1) := by decide +kernel
theorem dX7_readPen_2 : decode cX7_readPen 2 = .ok (.iconst 5, 1) := by decide +kernel
theorem dX7_readPen_3 : decode cX7_readPen 3 = .ok (.invokevirtual 54, 3) := by decide +kernel
theorem dX7_readPen_6 : decode cX7_readPen 6 = .ok (.ifCond .ne 5, 3) := by decide +kernel
theorem dX7_readPen_9 : decode cX7_readPen 9 = .ok (.iconst 0, 1) := by decide +kernel
theorem dX7_readPen_10 : decode cX7_readPen 10 = .ok (.ireturn, 1) := by decide +kernel
theorem dX7_readPen_11 : decode cX7_readPen 11 = .ok (.aload_n 0, 1) := by decide +kernel
theorem dX7_readPen_12 : decode cX7_readPen 12 = .ok (.aload_n 0, 1) := by decide +kernel
theorem dX7_readPen_13 : decode cX7_readPen 13 = .ok (.getfield 28, 3) := by decide +kernel
theorem dX7_readPen_16 : decode cX7_readPen 16 = .ok (.putfield 31, 3) := by decide +kernel
theorem dX7_readPen_19 : decode cX7_readPen 19 = .ok (.aload_n 0, 1) := by decide +kernel
theorem dX7_readPen_20 : decode cX7_readPen 20 = .ok (.invokevirtual 37, 3) := by decide +kernel
theorem dX7_readPen_23 : decode cX7_readPen 23 = .ok (.aload_n 0, 1) := by decide +kernel
theorem dX7_readPen_24 : decode cX7_readPen 24 = .ok (.iconst 1, 1) := by decide +kernel
theorem dX7_readPen_25 : decode cX7_readPen 25 = .ok (.bipush 9, 2) := by decide +kernel
theorem dX7_readPen_27 : decode cX7_readPen 27 = .ok (.invokevirtual 54, 3) := by decide +kernel
theorem dX7_readPen_30 : decode cX7_readPen 30 = .ok (.ifCond .ne 5, 3) := by decide +kernel
theorem dX7_readPen_33 : decode cX7_readPen 33 = .ok (.iconst 0, 1) := by decide +kernel
theorem dX7_readPen_34 : decode cX7_readPen 34 = .ok (.ireturn, 1) := by decide +kernel
theorem dX7_readPen_35 : decode cX7_readPen 35 = .ok (.aload_n 0, 1) := by decide +kernel
theorem dX7_readPen_36 : decode cX7_readPen 36 = .ok (.aload_n 0, 1) := by decide +kernel
theorem dX7_readPen_37 : decode cX7_readPen 37 = .ok (.getfield 28, 3) := by decide +kernel
theorem dX7_readPen_40 : decode cX7_readPen 40 = .ok (.putfield 34, 3) := by decide +kernel
theorem dX7_readPen_43 : decode cX7_readPen 43 = .ok (.aload_n 0, 1) := by decide +kernel
theorem dX7_readPen_44 : decode cX7_readPen 44 = .ok (.invokevirtual 37, 3) := by decide +kernel
theorem dX7_readPen_47 : decode cX7_readPen 47 = .ok (.iconst 1, 1) := by decide +kernel
theorem dX7_readPen_48 : decode cX7_readPen 48 = .ok (.ireturn, 1) := by decide +kernel
theorem dX7_readCells_0 : decode cX7_readCells 0 = .ok (.iconst 0, 1) := by decide +kernel
theorem dX7_readCells_1 : decode cX7_readCells 1 = .ok (.istore_n 1, 1) := by decide +kernel
theorem dX7_readCells_2 : decode cX7_readCells 2 = .ok (.iconst 0, 1) := by decide +kernel
theorem dX7_readCells_3 : decode cX7_readCells 3 = .ok (.istore_n 2, 1) := by decide +kernel
theorem dX7_readCells_4 : decode cX7_readCells 4 = .ok (.iconst 0, 1) := by decide +kernel
theorem dX7_readCells_5 : decode cX7_readCells 5 = .ok (.istore_n 3, 1) := by decide +kernel
theorem dX7_readCells_6 : decode cX7_readCells 6 = .ok (.iload_n 3, 1) := by decide +kernel
theorem dX7_readCells_7 : decode cX7_readCells 7 = .ok (.bipush 12, 2) := by decide +kernel
theorem dX7_readCells_9 : decode cX7_readCells 9 = .ok (.if_icmp .ge 39, 3) := by decide +kernel
theorem dX7_readCells_12 : decode cX7_readCells 12 = .ok (.aload_n 0, 1) := by decide +kernel
theorem dX7_readCells_13 : decode cX7_readCells 13 = .ok (.iload_n 2, 1) := by decide +kernel
theorem dX7_readCells_14 : decode cX7_readCells 14 = .ok (.bipush 11, 2) := by decide +kernel
theorem dX7_readCells_16 : decode cX7_readCells 16 = .ok (.invokevirtual 54, 3) := by decide +kernel
theorem dX7_readCells_19 : decode cX7_readCells 19 = .ok (.ifCond .eq 29, 3) := by decide +kernel
theorem dX7_readCells_22 : decode cX7_readCells 22 = .ok (.iload_n 1, 1) := by decide +kernel
theorem dX7_readCells_23 : decode cX7_readCells 23 = .ok (.iconst 1, 1) := by decide +kernel
theorem dX7_readCells_24 : decode cX7_readCells 24 = .ok (.aload_n 0, 1) := by decide +kernel
theorem dX7_readCells_25 : decode cX7_readCells 25 = .ok (.getfield 28, 3) := by decide +kernel
theorem dX7_readCells_28 : decode cX7_readCells 28 = .ok (.ishl, 1) := by decide +kernel
theorem dX7_readCells_29 : decode cX7_readCells 29 = .ok (.ior, 1) := by decide +kernel
theorem dX7_readCells_30 : decode cX7_readCells 30 = .ok (.istore_n 1, 1) := by decide +kernel
theorem dX7_readCells_31 : decode cX7_readCells 31 = .ok (.aload_n 0, 1) := by decide +kernel
theorem dX7_readCells_32 : decode cX7_readCells 32 = .ok (.getfield 28, 3) := by decide +kernel
theorem dX7_readCells_35 : decode cX7_readCells 35 = .ok (.iconst 1, 1) := by decide +kernel
theorem dX7_readCells_36 : decode cX7_readCells 36 = .ok (.iadd, 1) := by decide +kernel
theorem dX7_readCells_37 : decode cX7_readCells 37 = .ok (.istore_n 2, 1) := by decide +kernel
theorem dX7_readCells_38 : decode cX7_readCells 38 = .ok (.aload_n 0, 1) := by decide +kernel
theorem dX7_readCells_39 : decode cX7_readCells 39 = .ok (.invokevirtual 37, 3) := by decide +kernel
theorem dX7_readCells_42 : decode cX7_readCells 42 = .ok (.iinc 3 1, 3) := by decide +kernel
theorem dX7_readCells_45 : decode cX7_readCells 45 = .ok (.goto (-39), 3) := by decide +kernel
theorem dX7_readCells_48 : decode cX7_readCells 48 = .ok (.iload_n 1, 1) := by decide +kernel
theorem dX7_readCells_49 : decode cX7_readCells 49 = .ok (.ireturn, 1) := by decide +kernel
theorem dX7_readItem_0 : decode cX7_readItem 0 = .ok (.aload_n 0, 1) := by decide +kernel
theorem dX7_readItem_1 : decode cX7_readItem 1 = .ok (.ldc 68, 2) := by decide +kernel
theorem dX7_readItem_3 : decode cX7_readItem 3 = .ok (.invokevirtual 50, 3) := by decide +kernel
theorem dX7_readItem_6 : decode cX7_readItem 6 = .ok (.ifCond .eq 9, 3) := by decide +kernel
theorem dX7_readItem_9 : decode cX7_readItem 9 = .ok (.aload_n 0, 1) := by decide +kernel
theorem dX7_readItem_10 : decode cX7_readItem 10 = .ok (.aload_n 1, 1) := by decide +kernel
theorem dX7_readItem_11 : decode cX7_readItem 11 = .ok (.invokevirtual 70, 3) := by decide +kernel
theorem dX7_readItem_14 : decode cX7_readItem 14 = .ok (.ireturn, 1) := by decide +kernel
theorem dX7_readItem_15 : decode cX7_readItem 15 = .ok (.aload_n 0, 1) := by decide +kernel
theorem dX7_readItem_16 : decode cX7_readItem 16 = .ok (.ldc 73, 2) := by decide +kernel
theorem dX7_readItem_18 : decode cX7_readItem 18 = .ok (.invokevirtual 50, 3) := by decide +kernel
theorem dX7_readItem_21 : decode cX7_readItem 21 = .ok (.istore_n 3, 1) := by decide +kernel
theorem dX7_readItem_22 : decode cX7_readItem 22 = .ok (.aload_n 0, 1) := by decide +kernel
theorem dX7_readItem_23 : decode cX7_readItem 23 = .ok (.ldc 75, 2) := by decide +kernel
theorem dX7_readItem_25 : decode cX7_readItem 25 = .ok (.invokevirtual 50, 3) := by decide +kernel
theorem dX7_readItem_28 : decode cX7_readItem 28 = .ok (.ifCond .eq 16, 3) := by decide +kernel
theorem dX7_readItem_31 : decode cX7_readItem 31 = .ok (.aload_n 1, 1) := by decide +kernel
theorem dX7_readItem_32 : decode cX7_readItem 32 = .ok (.invokevirtual 77, 3) := by decide +kernel
theorem dX7_readItem_35 : decode cX7_readItem 35 = .ok (.bipush 10, 2) := by decide +kernel
theorem dX7_readItem_37 : decode cX7_readItem 37 = .ok (.if_icmp .ge 7, 3) := by decide +kernel
theorem dX7_readItem_40 : decode cX7_readItem 40 = .ok (.iconst 1, 1) := by decide +kernel
theorem dX7_readItem_41 : decode cX7_readItem 41 = .ok (.goto 4, 3) := by decide +kernel
theorem dX7_readItem_44 : decode cX7_readItem 44 = .ok (.iconst 0, 1) := by decide +kernel
theorem dX7_readItem_45 : decode cX7_readItem 45 = .ok (.istore 4, 2) := by decide +kernel
theorem dX7_readItem_47 : decode cX7_readItem 47 = .ok (.iload_n 3, 1) := by decide +kernel
theorem dX7_readItem_48 : decode cX7_readItem 48 = .ok (.ifCond .ne 8, 3) := by decide +kernel
theorem dX7_readItem_51 : decode cX7_readItem 51 = .ok (.iload 4, 2) := by decide +kernel
theorem dX7_readItem_53 : decode cX7_readItem 53 = .ok (.ifCond .eq 10, 3) := by decide +kernel
theorem dX7_readItem_56 : decode cX7_readItem 56 = .ok (.aload_n 1, 1) := by decide +kernel
theorem dX7_readItem_57 : decode cX7_readItem 57 = .ok (.invokevirtual 81, 3) := by decide +kernel
theorem dX7_readItem_60 : decode cX7_readItem 60 = .ok (.ifCond .eq 5, 3) := by decide +kernel
theorem dX7_readItem_63 : decode cX7_readItem 63 = .ok (.iconst 0, 1) := by decide +kernel
theorem dX7_readItem_64 : decode cX7_readItem 64 = .ok (.ireturn, 1) := by decide +kernel
theorem dX7_readItem_65 : decode cX7_readItem 65 = .ok (.aload_n 0, 1) := by decide +kernel
theorem dX7_readItem_66 : decode cX7_readItem 66 = .ok (.invokevirtual 37, 3) := by decide +kernel
theorem dX7_readItem_69 : decode cX7_readItem 69 = .ok (.iload_n 3, 1) := by decide +kernel
theorem dX7_readItem_70 : decode cX7_readItem 70 = .ok (.ifCond .eq 11, 3) := by decide +kernel
theorem dX7_readItem_73 : decode cX7_readItem 73 = .ok (.aload_n 1, 1) := by decide +kernel
theorem dX7_readItem_74 : decode cX7_readItem 74 = .ok (.invokevirtual 84, 3) := by decide +kernel
theorem dX7_readItem_77 : decode cX7_readItem 77 = .ok (.pop, 1) := by decide +kernel
theorem dX7_readItem_78 : decode cX7_readItem 78 = .ok (.goto 37, 3) := by decide +kernel
theorem dX7_readItem_81 : decode cX7_readItem 81 = .ok (.aload_n 0, 1) := by decide +kernel
theorem dX7_readItem_82 : decode cX7_readItem 82 = .ok (.invokevirtual 87, 3) := by decide +kernel
theorem dX7_readItem_85 : decode cX7_readItem 85 = .ok (.ifCond .eq 28, 3) := by decide +kernel
theorem dX7_readItem_88 : decode cX7_readItem 88 = .ok (.aload_n 0, 1) := by decide +kernel
theorem dX7_readItem_89 : decode cX7_readItem 89 = .ok (.invokevirtual 90, 3) := by decide +kernel
theorem dX7_readItem_92 : decode cX7_readItem 92 = .ok (.istore 5, 2) := by decide +kernel
theorem dX7_readItem_94 : decode cX7_readItem 94 = .ok (.aload_n 1, 1) := by decide +kernel
theorem dX7_readItem_95 : decode cX7_readItem 95 = .ok (.aload_n 2, 1) := by decide +kernel
theorem dX7_readItem_96 : decode cX7_readItem 96 = .ok (.aload_n 0, 1) := by decide +kernel
theorem dX7_readItem_97 : decode cX7_readItem 97 = .ok (.getfield 31, 3) := by decide +kernel
theorem dX7_readItem_100 : decode cX7_readItem 100 = .ok (.aload_n 0, 1) := by decide +kernel
theorem dX7_readItem_101 : decode cX7_readItem 101 = .ok (.getfield 34, 3) := by decide +kernel
theorem dX7_readItem_104 : decode cX7_readItem 104 = .ok (.iload 5, 2) := by decide +kernel
theorem dX7_readItem_106 : decode cX7_readItem 106 = .ok (.invokevirtual 93, 3) := by decide +kernel
theorem dX7_readItem_109 : decode cX7_readItem 109 = .ok (.pop, 1) := by decide +kernel
theorem dX7_readItem_110 : decode cX7_readItem 110 = .ok (.goto 5, 3) := by decide +kernel
theorem dX7_readItem_113 : decode cX7_readItem 113 = .ok (.iconst 0, 1) := by decide +kernel
theorem dX7_readItem_114 : decode cX7_readItem 114 = .ok (.ireturn, 1) := by decide +kernel
theorem dX7_readItem_115 : decode cX7_readItem 115 = .ok (.aload_n 0, 1) := by decide +kernel
theorem dX7_readItem_116 : decode cX7_readItem 116 = .ok (.invokevirtual 64, 3) := by decide +kernel
theorem dX7_readItem_119 : decode cX7_readItem 119 = .ok (.ireturn, 1) := by decide +kernel
theorem dX7_readInto_0 : decode cX7_readInto 0 = .ok (.aload_n 0, 1) := by decide +kernel
theorem dX7_readInto_1 : decode cX7_readInto 1 = .ok (.iconst 0, 1) := by decide +kernel
theorem dX7_readInto_2 : decode cX7_readInto 2 = .ok (.putfield 19, 3) := by decide +kernel
theorem dX7_readInto_5 : decode cX7_readInto 5 = .ok (.aload_n 0, 1) := by decide +kernel
theorem dX7_readInto_6 : decode cX7_readInto 6 = .ok (.invokevirtual 37, 3) := by decide +kernel
theorem dX7_readInto_9 : decode cX7_readInto 9 = .ok (.aload_n 0, 1) := by decide +kernel
theorem dX7_readInto_10 : decode cX7_readInto 10 = .ok (.aload_n 1, 1) := by decide +kernel
theorem dX7_readInto_11 : decode cX7_readInto 11 = .ok (.invokevirtual 40, 3) := by decide +kernel
theorem dX7_readInto_14 : decode cX7_readInto 14 = .ok (.ifCond .ne 5, 3) := by decide +kernel
theorem dX7_readInto_17 : decode cX7_readInto 17 = .ok (.iconst (-1), 1) := by decide +kernel
theorem dX7_readInto_18 : decode cX7_readInto 18 = .ok (.ireturn, 1) := by decide +kernel
theorem dX7_readInto_19 : decode cX7_readInto 19 = .ok (.iconst 1, 1) := by decide +kernel
theorem dX7_readInto_20 : decode cX7_readInto 20 = .ok (.istore_n 3, 1) := by decide +kernel
theorem dX7_readInto_21 : decode cX7_readInto 21 = .ok (.iconst 0, 1) := by decide +kernel
theorem dX7_readInto_22 : decode cX7_readInto 22 = .ok (.istore 4, 2) := by decide +kernel
theorem dX7_readInto_24 : decode cX7_readInto 24 = .ok (.iload 4, 2) := by decide +kernel
theorem dX7_readInto_26 : decode cX7_readInto 26 = .ok (.sipush 150, 3) := by decide +kernel
theorem dX7_readInto_29 : decode cX7_readInto 29 = .ok (.if_icmp .gt 30, 3) := by decide +kernel
theorem dX7_readInto_32 : decode cX7_readInto 32 = .ok (.aload_n 0, 1) := by decide +kernel
theorem dX7_readInto_33 : decode cX7_readInto 33 = .ok (.getfield 22, 3) := by decide +kernel
theorem dX7_readInto_36 : decode cX7_readInto 36 = .ok (.ifCond .eq 23, 3) := by decide +kernel
theorem dX7_readInto_39 : decode cX7_readInto 39 = .ok (.aload_n 0, 1) := by decide +kernel
theorem dX7_readInto_40 : decode cX7_readInto 40 = .ok (.aload_n 1, 1) := by decide +kernel
theorem dX7_readInto_41 : decode cX7_readInto 41 = .ok (.aload_n 2, 1) := by decide +kernel
theorem dX7_readInto_42 : decode cX7_readInto 42 = .ok (.invokevirtual 44, 3) := by decide +kernel
theorem dX7_readInto_45 : decode cX7_readInto 45 = .ok (.ifCond .ne 5, 3) := by decide +kernel
theorem dX7_readInto_48 : decode cX7_readInto 48 = .ok (.iconst (-1), 1) := by decide +kernel
theorem dX7_readInto_49 : decode cX7_readInto 49 = .ok (.ireturn, 1) := by decide +kernel
theorem dX7_readInto_50 : decode cX7_readInto 50 = .ok (.iinc 3 1, 3) := by decide +kernel
theorem dX7_readInto_53 : decode cX7_readInto 53 = .ok (.iinc 4 1, 3) := by decide +kernel
theorem dX7_readInto_56 : decode cX7_readInto 56 = .ok (.goto (-32), 3) := by decide +kernel
theorem dX7_readInto_59 : decode cX7_readInto 59 = .ok (.iload_n 3, 1) := by decide +kernel
theorem dX7_readInto_60 : decode cX7_readInto 60 = .ok (.ireturn, 1) := by decide +kernel
theorem dX8_sheetAt_0 : decode cX8_sheetAt 0 = .ok (.iload_n 1, 1) := by decide +kernel
theorem dX8_sheetAt_1 : decode cX8_sheetAt 1 = .ok (.ifCond .lt 18, 3) := by decide +kernel
theorem dX8_sheetAt_4 : decode cX8_sheetAt 4 = .ok (.iload_n 1, 1) := by decide +kernel
theorem dX8_sheetAt_5 : decode cX8_sheetAt 5 = .ok (.bipush 6, 2) := by decide +kernel
theorem dX8_sheetAt_7 : decode cX8_sheetAt 7 = .ok (.if_icmp .ge 12, 3) := by decide +kernel
theorem dX8_sheetAt_10 : decode cX8_sheetAt 10 = .ok (.aload_n 0, 1) := by decide +kernel
theorem dX8_sheetAt_11 : decode cX8_sheetAt 11 = .ok (.getfield 9, 3) := by decide +kernel
theorem dX8_sheetAt_14 : decode cX8_sheetAt 14 = .ok (.iload_n 1, 1) := by decide +kernel
theorem dX8_sheetAt_15 : decode cX8_sheetAt 15 = .ok (.iaload, 1) := by decide +kernel
theorem dX8_sheetAt_16 : decode cX8_sheetAt 16 = .ok (.goto 4, 3) := by decide +kernel
theorem dX8_sheetAt_19 : decode cX8_sheetAt 19 = .ok (.iconst (-1), 1) := by decide +kernel
theorem dX8_sheetAt_20 : decode cX8_sheetAt 20 = .ok (.ireturn, 1) := by decide +kernel
theorem dX8_mayLie_0 : decode cX8_mayLie 0 = .ok (.iconst 1, 1) := by decide +kernel
theorem dX8_mayLie_1 : decode cX8_mayLie 1 = .ok (.istore 5, 2) := by decide +kernel
theorem dX8_mayLie_3 : decode cX8_mayLie 3 = .ok (.iload 5, 2) := by decide +kernel
theorem dX8_mayLie_5 : decode cX8_mayLie 5 = .ok (.bipush 10, 2) := by decide +kernel
theorem dX8_mayLie_7 : decode cX8_mayLie 7 = .ok (.if_icmp .ge 17, 3) := by decide +kernel
theorem dX8_mayLie_10 : decode cX8_mayLie 10 = .ok (.aload_n 0, 1) := by decide +kernel
theorem dX8_mayLie_11 : decode cX8_mayLie 11 = .ok (.getfield 21, 3) := by decide +kernel
theorem dX8_mayLie_14 : decode cX8_mayLie 14 = .ok (.iload 5, 2) := by decide +kernel
theorem dX8_mayLie_16 : decode cX8_mayLie 16 = .ok (.iconst 0, 1) := by decide +kernel
theorem dX8_mayLie_17 : decode cX8_mayLie 17 = .ok (.iastore, 1) := by decide +kernel
theorem dX8_mayLie_18 : decode cX8_mayLie 18 = .ok (.iinc 5 1, 3) := by decide +kernel
theorem dX8_mayLie_21 : decode cX8_mayLie 21 = .ok (.goto (-18), 3) := by decide +kernel
theorem dX8_mayLie_24 : decode cX8_mayLie 24 = .ok (.iconst 0, 1) := by decide +kernel
theorem dX8_mayLie_25 : decode cX8_mayLie 25 = .ok (.istore 5, 2) := by decide +kernel
theorem dX8_mayLie_27 : decode cX8_mayLie 27 = .ok (.iload 5, 2) := by decide +kernel
theorem dX8_mayLie_29 : decode cX8_mayLie 29 = .ok (.aload_n 1, 1) := by decide +kernel
theorem dX8_mayLie_30 : decode cX8_mayLie 30 = .ok (.invokevirtual 45, 3) := by decide +kernel
theorem dX8_mayLie_33 : decode cX8_mayLie 33 = .ok (.if_icmp .ge 58, 3) := by decide +kernel
theorem dX8_mayLie_36 : decode cX8_mayLie 36 = .ok (.aload_n 1, 1) := by decide +kernel
theorem dX8_mayLie_37 : decode cX8_mayLie 37 = .ok (.getfield 49, 3) := by decide +kernel
theorem dX8_mayLie_40 : decode cX8_mayLie 40 = .ok (.iload 5, 2) := by decide +kernel
theorem dX8_mayLie_42 : decode cX8_mayLie 42 = .ok (.iaload, 1) := by decide +kernel
theorem dX8_mayLie_43 : decode cX8_mayLie 43 = .ok (.istore 6, 2) := by decide +kernel
theorem dX8_mayLie_45 : decode cX8_mayLie 45 = .ok (.iload 4, 2) := by decide +kernel
theorem dX8_mayLie_47 : decode cX8_mayLie 47 = .ok (.iload 6, 2) := by decide +kernel
theorem dX8_mayLie_49 : decode cX8_mayLie 49 = .ok (.ishr, 1) := by decide +kernel
theorem dX8_mayLie_50 : decode cX8_mayLie 50 = .ok (.iconst 1, 1) := by decide +kernel
theorem dX8_mayLie_51 : decode cX8_mayLie 51 = .ok (.iand, 1) := by decide +kernel
theorem dX8_mayLie_52 : decode cX8_mayLie 52 = .ok (.ifCond .eq 33, 3) := by decide +kernel
theorem dX8_mayLie_55 : decode cX8_mayLie 55 = .ok (.aload_n 0, 1) := by decide +kernel
theorem dX8_mayLie_56 : decode cX8_mayLie 56 = .ok (.getfield 21, 3) := by decide +kernel
theorem dX8_mayLie_59 : decode cX8_mayLie 59 = .ok (.aload_n 1, 1) := by decide +kernel
theorem dX8_mayLie_60 : decode cX8_mayLie 60 = .ok (.iload 5, 2) := by decide +kernel
theorem dX8_mayLie_62 : decode cX8_mayLie 62 = .ok (.iload_n 3, 1) := by decide +kernel
theorem dX8_mayLie_63 : decode cX8_mayLie 63 = .ok (.aload_n 0, 1) := by decide +kernel
theorem dX8_mayLie_64 : decode cX8_mayLie 64 = .ok (.getfield 15, 3) := by decide +kernel
theorem dX8_mayLie_67 : decode cX8_mayLie 67 = .ok (.iload 6, 2) := by decide +kernel
theorem dX8_mayLie_69 : decode cX8_mayLie 69 = .ok (.iaload, 1) := by decide +kernel
theorem dX8_mayLie_70 : decode cX8_mayLie 70 = .ok (.isub, 1) := by decide +kernel
theorem dX8_mayLie_71 : decode cX8_mayLie 71 = .ok (.invokevirtual 52, 3) := by decide +kernel
theorem dX8_mayLie_74 : decode cX8_mayLie 74 = .ok (.dup2, 1) := by decide +kernel
theorem dX8_mayLie_75 : decode cX8_mayLie 75 = .ok (.iaload, 1) := by decide +kernel
theorem dX8_mayLie_76 : decode cX8_mayLie 76 = .ok (.aload_n 1, 1) := by decide +kernel
theorem dX8_mayLie_77 : decode cX8_mayLie 77 = .ok (.getfield 55, 3) := by decide +kernel
theorem dX8_mayLie_80 : decode cX8_mayLie 80 = .ok (.iload 5, 2) := by decide +kernel
theorem dX8_mayLie_82 : decode cX8_mayLie 82 = .ok (.iaload, 1) := by decide +kernel
theorem dX8_mayLie_83 : decode cX8_mayLie 83 = .ok (.ior, 1) := by decide +kernel
theorem dX8_mayLie_84 : decode cX8_mayLie 84 = .ok (.iastore, 1) := by decide +kernel
theorem dX8_mayLie_85 : decode cX8_mayLie 85 = .ok (.iinc 5 1, 3) := by decide +kernel
theorem dX8_mayLie_88 : decode cX8_mayLie 88 = .ok (.goto (-61), 3) := by decide +kernel
theorem dX8_mayLie_91 : decode cX8_mayLie 91 = .ok (.iconst 0, 1) := by decide +kernel
theorem dX8_mayLie_92 : decode cX8_mayLie 92 = .ok (.istore 5, 2) := by decide +kernel
theorem dX8_mayLie_94 : decode cX8_mayLie 94 = .ok (.bipush 9, 2) := by decide +kernel
theorem dX8_mayLie_96 : decode cX8_mayLie 96 = .ok (.istore 6, 2) := by decide +kernel
theorem dX8_mayLie_98 : decode cX8_mayLie 98 = .ok (.iload 6, 2) := by decide +kernel
theorem dX8_mayLie_100 : decode cX8_mayLie 100 = .ok (.iconst 1, 1) := by decide +kernel
theorem dX8_mayLie_101 : decode cX8_mayLie 101 = .ok (.if_icmp .lt 40, 3) := by decide +kernel
theorem dX8_mayLie_104 : decode cX8_mayLie 104 = .ok (.iload 5, 2) := by decide +kernel
theorem dX8_mayLie_106 : decode cX8_mayLie 106 = .ok (.aload_n 0, 1) := by decide +kernel
theorem dX8_mayLie_107 : decode cX8_mayLie 107 = .ok (.getfield 21, 3) := by decide +kernel
theorem dX8_mayLie_110 : decode cX8_mayLie 110 = .ok (.iload 6, 2) := by decide +kernel
theorem dX8_mayLie_112 : decode cX8_mayLie 112 = .ok (.iaload, 1) := by decide +kernel
theorem dX8_mayLie_113 : decode cX8_mayLie 113 = .ok (.ior, 1) := by decide +kernel
theorem dX8_mayLie_114 : decode cX8_mayLie 114 = .ok (.istore 5, 2) := by decide +kernel
theorem dX8_mayLie_116 : decode cX8_mayLie 116 = .ok (.iload 5, 2) := by decide +kernel
theorem dX8_mayLie_118 : decode cX8_mayLie 118 = .ok (.aload_n 0, 1) := by decide +kernel
theorem dX8_mayLie_119 : decode cX8_mayLie 119 = .ok (.getfield 18, 3) := by decide +kernel
theorem dX8_mayLie_122 : decode cX8_mayLie 122 = .ok (.iload_n 2, 1) := by decide +kernel
theorem dX8_mayLie_123 : decode cX8_mayLie 123 = .ok (.bipush 10, 2) := by decide +kernel
theorem dX8_mayLie_125 : decode cX8_mayLie 125 = .ok (.imul, 1) := by decide +kernel
theorem dX8_mayLie_126 : decode cX8_mayLie 126 = .ok (.iload 6, 2) := by decide +kernel
theorem dX8_mayLie_128 : decode cX8_mayLie 128 = .ok (.iadd, 1) := by decide +kernel
theorem dX8_mayLie_129 : decode cX8_mayLie 129 = .ok (.iaload, 1) := by decide +kernel
theorem dX8_mayLie_130 : decode cX8_mayLie 130 = .ok (.if_icmp .eq 5, 3) := by decide +kernel
theorem dX8_mayLie_133 : decode cX8_mayLie 133 = .ok (.iconst 0, 1) := by decide +kernel
theorem dX8_mayLie_134 : decode cX8_mayLie 134 = .ok (.ireturn, 1) := by decide +kernel
theorem dX8_mayLie_135 : decode cX8_mayLie 135 = .ok (.iinc 6 (-1), 3) := by decide +kernel
theorem dX8_mayLie_138 : decode cX8_mayLie 138 = .ok (.goto (-40), 3) := by decide +kernel
theorem dX8_mayLie_141 : decode cX8_mayLie 141 = .ok (.iconst 1, 1) := by decide +kernel
theorem dX8_mayLie_142 : decode cX8_mayLie 142 = .ok (.ireturn, 1) := by decide +kernel
theorem dX8_layFrom_0 : decode cX8_layFrom 0 = .ok (.iload_n 2, 1) := by decide +kernel
theorem dX8_layFrom_1 : decode cX8_layFrom 1 = .ok (.aload_n 1, 1) := by decide +kernel
theorem dX8_layFrom_2 : decode cX8_layFrom 2 = .ok (.getfield 28, 3) := by decide +kernel
theorem dX8_layFrom_5 : decode cX8_layFrom 5 = .ok (.if_icmp .ge 9, 3) := by decide +kernel
theorem dX8_layFrom_8 : decode cX8_layFrom 8 = .ok (.iload_n 2, 1) := by decide +kernel
theorem dX8_layFrom_9 : decode cX8_layFrom 9 = .ok (.bipush 6, 2) := by decide +kernel
theorem dX8_layFrom_11 : decode cX8_layFrom 11 = .ok (.if_icmp .lt 14, 3) := by decide +kernel
theorem dX8_layFrom_14 : decode cX8_layFrom 14 = .ok (.aload_n 0, 1) := by decide +kernel
theorem dX8_layFrom_15 : decode cX8_layFrom 15 = .ok (.dup, 1) := by decide +kernel
theorem dX8_layFrom_16 : decode cX8_layFrom 16 = .ok (.getfield 24, 3) := by decide +kernel
theorem dX8_layFrom_19 : decode cX8_layFrom 19 = .ok (.iconst 1, 1) := by decide +kernel
theorem dX8_layFrom_20 : decode cX8_layFrom 20 = .ok (.iadd, 1) := by decide +kernel
theorem dX8_layFrom_21 : decode cX8_layFrom 21 = .ok (.putfield 24, 3) := by decide +kernel
theorem dX8_layFrom_24 : decode cX8_layFrom 24 = .ok (.return_, 1) := by decide +kernel
theorem dX8_layFrom_25 : decode cX8_layFrom 25 = .ok (.iconst 0, 1) := by decide +kernel
theorem dX8_layFrom_26 : decode cX8_layFrom 26 = .ok (.istore 5, 2) := by decide +kernel
theorem dX8_layFrom_28 : decode cX8_layFrom 28 = .ok (.iload 5, 2) := by decide +kernel
theorem dX8_layFrom_30 : decode cX8_layFrom 30 = .ok (.aload_n 1, 1) := by decide +kernel
theorem dX8_layFrom_31 : decode cX8_layFrom 31 = .ok (.getfield 28, 3) := by decide +kernel
theorem dX8_layFrom_34 : decode cX8_layFrom 34 = .ok (.if_icmp .ge 76, 3) := by decide +kernel
theorem dX8_layFrom_37 : decode cX8_layFrom 37 = .ok (.aload_n 0, 1) := by decide +kernel
theorem dX8_layFrom_38 : decode cX8_layFrom 38 = .ok (.getfield 24, 3) := by decide +kernel
theorem dX8_layFrom_41 : decode cX8_layFrom 41 = .ok (.iload 4, 2) := by decide +kernel
theorem dX8_layFrom_43 : decode cX8_layFrom 43 = .ok (.if_icmp .ge 67, 3) := by decide +kernel
theorem dX8_layFrom_46 : decode cX8_layFrom 46 = .ok (.iload_n 3, 1) := by decide +kernel
theorem dX8_layFrom_47 : decode cX8_layFrom 47 = .ok (.iload 5, 2) := by decide +kernel
theorem dX8_layFrom_49 : decode cX8_layFrom 49 = .ok (.ishr, 1) := by decide +kernel
theorem dX8_layFrom_50 : decode cX8_layFrom 50 = .ok (.iconst 1, 1) := by decide +kernel
theorem dX8_layFrom_51 : decode cX8_layFrom 51 = .ok (.iand, 1) := by decide +kernel
theorem dX8_layFrom_52 : decode cX8_layFrom 52 = .ok (.ifCond .ne 52, 3) := by decide +kernel
theorem dX8_layFrom_55 : decode cX8_layFrom 55 = .ok (.aload_n 0, 1) := by decide +kernel
theorem dX8_layFrom_56 : decode cX8_layFrom 56 = .ok (.getfield 9, 3) := by decide +kernel
theorem dX8_layFrom_59 : decode cX8_layFrom 59 = .ok (.iload_n 2, 1) := by decide +kernel
theorem dX8_layFrom_60 : decode cX8_layFrom 60 = .ok (.iload 5, 2) := by decide +kernel
theorem dX8_layFrom_62 : decode cX8_layFrom 62 = .ok (.iastore, 1) := by decide +kernel
theorem dX8_layFrom_63 : decode cX8_layFrom 63 = .ok (.aload_n 0, 1) := by decide +kernel
theorem dX8_layFrom_64 : decode cX8_layFrom 64 = .ok (.getfield 15, 3) := by decide +kernel
theorem dX8_layFrom_67 : decode cX8_layFrom 67 = .ok (.iload 5, 2) := by decide +kernel
theorem dX8_layFrom_69 : decode cX8_layFrom 69 = .ok (.iload_n 2, 1) := by decide +kernel
theorem dX8_layFrom_70 : decode cX8_layFrom 70 = .ok (.iastore, 1) := by decide +kernel
theorem dX8_layFrom_71 : decode cX8_layFrom 71 = .ok (.aload_n 0, 1) := by decide +kernel
theorem dX8_layFrom_72 : decode cX8_layFrom 72 = .ok (.aload_n 1, 1) := by decide +kernel
theorem dX8_layFrom_73 : decode cX8_layFrom 73 = .ok (.iload 5, 2) := by decide +kernel
theorem dX8_layFrom_75 : decode cX8_layFrom 75 = .ok (.iload_n 2, 1) := by decide +kernel
theorem dX8_layFrom_76 : decode cX8_layFrom 76 = .ok (.iload_n 3, 1) := by decide +kernel
theorem dX8_layFrom_77 : decode cX8_layFrom 77 = .ok (.iconst 1, 1) := by decide +kernel
theorem dX8_layFrom_78 : decode cX8_layFrom 78 = .ok (.iload 5, 2) := by decide +kernel
theorem dX8_layFrom_80 : decode cX8_layFrom 80 = .ok (.ishl, 1) := by decide +kernel
theorem dX8_layFrom_81 : decode cX8_layFrom 81 = .ok (.ior, 1) := by decide +kernel
theorem dX8_layFrom_82 : decode cX8_layFrom 82 = .ok (.invokevirtual 41, 3) := by decide +kernel
theorem dX8_layFrom_85 : decode cX8_layFrom 85 = .ok (.ifCond .eq 19, 3) := by decide +kernel
theorem dX8_layFrom_88 : decode cX8_layFrom 88 = .ok (.aload_n 0, 1) := by decide +kernel
theorem dX8_layFrom_89 : decode cX8_layFrom 89 = .ok (.aload_n 1, 1) := by decide +kernel
theorem dX8_layFrom_90 : decode cX8_layFrom 90 = .ok (.iload_n 2, 1) := by decide +kernel
theorem dX8_layFrom_91 : decode cX8_layFrom 91 = .ok (.iconst 1, 1) := by decide +kernel
theorem dX8_layFrom_92 : decode cX8_layFrom 92 = .ok (.iadd, 1) := by decide +kernel
theorem dX8_layFrom_93 : decode cX8_layFrom 93 = .ok (.iload_n 3, 1) := by decide +kernel
theorem dX8_layFrom_94 : decode cX8_layFrom 94 = .ok (.iconst 1, 1) := by decide +kernel
theorem dX8_layFrom_95 : decode cX8_layFrom 95 = .ok (.iload 5, 2) := by decide +kernel
theorem dX8_layFrom_97 : decode cX8_layFrom 97 = .ok (.ishl, 1) := by decide +kernel
theorem dX8_layFrom_98 : decode cX8_layFrom 98 = .ok (.ior, 1) := by decide +kernel
theorem dX8_layFrom_99 : decode cX8_layFrom 99 = .ok (.iload 4, 2) := by decide +kernel
theorem dX8_layFrom_101 : decode cX8_layFrom 101 = .ok (.invokevirtual 37, 3) := by decide +kernel
theorem dX8_layFrom_104 : decode cX8_layFrom 104 = .ok (.iinc 5 1, 3) := by decide +kernel
theorem dX8_layFrom_107 : decode cX8_layFrom 107 = .ok (.goto (-79), 3) := by decide +kernel
theorem dX8_layFrom_110 : decode cX8_layFrom 110 = .ok (.return_, 1) := by decide +kernel
theorem dX8_search_0 : decode cX8_search 0 = .ok (.iconst 0, 1) := by decide +kernel
theorem dX8_search_1 : decode cX8_search 1 = .ok (.istore_n 3, 1) := by decide +kernel
theorem dX8_search_2 : decode cX8_search 2 = .ok (.iload_n 3, 1) := by decide +kernel
theorem dX8_search_3 : decode cX8_search 3 = .ok (.aload_n 1, 1) := by decide +kernel
theorem dX8_search_4 : decode cX8_search 4 = .ok (.getfield 28, 3) := by decide +kernel
theorem dX8_search_7 : decode cX8_search 7 = .ok (.if_icmp .ge 44, 3) := by decide +kernel
theorem dX8_search_10 : decode cX8_search 10 = .ok (.iconst 1, 1) := by decide +kernel
theorem dX8_search_11 : decode cX8_search 11 = .ok (.istore 4, 2) := by decide +kernel
theorem dX8_search_13 : decode cX8_search 13 = .ok (.iload 4, 2) := by decide +kernel
theorem dX8_search_15 : decode cX8_search 15 = .ok (.bipush 10, 2) := by decide +kernel
theorem dX8_search_17 : decode cX8_search 17 = .ok (.if_icmp .ge 28, 3) := by decide +kernel
theorem dX8_search_20 : decode cX8_search 20 = .ok (.aload_n 0, 1) := by decide +kernel
theorem dX8_search_21 : decode cX8_search 21 = .ok (.getfield 18, 3) := by decide +kernel
theorem dX8_search_24 : decode cX8_search 24 = .ok (.iload_n 3, 1) := by decide +kernel
theorem dX8_search_25 : decode cX8_search 25 = .ok (.bipush 10, 2) := by decide +kernel
theorem dX8_search_27 : decode cX8_search 27 = .ok (.imul, 1) := by decide +kernel
theorem dX8_search_28 : decode cX8_search 28 = .ok (.iload 4, 2) := by decide +kernel
theorem dX8_search_30 : decode cX8_search 30 = .ok (.iadd, 1) := by decide +kernel
theorem dX8_search_31 : decode cX8_search 31 = .ok (.aload_n 1, 1) := by decide +kernel
theorem dX8_search_32 : decode cX8_search 32 = .ok (.iload_n 3, 1) := by decide +kernel
theorem dX8_search_33 : decode cX8_search 33 = .ok (.iload 4, 2) := by decide +kernel
theorem dX8_search_35 : decode cX8_search 35 = .ok (.invokevirtual 33, 3) := by decide +kernel
theorem dX8_search_38 : decode cX8_search 38 = .ok (.iastore, 1) := by decide +kernel
theorem dX8_search_39 : decode cX8_search 39 = .ok (.iinc 4 1, 3) := by decide +kernel
theorem dX8_search_42 : decode cX8_search 42 = .ok (.goto (-29), 3) := by decide +kernel
theorem dX8_search_45 : decode cX8_search 45 = .ok (.iinc 3 1, 3) := by decide +kernel
theorem dX8_search_48 : decode cX8_search 48 = .ok (.goto (-46), 3) := by decide +kernel
theorem dX8_search_51 : decode cX8_search 51 = .ok (.aload_n 0, 1) := by decide +kernel
theorem dX8_search_52 : decode cX8_search 52 = .ok (.iconst 0, 1) := by decide +kernel
theorem dX8_search_53 : decode cX8_search 53 = .ok (.putfield 24, 3) := by decide +kernel
theorem dX8_search_56 : decode cX8_search 56 = .ok (.aload_n 0, 1) := by decide +kernel
theorem dX8_search_57 : decode cX8_search 57 = .ok (.aload_n 1, 1) := by decide +kernel
theorem dX8_search_58 : decode cX8_search 58 = .ok (.iconst 0, 1) := by decide +kernel
theorem dX8_search_59 : decode cX8_search 59 = .ok (.iconst 0, 1) := by decide +kernel
theorem dX8_search_60 : decode cX8_search 60 = .ok (.iload_n 2, 1) := by decide +kernel
theorem dX8_search_61 : decode cX8_search 61 = .ok (.invokevirtual 37, 3) := by decide +kernel
theorem dX8_search_64 : decode cX8_search 64 = .ok (.aload_n 0, 1) := by decide +kernel
theorem dX8_search_65 : decode cX8_search 65 = .ok (.getfield 24, 3) := by decide +kernel
theorem dX8_search_68 : decode cX8_search 68 = .ok (.ireturn, 1) := by decide +kernel
set_option maxHeartbeats 4000000 in
set_option maxRecDepth 100000 in
theorem vlX7_isWord_28 (C : VC pr s m args meth c E A cX7_isWord 3 (some .boolean) RX7) (hA : va_A w0 s.heap.size = A) (a : Nat → Nat) (x1 : Nat) (p : St) {Post : Int32 → Prop} {KX : Prop} (hX : KX → V pr l e rmX7_isWord s m args below meth c E A 3 0 0 (MQ below (CQi E (fun (z : Int32) (_ : Unit) => Post z) (fun _ => (fl [bReader E a p])) w0 s.heap.size) args s 0 0 A) (fl [bReader E a p]) 63 [] []) : ∀ (n : Nat) (x2 : Int32), wLX7_isWord_28 x1 p Post KX n x2 → V pr l e rmX7_isWord s m args below meth c E A 3 0 0 (MQ below (CQi E (fun (z : Int32) (_ : Unit) => Post z) (fun _ => (fl [bReader E a p])) w0 s.heap.size) args s 0 0 A) (fl [bReader E a p]) 28 [(0, .ref (a 0)), (1, .ref (E.2.2.2.2.1 x1)), (2, .int x2)] [] := by
  intro n
  induction n with
  | zero => intro x2 hw; exact absurd hw id
  | succ n hself =>
    intro x2 hw
    have hw : wlX7_isWord_28 x1 p Post KX (wLX7_isWord_28 x1 p Post KX n) x2 := hw
    refine v_iload_n (pc := 28) C 2 rfl rfl dX7_isWord_28 ?_
    refine v_aload_n (pc := 29) C 1 rfl rfl dX7_isWord_29 ?_
    obtain ⟨hg, hw⟩ := hw
    refine v_slen (pc := 30) C [.int x2] hg wmX7_103 (by decide) (by decide) (Nat.le_of_ble_eq_true rfl) ⟨Nat.zero_le _, Nat.zero_le _⟩ dX7_isWord_30 ?_
    refine v_icmp_ge (pc := 33) C 63 (by decide) dX7_isWord_33 (fun hc => ?_) (fun hc => ?_)
    · have hw := hw.1 hc
      refine v_sub (lv' := []) [] rfl ?_
      exact hX  hw
    · have hw := hw.2 hc
      refine v_aload_n (pc := 36) C 0 rfl rfl dX7_isWord_36 ?_
      refine v_get (pc := 37) C cfX7 rfl 0 0 rfl (by decide) wfX7_9 rfl dX7_isWord_37 ?_
      refine v_aload_n (pc := 40) C 0 rfl rfl dX7_isWord_40 ?_
      refine v_get (pc := 41) C cfX7 rfl 0 4 rfl (by decide) wfX7_25 rfl dX7_isWord_41 ?_
      refine v_iload_n (pc := 44) C 2 rfl rfl dX7_isWord_44 ?_
      refine v_iadd (pc := 45) C dX7_isWord_45 ?_
      obtain ⟨hg, hw⟩ := hw
      refine v_iald (pc := 46) C 1 rfl hg rfl dX7_isWord_46 ?_
      refine v_aload_n (pc := 47) C 1 rfl rfl dX7_isWord_47 ?_
      refine v_iload_n (pc := 48) C 2 rfl rfl dX7_isWord_48 ?_
      obtain ⟨hg, hg2, hw⟩ := hw
      refine v_scharAt (pc := 49) C [.int ((p.A 0) ((p.I 4) + x2).toNatClampNeg)] hg hg2 wmX7_107 (by decide) (by decide) (Nat.le_of_ble_eq_true rfl) ⟨Nat.zero_le _, Nat.zero_le _⟩ dX7_isWord_49 ?_
      refine v_icmp_eq (pc := 52) C 57 (by decide) dX7_isWord_52 (fun hc => ?_) (fun hc => ?_)
      · have hw := hw.1 hc
        obtain ⟨x2_1, ex⟩ : ∃ y : Int32, y = x2 + 1 := ⟨_, rfl⟩
        have hw := hw x2_1 ex
        refine v_iinc (pc := 57) C 2 rfl (by rw [ex, ki_1]) [(2, .int x2_1), (0, .ref (a 0)), (1, .ref (E.2.2.2.2.1 x1))] rfl (by decide) dX7_isWord_57 ?_
        refine v_goto (pc := 60) C 28 (by decide) dX7_isWord_60 ?_
        refine v_sub (lv' := [(0, .ref (a 0)), (1, .ref (E.2.2.2.2.1 x1)), (2, .int x2_1)]) [1, 2, 0] rfl ?_
        exact hself x2_1 hw
      · have hw := hw.2 hc
        refine v_iconst (pc := 55) C 0 ki_0 dX7_isWord_55 ?_
        exact v_iretz (pc := 56) C rfl () hA rfl hw dX7_isWord_56
set_option maxHeartbeats 4000000 in
set_option maxRecDepth 100000 in
theorem ctX7_isWord (l : Launch) (E : VE) (a : Nat → Nat) (x1 : Nat) (p : St)  {Post : Int32 → Prop} (hw : wpX7_isWord x1 p Post) (sz : Nat) : Met l yX7_isWord (mW yX7_isWord cX7_isWord 3 (some .boolean)) rmX7_isWord (CPre E [.ref (a 0), .ref (E.2.2.2.2.1 x1)] sz (fl [bReader E a p])) (CQi E (fun (z : Int32) (_ : Unit) => Post z) (fun _ => (fl [bReader E a p])) (fl [bReader E a p]) sz) 0 0 (va_A (fl [bReader E a p]) sz) := by
  refine v_met (by decide) (Nat.le_of_ble_eq_true rfl) ?_
  intro pr e s m below meth c A hsz hA C
  subst hsz
  refine v_aload_n (pc := 0) C 0 rfl rfl dX7_isWord_0 ?_
  refine v_get (pc := 1) C cfX7 rfl 0 3 rfl (by decide) wfX7_22 rfl dX7_isWord_1 ?_
  refine v_iconst (pc := 4) C 1 ki_1 dX7_isWord_4 ?_
  refine v_icmp_ne (pc := 5) C 24 (by decide) dX7_isWord_5 (fun hc => ?_) (fun hc => ?_)
  · have hw := hw.1 hc
    refine v_iconst (pc := 24) C 0 ki_0 dX7_isWord_24 ?_
    exact v_iretz (pc := 25) C rfl () hA rfl hw dX7_isWord_25
  · have hw := hw.2 hc
    refine v_aload_n (pc := 8) C 0 rfl rfl dX7_isWord_8 ?_
    refine v_get (pc := 9) C cfX7 rfl 0 2 rfl (by decide) wfX7_19 rfl dX7_isWord_9 ?_
    refine v_aload_n (pc := 12) C 0 rfl rfl dX7_isWord_12 ?_
    refine v_get (pc := 13) C cfX7 rfl 0 4 rfl (by decide) wfX7_25 rfl dX7_isWord_13 ?_
    refine v_isub (pc := 16) C dX7_isWord_16 ?_
    refine v_aload_n (pc := 17) C 1 rfl rfl dX7_isWord_17 ?_
    obtain ⟨hg, hw⟩ := hw
    refine v_slen (pc := 18) C [.int ((p.I 2) - (p.I 4))] hg wmX7_103 (by decide) (by decide) (Nat.le_of_ble_eq_true rfl) ⟨Nat.zero_le _, Nat.zero_le _⟩ dX7_isWord_18 ?_
    refine v_icmp_eq (pc := 21) C 26 (by decide) dX7_isWord_21 (fun hc => ?_) (fun hc => ?_)
    · have hw := hw.1 hc
      refine v_iconst (pc := 26) C 0 ki_0 dX7_isWord_26 ?_
      refine v_istore_n (pc := 27) C [(2, .int 0), (0, .ref (a 0)), (1, .ref (E.2.2.2.2.1 x1))] rfl rfl (by decide) dX7_isWord_27 ?_
      obtain ⟨n, hw⟩ := hw
      refine v_sub (lv' := [(0, .ref (a 0)), (1, .ref (E.2.2.2.2.1 x1)), (2, .int 0)]) [1, 2, 0] rfl ?_
      refine vlX7_isWord_28 C hA a x1 p (fun hw => ?_) n 0 hw
      refine v_iconst (pc := 63) C 1 ki_1 dX7_isWord_63 ?_
      exact v_iretz (pc := 64) C rfl () hA rfl hw dX7_isWord_64
    · have hw := hw.2 hc
      refine v_iconst (pc := 24) C 0 ki_0 dX7_isWord_24 ?_
      exact v_iretz (pc := 25) C rfl () hA rfl hw dX7_isWord_25
set_option maxHeartbeats 4000000 in
set_option maxRecDepth 100000 in
theorem ctX7_isNumber (l : Launch) (E : VE) (a : Nat → Nat) (x1 : Int32) (x2 : Int32) (p : St)  {Post : Int32 → Prop} (hw : wpX7_isNumber x1 x2 p Post) (sz : Nat) : Met l yX7_isNumber (mW yX7_isNumber cX7_isNumber 3 (some .boolean)) rmX7_isNumber (CPre E [.ref (a 0), .int x1, .int x2] sz (fl [bReader E a p])) (CQi E (fun (z : Int32) (_ : Unit) => Post z) (fun _ => (fl [bReader E a p])) (fl [bReader E a p]) sz) 0 0 (va_A (fl [bReader E a p]) sz) := by
  refine v_met (by decide) (Nat.le_of_ble_eq_true rfl) ?_
  intro pr e s m below meth c A hsz hA C
  subst hsz
  refine v_aload_n (pc := 0) C 0 rfl rfl dX7_isNumber_0 ?_
  refine v_get (pc := 1) C cfX7 rfl 0 3 rfl (by decide) wfX7_22 rfl dX7_isNumber_1 ?_
  refine v_iconst (pc := 4) C 2 ki_2 dX7_isNumber_4 ?_
  refine v_icmp_ne (pc := 5) C 28 (by decide) dX7_isNumber_5 (fun hc => ?_) (fun hc => ?_)
  · have hw := hw.1 hc
    refine v_iconst (pc := 28) C 0 ki_0 dX7_isNumber_28 ?_
    exact v_iretz (pc := 29) C rfl () hA rfl hw dX7_isNumber_29
  · have hw := hw.2 hc
    refine v_aload_n (pc := 8) C 0 rfl rfl dX7_isNumber_8 ?_
    refine v_get (pc := 9) C cfX7 rfl 0 5 rfl (by decide) wfX7_28 rfl dX7_isNumber_9 ?_
    refine v_iload_n (pc := 12) C 1 rfl rfl dX7_isNumber_12 ?_
    refine v_icmp_lt (pc := 13) C 28 (by decide) dX7_isNumber_13 (fun hc => ?_) (fun hc => ?_)
    · have hw := hw.1 hc
      refine v_iconst (pc := 28) C 0 ki_0 dX7_isNumber_28 ?_
      exact v_iretz (pc := 29) C rfl () hA rfl hw dX7_isNumber_29
    · have hw := hw.2 hc
      refine v_aload_n (pc := 16) C 0 rfl rfl dX7_isNumber_16 ?_
      refine v_get (pc := 17) C cfX7 rfl 0 5 rfl (by decide) wfX7_28 rfl dX7_isNumber_17 ?_
      refine v_iload_n (pc := 20) C 2 rfl rfl dX7_isNumber_20 ?_
      refine v_icmp_gt (pc := 21) C 28 (by decide) dX7_isNumber_21 (fun hc => ?_) (fun hc => ?_)
      · have hw := hw.1 hc
        refine v_iconst (pc := 28) C 0 ki_0 dX7_isNumber_28 ?_
        exact v_iretz (pc := 29) C rfl () hA rfl hw dX7_isNumber_29
      · have hw := hw.2 hc
        refine v_iconst (pc := 24) C 1 ki_1 dX7_isNumber_24 ?_
        refine v_goto (pc := 25) C 29 (by decide) dX7_isNumber_25 ?_
        exact v_iretz (pc := 29) C rfl () hA rfl hw dX7_isNumber_29
set_option maxHeartbeats 4000000 in
set_option maxRecDepth 100000 in
theorem ctX7_passStop (l : Launch) (E : VE) (a : Nat → Nat)  (p : St)  {Post : Int32 → St → Prop} (hw : wpX7_passStop p Post) (sz : Nat) : Met l yX7_passStop (mW yX7_passStop cX7_passStop 1 (some .boolean)) rmX7_passStop (CPre E [.ref (a 0)] sz (fl [bReader E a p])) (CQi E Post (fun u => (fl [bReader E a u])) (fl [bReader E a p]) sz) 0 0 (va_A (fl [bReader E a p]) sz) := by
  refine v_met (by decide) (Nat.le_of_ble_eq_true rfl) ?_
  intro pr e s m below meth c A hsz hA C
  subst hsz
  refine v_aload_n (pc := 0) C 0 rfl rfl dX7_passStop_0 ?_
  refine v_get (pc := 1) C cfX7 rfl 0 3 rfl (by decide) wfX7_22 rfl dX7_passStop_1 ?_
  refine v_iconst (pc := 4) C 3 ki_3 dX7_passStop_4 ?_
  refine v_icmp_eq (pc := 5) C 10 (by decide) dX7_passStop_5 (fun hc => ?_) (fun hc => ?_)
  · have hw := hw.1 hc
    refine v_aload_n (pc := 10) C 0 rfl rfl dX7_passStop_10 ?_
    refine v_goAv (pc := 11) C (wc' := (fun (u : St) => (fl [bReader E a u]))) (fun _ => rfl) (v_runVA (pc := 11) C [] [] (fun sz => ctX7_step l E a p hw sz) mfX7_step mvX7_step wmX7_37 rfl ⟨Nat.le_of_ble_eq_true rfl, Nat.le_of_ble_eq_true rfl⟩ ⟨rfl, rfl⟩ 0 (ci := 7) (qc := (RX7, TX7, 8)) rfl rfl rfl rfl (Nat.le_of_ble_eq_true rfl) ⟨Nat.zero_le _, Nat.zero_le _⟩ dX7_passStop_11) (fun p1 hw => ?_)
    refine v_iconst (pc := 14) C 1 ki_1 dX7_passStop_14 ?_
    exact v_iretz (pc := 15) C rfl p1 hA rfl hw dX7_passStop_15
  · have hw := hw.2 hc
    refine v_iconst (pc := 8) C 0 ki_0 dX7_passStop_8 ?_
    exact v_iretz (pc := 9) C rfl p hA rfl hw dX7_passStop_9
set_option maxHeartbeats 4000000 in
set_option maxRecDepth 100000 in
theorem ctX7_readFirst (l : Launch) (E : VE) (a : Nat → Nat) (b : Nat → Nat)  (p : St) (q : St)  {Post : Int32 → (St × St) → Prop} (hw : wpX7_readFirst p q Post) (sz : Nat) : Met l yX7_readFirst (mW yX7_readFirst cX7_readFirst 2 (some .boolean)) rmX7_readFirst (CPre E [.ref (a 0), .ref (b 0)] sz (fl [bReader E a p, bPad E b q])) (CQi E Post (fun u => (fl [bReader E a u.1, bPad E b u.2])) (fl [bReader E a p, bPad E b q]) sz) 0 0 (va_A (fl [bReader E a p, bPad E b q]) sz) := by
  refine v_met (by decide) (Nat.le_of_ble_eq_true rfl) ?_
  intro pr e s m below meth c A hsz hA C
  subst hsz
  refine v_aload_n (pc := 0) C 0 rfl rfl dX7_readFirst_0 ?_
  refine v_ldcS0 (pc := 1) C dX7_readFirst_1 ?_
  refine v_goBi (pc := 3) C (bs := [bReader E a p, bPad E b q]) (cs := [bReader E a p]) (cs' := (fun (_ : Unit) => [bReader E a p])) (bs' := (fun (_ : Unit) => [bReader E a p, bPad E b q])) (w' := (fun (_ : Unit) => (fl [bReader E a p, bPad E b q]))) [0] rfl rfl (fun _ => rfl) (fun _ => rfl) (fun _ => rfl) (v_runVB (pc := 3) C [.ref (E.2.2.2.2.1 0)] [] (fun sz => ctX7_isWord l E a 0 p hw sz) [0] rfl rfl rfl mfX7_isWord mvX7_isWord wmX7_50 rfl ⟨Nat.le_of_ble_eq_true rfl, Nat.le_of_ble_eq_true rfl⟩ ⟨rfl, rfl⟩ 0 (ci := 7) (qc := (RX7, TX7, 8)) rfl rfl rfl rfl (Nat.le_of_ble_eq_true rfl) ⟨Nat.zero_le _, Nat.zero_le _⟩ dX7_readFirst_3) (fun r1 _ hw => ?_)
  refine v_if_ne (pc := 6) C 11 (by decide) dX7_readFirst_6 (fun hc => ?_) (fun hc => ?_)
  · have hw := hw.1 hc
    refine v_aload_n (pc := 11) C 0 rfl rfl dX7_readFirst_11 ?_
    refine v_goBv (pc := 12) C (bs := [bReader E a p, bPad E b q]) (cs := [bReader E a p]) (cs' := (fun (u : St) => [bReader E a u])) (bs' := (fun (u : St) => [bReader E a u, bPad E b q])) (w' := (fun (u : St) => (fl [bReader E a u, bPad E b q]))) [0] rfl rfl (fun _ => rfl) (fun _ => rfl) (fun _ => rfl) (v_runVB (pc := 12) C [] [] (fun sz => ctX7_step l E a p hw sz) [0] rfl rfl rfl mfX7_step mvX7_step wmX7_37 rfl ⟨Nat.le_of_ble_eq_true rfl, Nat.le_of_ble_eq_true rfl⟩ ⟨rfl, rfl⟩ 0 (ci := 7) (qc := (RX7, TX7, 8)) rfl rfl rfl rfl (Nat.le_of_ble_eq_true rfl) ⟨Nat.zero_le _, Nat.zero_le _⟩ dX7_readFirst_12) (fun p2 hw => ?_)
    refine v_aload_n (pc := 15) C 0 rfl rfl dX7_readFirst_15 ?_
    refine v_iconst (pc := 16) C 1 ki_1 dX7_readFirst_16 ?_
    refine v_bipush (pc := 17) C 6 kb_6 dX7_readFirst_17 ?_
    refine v_goBi (pc := 19) C (bs := [bReader E a p2, bPad E b q]) (cs := [bReader E a p2]) (cs' := (fun (_ : Unit) => [bReader E a p2])) (bs' := (fun (_ : Unit) => [bReader E a p2, bPad E b q])) (w' := (fun (_ : Unit) => (fl [bReader E a p2, bPad E b q]))) [0] rfl rfl (fun _ => rfl) (fun _ => rfl) (fun _ => rfl) (v_runVB (pc := 19) C [.int 1, .int 6] [] (fun sz => ctX7_isNumber l E a 1 6 p2 hw sz) [0] rfl rfl rfl mfX7_isNumber mvX7_isNumber wmX7_54 rfl ⟨Nat.le_of_ble_eq_true rfl, Nat.le_of_ble_eq_true rfl⟩ ⟨rfl, rfl⟩ 0 (ci := 7) (qc := (RX7, TX7, 8)) rfl rfl rfl rfl (Nat.le_of_ble_eq_true rfl) ⟨Nat.zero_le _, Nat.zero_le _⟩ dX7_readFirst_19) (fun r3 _ hw => ?_)
    refine v_if_ne (pc := 22) C 27 (by decide) dX7_readFirst_22 (fun hc => ?_) (fun hc => ?_)
    · have hw := hw.1 hc
      refine v_aload_n (pc := 27) C 1 rfl rfl dX7_readFirst_27 ?_
      refine v_aload_n (pc := 28) C 0 rfl rfl dX7_readFirst_28 ?_
      refine v_get (pc := 29) C cfX7 rfl 0 5 rfl (by decide) wfX7_28 rfl dX7_readFirst_29 ?_
      refine v_goBv (pc := 32) C (bs := [bReader E a p2, bPad E b q]) (cs := [bPad E b q]) (cs' := (fun (u : St) => [bPad E b u])) (bs' := (fun (u : St) => [bReader E a p2, bPad E b u])) (w' := (fun (u : St) => (fl [bReader E a p2, bPad E b u]))) [1] rfl rfl (fun _ => rfl) (fun _ => rfl) (fun _ => rfl) (v_runVB (pc := 32) C [.int (p2.I 5)] [] (fun sz => ctX4_beginAnew l E b (p2.I 5) q hw sz) [1] rfl rfl rfl mfX4_beginAnew mvX4_beginAnew wmX7_58 rfl ⟨Nat.le_of_ble_eq_true rfl, Nat.le_of_ble_eq_true rfl⟩ ⟨rfl, rfl⟩ 2 (ci := 4) (qc := (RX4, TX4, 12)) rfl rfl rfl rfl (Nat.le_of_ble_eq_true rfl) ⟨Nat.zero_le _, Nat.zero_le _⟩ dX7_readFirst_32) (fun p4 hw => ?_)
      refine v_aload_n (pc := 35) C 0 rfl rfl dX7_readFirst_35 ?_
      refine v_goBv (pc := 36) C (bs := [bReader E a p2, bPad E b p4]) (cs := [bReader E a p2]) (cs' := (fun (u : St) => [bReader E a u])) (bs' := (fun (u : St) => [bReader E a u, bPad E b p4])) (w' := (fun (u : St) => (fl [bReader E a u, bPad E b p4]))) [0] rfl rfl (fun _ => rfl) (fun _ => rfl) (fun _ => rfl) (v_runVB (pc := 36) C [] [] (fun sz => ctX7_step l E a p2 hw sz) [0] rfl rfl rfl mfX7_step mvX7_step wmX7_37 rfl ⟨Nat.le_of_ble_eq_true rfl, Nat.le_of_ble_eq_true rfl⟩ ⟨rfl, rfl⟩ 0 (ci := 7) (qc := (RX7, TX7, 8)) rfl rfl rfl rfl (Nat.le_of_ble_eq_true rfl) ⟨Nat.zero_le _, Nat.zero_le _⟩ dX7_readFirst_36) (fun p5 hw => ?_)
      refine v_aload_n (pc := 39) C 0 rfl rfl dX7_readFirst_39 ?_
      refine v_goBi (pc := 40) C (bs := [bReader E a p5, bPad E b p4]) (cs := [bReader E a p5]) (cs' := (fun (u : St) => [bReader E a u])) (bs' := (fun (u : St) => [bReader E a u, bPad E b p4])) (w' := (fun (u : St) => (fl [bReader E a u, bPad E b p4]))) [0] rfl rfl (fun _ => rfl) (fun _ => rfl) (fun _ => rfl) (v_runVB (pc := 40) C [] [] (fun sz => ctX7_passStop l E a p5 hw sz) [0] rfl rfl rfl mfX7_passStop mvX7_passStop wmX7_64 rfl ⟨Nat.le_of_ble_eq_true rfl, Nat.le_of_ble_eq_true rfl⟩ ⟨rfl, rfl⟩ 0 (ci := 7) (qc := (RX7, TX7, 8)) rfl rfl rfl rfl (Nat.le_of_ble_eq_true rfl) ⟨Nat.zero_le _, Nat.zero_le _⟩ dX7_readFirst_40) (fun r6 p7 hw => ?_)
      exact v_iretz (pc := 43) C hw.1 (p7, p4) hA rfl hw.2 dX7_readFirst_43
    · have hw := hw.2 hc
      refine v_iconst (pc := 25) C 0 ki_0 dX7_readFirst_25 ?_
      exact v_iretz (pc := 26) C rfl (p2, q) hA rfl hw dX7_readFirst_26
  · have hw := hw.2 hc
    refine v_iconst (pc := 9) C 0 ki_0 dX7_readFirst_9 ?_
    exact v_iretz (pc := 10) C rfl (p, q) hA rfl hw dX7_readFirst_10
set_option maxHeartbeats 4000000 in
set_option maxRecDepth 100000 in
theorem ctX7_readCarbon (l : Launch) (E : VE) (a : Nat → Nat) (b : Nat → Nat)  (p : St) (q : St)  {Post : Int32 → (St × St) → Prop} (hw : wpX7_readCarbon p q Post) (sz : Nat) : Met l yX7_readCarbon (mW yX7_readCarbon cX7_readCarbon 2 (some .boolean)) rmX7_readCarbon (CPre E [.ref (a 0), .ref (b 0)] sz (fl [bReader E a p, bPad E b q])) (CQi E Post (fun u => (fl [bReader E a u.1, bPad E b u.2])) (fl [bReader E a p, bPad E b q]) sz) 0 0 (va_A (fl [bReader E a p, bPad E b q]) sz) := by
  refine v_met (by decide) (Nat.le_of_ble_eq_true rfl) ?_
  intro pr e s m below meth c A hsz hA C
  subst hsz
  refine v_aload_n (pc := 0) C 0 rfl rfl dX7_readCarbon_0 ?_
  refine v_goBv (pc := 1) C (bs := [bReader E a p, bPad E b q]) (cs := [bReader E a p]) (cs' := (fun (u : St) => [bReader E a u])) (bs' := (fun (u : St) => [bReader E a u, bPad E b q])) (w' := (fun (u : St) => (fl [bReader E a u, bPad E b q]))) [0] rfl rfl (fun _ => rfl) (fun _ => rfl) (fun _ => rfl) (v_runVB (pc := 1) C [] [] (fun sz => ctX7_step l E a p hw sz) [0] rfl rfl rfl mfX7_step mvX7_step wmX7_37 rfl ⟨Nat.le_of_ble_eq_true rfl, Nat.le_of_ble_eq_true rfl⟩ ⟨rfl, rfl⟩ 0 (ci := 7) (qc := (RX7, TX7, 8)) rfl rfl rfl rfl (Nat.le_of_ble_eq_true rfl) ⟨Nat.zero_le _, Nat.zero_le _⟩ dX7_readCarbon_1) (fun p1 hw => ?_)
  refine v_aload_n (pc := 4) C 0 rfl rfl dX7_readCarbon_4 ?_
  refine v_iconst (pc := 5) C 0 ki_0 dX7_readCarbon_5 ?_
  refine v_aload_n (pc := 6) C 1 rfl rfl dX7_readCarbon_6 ?_
  refine v_getN (pc := 7) C cfX4 rfl 2 3 rfl (by decide) wfX7_97 rfl dX7_readCarbon_7 ?_
  refine v_iconst (pc := 10) C 1 ki_1 dX7_readCarbon_10 ?_
  refine v_isub (pc := 11) C dX7_readCarbon_11 ?_
  refine v_goBi (pc := 12) C (bs := [bReader E a p1, bPad E b q]) (cs := [bReader E a p1]) (cs' := (fun (_ : Unit) => [bReader E a p1])) (bs' := (fun (_ : Unit) => [bReader E a p1, bPad E b q])) (w' := (fun (_ : Unit) => (fl [bReader E a p1, bPad E b q]))) [0] rfl rfl (fun _ => rfl) (fun _ => rfl) (fun _ => rfl) (v_runVB (pc := 12) C [.int 0, .int ((q.I 3) - 1)] [] (fun sz => ctX7_isNumber l E a 0 ((q.I 3) - 1) p1 hw sz) [0] rfl rfl rfl mfX7_isNumber mvX7_isNumber wmX7_54 rfl ⟨Nat.le_of_ble_eq_true rfl, Nat.le_of_ble_eq_true rfl⟩ ⟨rfl, rfl⟩ 0 (ci := 7) (qc := (RX7, TX7, 8)) rfl rfl rfl rfl (Nat.le_of_ble_eq_true rfl) ⟨Nat.zero_le _, Nat.zero_le _⟩ dX7_readCarbon_12) (fun r2 _ hw => ?_)
  refine v_if_ne (pc := 15) C 20 (by decide) dX7_readCarbon_15 (fun hc => ?_) (fun hc => ?_)
  · have hw := hw.1 hc
    refine v_aload_n (pc := 20) C 1 rfl rfl dX7_readCarbon_20 ?_
    refine v_dup (pc := 21) C rfl dX7_readCarbon_21 ?_
    refine v_getN (pc := 22) C cfX4 rfl 2 4 rfl (by decide) wfX7_100 rfl dX7_readCarbon_22 ?_
    refine v_iconst (pc := 25) C 1 ki_1 dX7_readCarbon_25 ?_
    refine v_aload_n (pc := 26) C 0 rfl rfl dX7_readCarbon_26 ?_
    refine v_get (pc := 27) C cfX7 rfl 0 5 rfl (by decide) wfX7_28 rfl dX7_readCarbon_27 ?_
    refine v_ishl (pc := 30) C dX7_readCarbon_30 ?_
    refine v_ior (pc := 31) C dX7_readCarbon_31 ?_
    obtain ⟨p3, es⟩ : ∃ y : St, y = q.sI 4 ((q.I 4) ||| ((1 : Int32) <<< ((p1.I 5) &&& 31))) := ⟨_, rfl⟩
    have hw := hw p3 es
    refine v_putN (pc := 32) C cfX4 rfl 2 4 (ty := .int) (w' := (fl [bReader E a p1, bPad E b p3])) rfl (by subst es; rfl) (by decide) wfX7_100 rfl rfl rfl rfl (Nat.le_of_ble_eq_true rfl) dX7_readCarbon_32 ?_
    refine v_aload_n (pc := 35) C 0 rfl rfl dX7_readCarbon_35 ?_
    refine v_goBv (pc := 36) C (bs := [bReader E a p1, bPad E b p3]) (cs := [bReader E a p1]) (cs' := (fun (u : St) => [bReader E a u])) (bs' := (fun (u : St) => [bReader E a u, bPad E b p3])) (w' := (fun (u : St) => (fl [bReader E a u, bPad E b p3]))) [0] rfl rfl (fun _ => rfl) (fun _ => rfl) (fun _ => rfl) (v_runVB (pc := 36) C [] [] (fun sz => ctX7_step l E a p1 hw sz) [0] rfl rfl rfl mfX7_step mvX7_step wmX7_37 rfl ⟨Nat.le_of_ble_eq_true rfl, Nat.le_of_ble_eq_true rfl⟩ ⟨rfl, rfl⟩ 0 (ci := 7) (qc := (RX7, TX7, 8)) rfl rfl rfl rfl (Nat.le_of_ble_eq_true rfl) ⟨Nat.zero_le _, Nat.zero_le _⟩ dX7_readCarbon_36) (fun p4 hw => ?_)
    refine v_aload_n (pc := 39) C 0 rfl rfl dX7_readCarbon_39 ?_
    refine v_goBi (pc := 40) C (bs := [bReader E a p4, bPad E b p3]) (cs := [bReader E a p4]) (cs' := (fun (u : St) => [bReader E a u])) (bs' := (fun (u : St) => [bReader E a u, bPad E b p3])) (w' := (fun (u : St) => (fl [bReader E a u, bPad E b p3]))) [0] rfl rfl (fun _ => rfl) (fun _ => rfl) (fun _ => rfl) (v_runVB (pc := 40) C [] [] (fun sz => ctX7_passStop l E a p4 hw sz) [0] rfl rfl rfl mfX7_passStop mvX7_passStop wmX7_64 rfl ⟨Nat.le_of_ble_eq_true rfl, Nat.le_of_ble_eq_true rfl⟩ ⟨rfl, rfl⟩ 0 (ci := 7) (qc := (RX7, TX7, 8)) rfl rfl rfl rfl (Nat.le_of_ble_eq_true rfl) ⟨Nat.zero_le _, Nat.zero_le _⟩ dX7_readCarbon_40) (fun r5 p6 hw => ?_)
    exact v_iretz (pc := 43) C hw.1 (p6, p3) hA rfl hw.2 dX7_readCarbon_43
  · have hw := hw.2 hc
    refine v_iconst (pc := 18) C 0 ki_0 dX7_readCarbon_18 ?_
    exact v_iretz (pc := 19) C rfl (p1, q) hA rfl hw dX7_readCarbon_19
set_option maxHeartbeats 4000000 in
set_option maxRecDepth 100000 in
theorem ctX7_readPen (l : Launch) (E : VE) (a : Nat → Nat)  (p : St)  {Post : Int32 → St → Prop} (hw : wpX7_readPen p Post) (sz : Nat) : Met l yX7_readPen (mW yX7_readPen cX7_readPen 1 (some .boolean)) rmX7_readPen (CPre E [.ref (a 0)] sz (fl [bReader E a p])) (CQi E Post (fun u => (fl [bReader E a u])) (fl [bReader E a p]) sz) 0 0 (va_A (fl [bReader E a p]) sz) := by
  refine v_met (by decide) (Nat.le_of_ble_eq_true rfl) ?_
  intro pr e s m below meth c A hsz hA C
  subst hsz
  refine v_aload_n (pc := 0) C 0 rfl rfl dX7_readPen_0 ?_
  refine v_iconst (pc := 1) C 0 ki_0 dX7_readPen_1 ?_
  refine v_iconst (pc := 2) C 5 ki_5 dX7_readPen_2 ?_
  refine v_goAi (pc := 3) C (wc' := (fun (_ : Unit) => (fl [bReader E a p]))) (fun _ => rfl) (v_runVA (pc := 3) C [.int 0, .int 5] [] (fun sz => ctX7_isNumber l E a 0 5 p hw sz) mfX7_isNumber mvX7_isNumber wmX7_54 rfl ⟨Nat.le_of_ble_eq_true rfl, Nat.le_of_ble_eq_true rfl⟩ ⟨rfl, rfl⟩ 0 (ci := 7) (qc := (RX7, TX7, 8)) rfl rfl rfl rfl (Nat.le_of_ble_eq_true rfl) ⟨Nat.zero_le _, Nat.zero_le _⟩ dX7_readPen_3) (fun r1 _ hw => ?_)
  refine v_if_ne (pc := 6) C 11 (by decide) dX7_readPen_6 (fun hc => ?_) (fun hc => ?_)
  · have hw := hw.1 hc
    refine v_aload_n (pc := 11) C 0 rfl rfl dX7_readPen_11 ?_
    refine v_aload_n (pc := 12) C 0 rfl rfl dX7_readPen_12 ?_
    refine v_get (pc := 13) C cfX7 rfl 0 5 rfl (by decide) wfX7_28 rfl dX7_readPen_13 ?_
    obtain ⟨p2, es⟩ : ∃ y : St, y = p.sI 6 (p.I 5) := ⟨_, rfl⟩
    have hw := hw p2 es
    refine v_put (pc := 16) C cfX7 rfl 0 6 (ty := .int) (w' := (fl [bReader E a p2])) rfl (by subst es; rfl) (by decide) wfX7_31 rfl rfl rfl rfl (Nat.le_of_ble_eq_true rfl) dX7_readPen_16 ?_
    refine v_aload_n (pc := 19) C 0 rfl rfl dX7_readPen_19 ?_
    refine v_goAv (pc := 20) C (wc' := (fun (u : St) => (fl [bReader E a u]))) (fun _ => rfl) (v_runVA (pc := 20) C [] [] (fun sz => ctX7_step l E a p2 hw sz) mfX7_step mvX7_step wmX7_37 rfl ⟨Nat.le_of_ble_eq_true rfl, Nat.le_of_ble_eq_true rfl⟩ ⟨rfl, rfl⟩ 0 (ci := 7) (qc := (RX7, TX7, 8)) rfl rfl rfl rfl (Nat.le_of_ble_eq_true rfl) ⟨Nat.zero_le _, Nat.zero_le _⟩ dX7_readPen_20) (fun p3 hw => ?_)
    refine v_aload_n (pc := 23) C 0 rfl rfl dX7_readPen_23 ?_
    refine v_iconst (pc := 24) C 1 ki_1 dX7_readPen_24 ?_
    refine v_bipush (pc := 25) C 9 kb_9 dX7_readPen_25 ?_
    refine v_goAi (pc := 27) C (wc' := (fun (_ : Unit) => (fl [bReader E a p3]))) (fun _ => rfl) (v_runVA (pc := 27) C [.int 1, .int 9] [] (fun sz => ctX7_isNumber l E a 1 9 p3 hw sz) mfX7_isNumber mvX7_isNumber wmX7_54 rfl ⟨Nat.le_of_ble_eq_true rfl, Nat.le_of_ble_eq_true rfl⟩ ⟨rfl, rfl⟩ 0 (ci := 7) (qc := (RX7, TX7, 8)) rfl rfl rfl rfl (Nat.le_of_ble_eq_true rfl) ⟨Nat.zero_le _, Nat.zero_le _⟩ dX7_readPen_27) (fun r4 _ hw => ?_)
    refine v_if_ne (pc := 30) C 35 (by decide) dX7_readPen_30 (fun hc => ?_) (fun hc => ?_)
    · have hw := hw.1 hc
      refine v_aload_n (pc := 35) C 0 rfl rfl dX7_readPen_35 ?_
      refine v_aload_n (pc := 36) C 0 rfl rfl dX7_readPen_36 ?_
      refine v_get (pc := 37) C cfX7 rfl 0 5 rfl (by decide) wfX7_28 rfl dX7_readPen_37 ?_
      obtain ⟨p5, es⟩ : ∃ y : St, y = p3.sI 7 (p3.I 5) := ⟨_, rfl⟩
      have hw := hw p5 es
      refine v_put (pc := 40) C cfX7 rfl 0 7 (ty := .int) (w' := (fl [bReader E a p5])) rfl (by subst es; rfl) (by decide) wfX7_34 rfl rfl rfl rfl (Nat.le_of_ble_eq_true rfl) dX7_readPen_40 ?_
      refine v_aload_n (pc := 43) C 0 rfl rfl dX7_readPen_43 ?_
      refine v_goAv (pc := 44) C (wc' := (fun (u : St) => (fl [bReader E a u]))) (fun _ => rfl) (v_runVA (pc := 44) C [] [] (fun sz => ctX7_step l E a p5 hw sz) mfX7_step mvX7_step wmX7_37 rfl ⟨Nat.le_of_ble_eq_true rfl, Nat.le_of_ble_eq_true rfl⟩ ⟨rfl, rfl⟩ 0 (ci := 7) (qc := (RX7, TX7, 8)) rfl rfl rfl rfl (Nat.le_of_ble_eq_true rfl) ⟨Nat.zero_le _, Nat.zero_le _⟩ dX7_readPen_44) (fun p6 hw => ?_)
      refine v_iconst (pc := 47) C 1 ki_1 dX7_readPen_47 ?_
      exact v_iretz (pc := 48) C rfl p6 hA rfl hw dX7_readPen_48
    · have hw := hw.2 hc
      refine v_iconst (pc := 33) C 0 ki_0 dX7_readPen_33 ?_
      exact v_iretz (pc := 34) C rfl p3 hA rfl hw dX7_readPen_34
  · have hw := hw.2 hc
    refine v_iconst (pc := 9) C 0 ki_0 dX7_readPen_9 ?_
    exact v_iretz (pc := 10) C rfl p hA rfl hw dX7_readPen_10
set_option maxHeartbeats 4000000 in
set_option maxRecDepth 100000 in
theorem vlX7_readCells_6 (C : VC pr s m args meth c E A cX7_readCells 4 (some .int) RX7) (hA : va_A w0 s.heap.size = A) (a : Nat → Nat)  {Post : Int32 → St → Prop} {KX : Int32 → St → Prop} (hX : ∀ (x1 : Int32) (p : St), KX x1 p → V pr l e rmX7_readCells s m args below meth c E A 4 0 0 (MQ below (CQi E Post (fun u => (fl [bReader E a u])) w0 s.heap.size) args s 0 0 A) (fl [bReader E a p]) 48 [(1, .int x1)] []) : ∀ (n : Nat) (x1 : Int32) (x2 : Int32) (x3 : Int32) (p : St), wLX7_readCells_6  Post KX n (x1, x2, x3, p) → V pr l e rmX7_readCells s m args below meth c E A 4 0 0 (MQ below (CQi E Post (fun u => (fl [bReader E a u])) w0 s.heap.size) args s 0 0 A) (fl [bReader E a p]) 6 [(0, .ref (a 0)), (1, .int x1), (2, .int x2), (3, .int x3)] [] := by
  intro n
  induction n with
  | zero => intro x1 x2 x3 p hw; exact absurd hw id
  | succ n hself =>
    intro x1 x2 x3 p hw
    have hw : wlX7_readCells_6  Post KX (wLX7_readCells_6  Post KX n) x1 x2 x3 p := hw
    refine v_iload_n (pc := 6) C 3 rfl rfl dX7_readCells_6 ?_
    refine v_bipush (pc := 7) C 12 kb_12 dX7_readCells_7 ?_
    refine v_icmp_ge (pc := 9) C 48 (by decide) dX7_readCells_9 (fun hc => ?_) (fun hc => ?_)
    · have hw := hw.1 hc
      refine v_sub (lv' := [(1, .int x1)]) [1] rfl ?_
      exact hX x1 p hw
    · have hw := hw.2 hc
      refine v_aload_n (pc := 12) C 0 rfl rfl dX7_readCells_12 ?_
      refine v_iload_n (pc := 13) C 2 rfl rfl dX7_readCells_13 ?_
      refine v_bipush (pc := 14) C 11 kb_11 dX7_readCells_14 ?_
      refine v_goAi (pc := 16) C (wc' := (fun (_ : Unit) => (fl [bReader E a p]))) (fun _ => rfl) (v_runVA (pc := 16) C [.int x2, .int 11] [] (fun sz => ctX7_isNumber l E a x2 11 p hw sz) mfX7_isNumber mvX7_isNumber wmX7_54 rfl ⟨Nat.le_of_ble_eq_true rfl, Nat.le_of_ble_eq_true rfl⟩ ⟨rfl, rfl⟩ 0 (ci := 7) (qc := (RX7, TX7, 8)) rfl rfl rfl rfl (Nat.le_of_ble_eq_true rfl) ⟨Nat.zero_le _, Nat.zero_le _⟩ dX7_readCells_16) (fun r1 _ hw => ?_)
      refine v_if_eq (pc := 19) C 48 (by decide) dX7_readCells_19 (fun hc => ?_) (fun hc => ?_)
      · have hw := hw.1 hc
        refine v_sub (lv' := [(1, .int x1)]) [1] rfl ?_
        exact hX x1 p hw
      · have hw := hw.2 hc
        refine v_iload_n (pc := 22) C 1 rfl rfl dX7_readCells_22 ?_
        refine v_iconst (pc := 23) C 1 ki_1 dX7_readCells_23 ?_
        refine v_aload_n (pc := 24) C 0 rfl rfl dX7_readCells_24 ?_
        refine v_get (pc := 25) C cfX7 rfl 0 5 rfl (by decide) wfX7_28 rfl dX7_readCells_25 ?_
        refine v_ishl (pc := 28) C dX7_readCells_28 ?_
        refine v_ior (pc := 29) C dX7_readCells_29 ?_
        refine v_topi (fun x1_2 ex => ?_)
        have hw := hw x1_2 ex
        refine v_istore_n (pc := 30) C [(1, .int x1_2), (0, .ref (a 0)), (2, .int x2), (3, .int x3)] rfl rfl (by decide) dX7_readCells_30 ?_
        refine v_aload_n (pc := 31) C 1 rfl rfl dX7_readCells_31 ?_
        refine v_get (pc := 32) C cfX7 rfl 0 5 rfl (by decide) wfX7_28 rfl dX7_readCells_32 ?_
        refine v_iconst (pc := 35) C 1 ki_1 dX7_readCells_35 ?_
        refine v_iadd (pc := 36) C dX7_readCells_36 ?_
        refine v_topi (fun x2_3 ex => ?_)
        have hw := hw x2_3 ex
        refine v_istore_n (pc := 37) C [(2, .int x2_3), (1, .int x1_2), (0, .ref (a 0)), (3, .int x3)] rfl rfl (by decide) dX7_readCells_37 ?_
        refine v_aload_n (pc := 38) C 2 rfl rfl dX7_readCells_38 ?_
        refine v_goAv (pc := 39) C (wc' := (fun (u : St) => (fl [bReader E a u]))) (fun _ => rfl) (v_runVA (pc := 39) C [] [] (fun sz => ctX7_step l E a p hw sz) mfX7_step mvX7_step wmX7_37 rfl ⟨Nat.le_of_ble_eq_true rfl, Nat.le_of_ble_eq_true rfl⟩ ⟨rfl, rfl⟩ 0 (ci := 7) (qc := (RX7, TX7, 8)) rfl rfl rfl rfl (Nat.le_of_ble_eq_true rfl) ⟨Nat.zero_le _, Nat.zero_le _⟩ dX7_readCells_39) (fun p4 hw => ?_)
        obtain ⟨x3_5, ex⟩ : ∃ y : Int32, y = x3 + 1 := ⟨_, rfl⟩
        have hw := hw x3_5 ex
        refine v_iinc (pc := 42) C 3 rfl (by rw [ex, ki_1]) [(3, .int x3_5), (2, .int x2_3), (1, .int x1_2), (0, .ref (a 0))] rfl (by decide) dX7_readCells_42 ?_
        refine v_goto (pc := 45) C 6 (by decide) dX7_readCells_45 ?_
        refine v_sub (lv' := [(0, .ref (a 0)), (1, .int x1_2), (2, .int x2_3), (3, .int x3_5)]) [3, 2, 1, 0] rfl ?_
        exact hself x1_2 x2_3 x3_5 p4 hw
set_option maxHeartbeats 4000000 in
set_option maxRecDepth 100000 in
theorem ctX7_readCells (l : Launch) (E : VE) (a : Nat → Nat)  (p : St)  {Post : Int32 → St → Prop} (hw : wpX7_readCells p Post) (sz : Nat) : Met l yX7_readCells (mW yX7_readCells cX7_readCells 4 (some .int)) rmX7_readCells (CPre E [.ref (a 0)] sz (fl [bReader E a p])) (CQi E Post (fun u => (fl [bReader E a u])) (fl [bReader E a p]) sz) 0 0 (va_A (fl [bReader E a p]) sz) := by
  refine v_met (by decide) (Nat.le_of_ble_eq_true rfl) ?_
  intro pr e s m below meth c A hsz hA C
  subst hsz
  refine v_iconst (pc := 0) C 0 ki_0 dX7_readCells_0 ?_
  refine v_istore_n (pc := 1) C [(1, .int 0), (0, .ref (a 0))] rfl rfl (by decide) dX7_readCells_1 ?_
  refine v_iconst (pc := 2) C 0 ki_0 dX7_readCells_2 ?_
  refine v_istore_n (pc := 3) C [(2, .int 0), (1, .int 0), (0, .ref (a 0))] rfl rfl (by decide) dX7_readCells_3 ?_
  refine v_iconst (pc := 4) C 0 ki_0 dX7_readCells_4 ?_
  refine v_istore_n (pc := 5) C [(3, .int 0), (2, .int 0), (1, .int 0), (0, .ref (a 0))] rfl rfl (by decide) dX7_readCells_5 ?_
  obtain ⟨n, hw⟩ := hw
  refine v_sub (lv' := [(0, .ref (a 0)), (1, .int 0), (2, .int 0), (3, .int 0)]) [3, 2, 1, 0] rfl ?_
  refine vlX7_readCells_6 C hA a  (fun y6 p7 hw => ?_) n 0 0 0 p hw
  refine v_iload_n (pc := 48) C 0 rfl rfl dX7_readCells_48 ?_
  exact v_ireti (pc := 49) C p7 hA rfl hw dX7_readCells_49
set_option maxHeartbeats 4000000 in
set_option maxRecDepth 100000 in
theorem vjX7_readItem_115 (C : VC pr s m args meth c E A cX7_readItem 6 (some .boolean) RX7) (hA : va_A w0 s.heap.size = A) (a : Nat → Nat) (b : Nat → Nat) (d : Nat → Nat)  {Post : Int32 → (St × St) → Prop} (p : St) (q : St) (hw : wjX7_readItem_115  Post p q) : V pr l e rmX7_readItem s m args below meth c E A 6 0 0 (MQ below (CQi E Post (fun u => (fl [bReader E a u.1, bPad E b u.2, bBox E d])) w0 s.heap.size) args s 0 0 A) (fl [bReader E a p, bPad E b q, bBox E d]) 115 [(0, .ref (a 0))] [] := by
  refine v_aload_n (pc := 115) C 0 rfl rfl dX7_readItem_115 ?_
  refine v_goBi (pc := 116) C (bs := [bReader E a p, bPad E b q, bBox E d]) (cs := [bReader E a p]) (cs' := (fun (u : St) => [bReader E a u])) (bs' := (fun (u : St) => [bReader E a u, bPad E b q, bBox E d])) (w' := (fun (u : St) => (fl [bReader E a u, bPad E b q, bBox E d]))) [0] rfl rfl (fun _ => rfl) (fun _ => rfl) (fun _ => rfl) (v_runVB (pc := 116) C [] [] (fun sz => ctX7_passStop l E a p hw sz) [0] rfl rfl rfl mfX7_passStop mvX7_passStop wmX7_64 rfl ⟨Nat.le_of_ble_eq_true rfl, Nat.le_of_ble_eq_true rfl⟩ ⟨rfl, rfl⟩ 0 (ci := 7) (qc := (RX7, TX7, 8)) rfl rfl rfl rfl (Nat.le_of_ble_eq_true rfl) ⟨Nat.zero_le _, Nat.zero_le _⟩ dX7_readItem_116) (fun r12 p13 hw => ?_)
  exact v_iretz (pc := 119) C hw.1 (p13, q) hA rfl hw.2 dX7_readItem_119
set_option maxHeartbeats 4000000 in
set_option maxRecDepth 100000 in
theorem vjX7_readItem_56 (C : VC pr s m args meth c E A cX7_readItem 6 (some .boolean) RX7) (hA : va_A w0 s.heap.size = A) (a : Nat → Nat) (b : Nat → Nat) (d : Nat → Nat)  {Post : Int32 → (St × St) → Prop} (x3 : Int32) (p : St) (q : St) (hw : wjX7_readItem_56  Post x3 p q) : V pr l e rmX7_readItem s m args below meth c E A 6 0 0 (MQ below (CQi E Post (fun u => (fl [bReader E a u.1, bPad E b u.2, bBox E d])) w0 s.heap.size) args s 0 0 A) (fl [bReader E a p, bPad E b q, bBox E d]) 56 [(0, .ref (a 0)), (1, .ref (b 0)), (2, .ref (d 0)), (3, .int x3)] [] := by
  refine v_aload_n (pc := 56) C 1 rfl rfl dX7_readItem_56 ?_
  refine v_goBi (pc := 57) C (bs := [bReader E a p, bPad E b q, bBox E d]) (cs := [bPad E b q]) (cs' := (fun (_ : Unit) => [bPad E b q])) (bs' := (fun (_ : Unit) => [bReader E a p, bPad E b q, bBox E d])) (w' := (fun (_ : Unit) => (fl [bReader E a p, bPad E b q, bBox E d]))) [1] rfl rfl (fun _ => rfl) (fun _ => rfl) (fun _ => rfl) (v_runVB (pc := 57) C [] [] (fun sz => ctX4_isUsedUp l E b q hw sz) [1] rfl rfl rfl mfX4_isUsedUp mvX4_isUsedUp wmX7_81 rfl ⟨Nat.le_of_ble_eq_true rfl, Nat.le_of_ble_eq_true rfl⟩ ⟨rfl, rfl⟩ 2 (ci := 4) (qc := (RX4, TX4, 12)) rfl rfl rfl rfl (Nat.le_of_ble_eq_true rfl) ⟨Nat.zero_le _, Nat.zero_le _⟩ dX7_readItem_57) (fun r4 _ hw => ?_)
  refine v_if_eq (pc := 60) C 65 (by decide) dX7_readItem_60 (fun hc => ?_) (fun hc => ?_)
  · have hw := hw.1 hc
    refine v_aload_n (pc := 65) C 0 rfl rfl dX7_readItem_65 ?_
    refine v_goBv (pc := 66) C (bs := [bReader E a p, bPad E b q, bBox E d]) (cs := [bReader E a p]) (cs' := (fun (u : St) => [bReader E a u])) (bs' := (fun (u : St) => [bReader E a u, bPad E b q, bBox E d])) (w' := (fun (u : St) => (fl [bReader E a u, bPad E b q, bBox E d]))) [0] rfl rfl (fun _ => rfl) (fun _ => rfl) (fun _ => rfl) (v_runVB (pc := 66) C [] [] (fun sz => ctX7_step l E a p hw sz) [0] rfl rfl rfl mfX7_step mvX7_step wmX7_37 rfl ⟨Nat.le_of_ble_eq_true rfl, Nat.le_of_ble_eq_true rfl⟩ ⟨rfl, rfl⟩ 0 (ci := 7) (qc := (RX7, TX7, 8)) rfl rfl rfl rfl (Nat.le_of_ble_eq_true rfl) ⟨Nat.zero_le _, Nat.zero_le _⟩ dX7_readItem_66) (fun p5 hw => ?_)
    refine v_iload_n (pc := 69) C 3 rfl rfl dX7_readItem_69 ?_
    refine v_if_eq (pc := 70) C 81 (by decide) dX7_readItem_70 (fun hc => ?_) (fun hc => ?_)
    · have hw := hw.1 hc
      refine v_aload_n (pc := 81) C 0 rfl rfl dX7_readItem_81 ?_
      refine v_goBi (pc := 82) C (bs := [bReader E a p5, bPad E b q, bBox E d]) (cs := [bReader E a p5]) (cs' := (fun (u : St) => [bReader E a u])) (bs' := (fun (u : St) => [bReader E a u, bPad E b q, bBox E d])) (w' := (fun (u : St) => (fl [bReader E a u, bPad E b q, bBox E d]))) [0] rfl rfl (fun _ => rfl) (fun _ => rfl) (fun _ => rfl) (v_runVB (pc := 82) C [] [] (fun sz => ctX7_readPen l E a p5 hw sz) [0] rfl rfl rfl mfX7_readPen mvX7_readPen wmX7_87 rfl ⟨Nat.le_of_ble_eq_true rfl, Nat.le_of_ble_eq_true rfl⟩ ⟨rfl, rfl⟩ 0 (ci := 7) (qc := (RX7, TX7, 8)) rfl rfl rfl rfl (Nat.le_of_ble_eq_true rfl) ⟨Nat.zero_le _, Nat.zero_le _⟩ dX7_readItem_82) (fun r6 p7 hw => ?_)
      refine v_if_eq (pc := 85) C 113 (by decide) dX7_readItem_85 (fun hc => ?_) (fun hc => ?_)
      · have hw := hw.1 hc
        refine v_iconst (pc := 113) C 0 ki_0 dX7_readItem_113 ?_
        exact v_iretz (pc := 114) C rfl (p7, q) hA rfl hw dX7_readItem_114
      · have hw := hw.2 hc
        refine v_aload_n (pc := 88) C 0 rfl rfl dX7_readItem_88 ?_
        refine v_goBi (pc := 89) C (bs := [bReader E a p7, bPad E b q, bBox E d]) (cs := [bReader E a p7]) (cs' := (fun (u : St) => [bReader E a u])) (bs' := (fun (u : St) => [bReader E a u, bPad E b q, bBox E d])) (w' := (fun (u : St) => (fl [bReader E a u, bPad E b q, bBox E d]))) [0] rfl rfl (fun _ => rfl) (fun _ => rfl) (fun _ => rfl) (v_runVB (pc := 89) C [] [] (fun sz => ctX7_readCells l E a p7 hw sz) [0] rfl rfl rfl mfX7_readCells mvX7_readCells wmX7_90 rfl ⟨Nat.le_of_ble_eq_true rfl, Nat.le_of_ble_eq_true rfl⟩ ⟨rfl, rfl⟩ 0 (ci := 7) (qc := (RX7, TX7, 8)) rfl rfl rfl rfl (Nat.le_of_ble_eq_true rfl) ⟨Nat.zero_le _, Nat.zero_le _⟩ dX7_readItem_89) (fun r8 p9 hw => ?_)
        refine v_istore (pc := 92) C [(5, .int r8), (0, .ref (a 0)), (1, .ref (b 0)), (2, .ref (d 0)), (3, .int x3)] rfl (by decide) dX7_readItem_92 ?_
        refine v_aload_n (pc := 94) C 2 rfl rfl dX7_readItem_94 ?_
        refine v_aload_n (pc := 95) C 3 rfl rfl dX7_readItem_95 ?_
        refine v_aload_n (pc := 96) C 1 rfl rfl dX7_readItem_96 ?_
        refine v_get (pc := 97) C cfX7 rfl 0 6 rfl (by decide) wfX7_31 rfl dX7_readItem_97 ?_
        refine v_aload_n (pc := 100) C 1 rfl rfl dX7_readItem_100 ?_
        refine v_get (pc := 101) C cfX7 rfl 0 7 rfl (by decide) wfX7_34 rfl dX7_readItem_101 ?_
        refine v_iload (pc := 104) C 0 rfl dX7_readItem_104 ?_
        refine v_goBi (pc := 106) C (bs := [bReader E a p9, bPad E b q, bBox E d]) (cs := [bPad E b q, bBox E d]) (cs' := (fun (u : St) => [bPad E b u, bBox E d])) (bs' := (fun (u : St) => [bReader E a p9, bPad E b u, bBox E d])) (w' := (fun (u : St) => (fl [bReader E a p9, bPad E b u, bBox E d]))) [1, 2] rfl rfl (fun _ => rfl) (fun _ => rfl) (fun _ => rfl) (v_runVB (pc := 106) C [.ref (d 0), .int (p9.I 6), .int (p9.I 7), .int r8] [] (fun sz => ctX4_putNote l E b d (p9.I 6) (p9.I 7) r8 q hw sz) [1, 2] rfl rfl rfl mfX4_putNote mvX4_putNote wmX7_93 rfl ⟨Nat.le_of_ble_eq_true rfl, Nat.le_of_ble_eq_true rfl⟩ ⟨rfl, rfl⟩ 2 (ci := 4) (qc := (RX4, TX4, 12)) rfl rfl rfl rfl (Nat.le_of_ble_eq_true rfl) ⟨Nat.zero_le _, Nat.zero_le _⟩ dX7_readItem_106) (fun r10 p11 hw => ?_)
        refine v_pop (pc := 109) C rfl dX7_readItem_109 ?_
        refine v_goto (pc := 110) C 115 (by decide) dX7_readItem_110 ?_
        refine v_sub (lv' := [(0, .ref (a 0))]) [1] rfl ?_
        exact vjX7_readItem_115 C hA a b d  p9 p11 hw
    · have hw := hw.2 hc
      refine v_aload_n (pc := 73) C 1 rfl rfl dX7_readItem_73 ?_
      refine v_goBi (pc := 74) C (bs := [bReader E a p5, bPad E b q, bBox E d]) (cs := [bPad E b q]) (cs' := (fun (u : St) => [bPad E b u])) (bs' := (fun (u : St) => [bReader E a p5, bPad E b u, bBox E d])) (w' := (fun (u : St) => (fl [bReader E a p5, bPad E b u, bBox E d]))) [1] rfl rfl (fun _ => rfl) (fun _ => rfl) (fun _ => rfl) (v_runVB (pc := 74) C [] [] (fun sz => ctX4_tearTop l E b q hw sz) [1] rfl rfl rfl mfX4_tearTop mvX4_tearTop wmX7_84 rfl ⟨Nat.le_of_ble_eq_true rfl, Nat.le_of_ble_eq_true rfl⟩ ⟨rfl, rfl⟩ 2 (ci := 4) (qc := (RX4, TX4, 12)) rfl rfl rfl rfl (Nat.le_of_ble_eq_true rfl) ⟨Nat.zero_le _, Nat.zero_le _⟩ dX7_readItem_74) (fun r14 p15 hw => ?_)
      refine v_pop (pc := 77) C rfl dX7_readItem_77 ?_
      refine v_goto (pc := 78) C 115 (by decide) dX7_readItem_78 ?_
      refine v_sub (lv' := [(0, .ref (a 0))]) [0] rfl ?_
      exact vjX7_readItem_115 C hA a b d  p5 p15 hw
  · have hw := hw.2 hc
    refine v_iconst (pc := 63) C 0 ki_0 dX7_readItem_63 ?_
    exact v_iretz (pc := 64) C rfl (p, q) hA rfl hw dX7_readItem_64
set_option maxHeartbeats 4000000 in
set_option maxRecDepth 100000 in
theorem vjX7_readItem_45 (C : VC pr s m args meth c E A cX7_readItem 6 (some .boolean) RX7) (hA : va_A w0 s.heap.size = A) (a : Nat → Nat) (b : Nat → Nat) (d : Nat → Nat)  {Post : Int32 → (St × St) → Prop} (x3 : Int32) (z0 : Int32) (p : St) (q : St) (hw : wjX7_readItem_45  Post x3 z0 p q) : V pr l e rmX7_readItem s m args below meth c E A 6 0 0 (MQ below (CQi E Post (fun u => (fl [bReader E a u.1, bPad E b u.2, bBox E d])) w0 s.heap.size) args s 0 0 A) (fl [bReader E a p, bPad E b q, bBox E d]) 45 [(0, .ref (a 0)), (1, .ref (b 0)), (2, .ref (d 0)), (3, .int x3)] [.int z0] := by
  refine v_istore (pc := 45) C [(4, .int z0), (0, .ref (a 0)), (1, .ref (b 0)), (2, .ref (d 0)), (3, .int x3)] rfl (by decide) dX7_readItem_45 ?_
  refine v_iload_n (pc := 47) C 4 rfl rfl dX7_readItem_47 ?_
  refine v_if_ne (pc := 48) C 56 (by decide) dX7_readItem_48 (fun hc => ?_) (fun hc => ?_)
  · have hw := hw.1 hc
    refine v_sub (lv' := [(0, .ref (a 0)), (1, .ref (b 0)), (2, .ref (d 0)), (3, .int x3)]) [1, 2, 3, 4] rfl ?_
    exact vjX7_readItem_56 C hA a b d  x3 p q hw
  · have hw := hw.2 hc
    refine v_iload (pc := 51) C 0 rfl dX7_readItem_51 ?_
    refine v_if_eq (pc := 53) C 63 (by decide) dX7_readItem_53 (fun hc => ?_) (fun hc => ?_)
    · have hw := hw.1 hc
      refine v_iconst (pc := 63) C 0 ki_0 dX7_readItem_63 ?_
      exact v_iretz (pc := 64) C rfl (p, q) hA rfl hw dX7_readItem_64
    · have hw := hw.2 hc
      refine v_sub (lv' := [(0, .ref (a 0)), (1, .ref (b 0)), (2, .ref (d 0)), (3, .int x3)]) [1, 2, 3, 4] rfl ?_
      exact vjX7_readItem_56 C hA a b d  x3 p q hw
set_option maxHeartbeats 4000000 in
set_option maxRecDepth 100000 in
theorem ctX7_readItem (l : Launch) (E : VE) (a : Nat → Nat) (b : Nat → Nat) (d : Nat → Nat)  (p : St) (q : St)  {Post : Int32 → (St × St) → Prop} (hw : wpX7_readItem p q Post) (sz : Nat) : Met l yX7_readItem (mW yX7_readItem cX7_readItem 6 (some .boolean)) rmX7_readItem (CPre E [.ref (a 0), .ref (b 0), .ref (d 0)] sz (fl [bReader E a p, bPad E b q, bBox E d])) (CQi E Post (fun u => (fl [bReader E a u.1, bPad E b u.2, bBox E d])) (fl [bReader E a p, bPad E b q, bBox E d]) sz) 0 0 (va_A (fl [bReader E a p, bPad E b q, bBox E d]) sz) := by
  refine v_met (by decide) (Nat.le_of_ble_eq_true rfl) ?_
  intro pr e s m below meth c A hsz hA C
  subst hsz
  refine v_aload_n (pc := 0) C 0 rfl rfl dX7_readItem_0 ?_
  refine v_ldcS1 (pc := 1) C dX7_readItem_1 ?_
  refine v_goBi (pc := 3) C (bs := [bReader E a p, bPad E b q, bBox E d]) (cs := [bReader E a p]) (cs' := (fun (_ : Unit) => [bReader E a p])) (bs' := (fun (_ : Unit) => [bReader E a p, bPad E b q, bBox E d])) (w' := (fun (_ : Unit) => (fl [bReader E a p, bPad E b q, bBox E d]))) [0] rfl rfl (fun _ => rfl) (fun _ => rfl) (fun _ => rfl) (v_runVB (pc := 3) C [.ref (E.2.2.2.2.1 1)] [] (fun sz => ctX7_isWord l E a 1 p hw sz) [0] rfl rfl rfl mfX7_isWord mvX7_isWord wmX7_50 rfl ⟨Nat.le_of_ble_eq_true rfl, Nat.le_of_ble_eq_true rfl⟩ ⟨rfl, rfl⟩ 0 (ci := 7) (qc := (RX7, TX7, 8)) rfl rfl rfl rfl (Nat.le_of_ble_eq_true rfl) ⟨Nat.zero_le _, Nat.zero_le _⟩ dX7_readItem_3) (fun r1 _ hw => ?_)
  refine v_if_eq (pc := 6) C 15 (by decide) dX7_readItem_6 (fun hc => ?_) (fun hc => ?_)
  · have hw := hw.1 hc
    refine v_aload_n (pc := 15) C 0 rfl rfl dX7_readItem_15 ?_
    refine v_ldcS2 (pc := 16) C dX7_readItem_16 ?_
    refine v_goBi (pc := 18) C (bs := [bReader E a p, bPad E b q, bBox E d]) (cs := [bReader E a p]) (cs' := (fun (_ : Unit) => [bReader E a p])) (bs' := (fun (_ : Unit) => [bReader E a p, bPad E b q, bBox E d])) (w' := (fun (_ : Unit) => (fl [bReader E a p, bPad E b q, bBox E d]))) [0] rfl rfl (fun _ => rfl) (fun _ => rfl) (fun _ => rfl) (v_runVB (pc := 18) C [.ref (E.2.2.2.2.1 2)] [] (fun sz => ctX7_isWord l E a 2 p hw sz) [0] rfl rfl rfl mfX7_isWord mvX7_isWord wmX7_50 rfl ⟨Nat.le_of_ble_eq_true rfl, Nat.le_of_ble_eq_true rfl⟩ ⟨rfl, rfl⟩ 0 (ci := 7) (qc := (RX7, TX7, 8)) rfl rfl rfl rfl (Nat.le_of_ble_eq_true rfl) ⟨Nat.zero_le _, Nat.zero_le _⟩ dX7_readItem_18) (fun r2 _ hw => ?_)
    refine v_istore_n (pc := 21) C [(3, .int r2), (0, .ref (a 0)), (1, .ref (b 0)), (2, .ref (d 0))] rfl rfl (by decide) dX7_readItem_21 ?_
    refine v_aload_n (pc := 22) C 1 rfl rfl dX7_readItem_22 ?_
    refine v_ldcS3 (pc := 23) C dX7_readItem_23 ?_
    refine v_goBi (pc := 25) C (bs := [bReader E a p, bPad E b q, bBox E d]) (cs := [bReader E a p]) (cs' := (fun (_ : Unit) => [bReader E a p])) (bs' := (fun (_ : Unit) => [bReader E a p, bPad E b q, bBox E d])) (w' := (fun (_ : Unit) => (fl [bReader E a p, bPad E b q, bBox E d]))) [0] rfl rfl (fun _ => rfl) (fun _ => rfl) (fun _ => rfl) (v_runVB (pc := 25) C [.ref (E.2.2.2.2.1 3)] [] (fun sz => ctX7_isWord l E a 3 p hw sz) [0] rfl rfl rfl mfX7_isWord mvX7_isWord wmX7_50 rfl ⟨Nat.le_of_ble_eq_true rfl, Nat.le_of_ble_eq_true rfl⟩ ⟨rfl, rfl⟩ 0 (ci := 7) (qc := (RX7, TX7, 8)) rfl rfl rfl rfl (Nat.le_of_ble_eq_true rfl) ⟨Nat.zero_le _, Nat.zero_le _⟩ dX7_readItem_25) (fun r3 _ hw => ?_)
    refine v_if_eq (pc := 28) C 44 (by decide) dX7_readItem_28 (fun hc => ?_) (fun hc => ?_)
    · have hw := hw.1 hc
      refine v_iconst (pc := 44) C 0 ki_0 dX7_readItem_44 ?_
      refine v_sub (lv' := [(0, .ref (a 0)), (1, .ref (b 0)), (2, .ref (d 0)), (3, .int r2)]) [1, 2, 3, 0] rfl ?_
      exact vjX7_readItem_45 C hA a b d  r2 0 p q hw
    · have hw := hw.2 hc
      refine v_aload_n (pc := 31) C 2 rfl rfl dX7_readItem_31 ?_
      refine v_goBi (pc := 32) C (bs := [bReader E a p, bPad E b q, bBox E d]) (cs := [bPad E b q]) (cs' := (fun (_ : Unit) => [bPad E b q])) (bs' := (fun (_ : Unit) => [bReader E a p, bPad E b q, bBox E d])) (w' := (fun (_ : Unit) => (fl [bReader E a p, bPad E b q, bBox E d]))) [1] rfl rfl (fun _ => rfl) (fun _ => rfl) (fun _ => rfl) (v_runVB (pc := 32) C [] [] (fun sz => ctX4_noteCount l E b q hw sz) [1] rfl rfl rfl mfX4_noteCount mvX4_noteCount wmX7_77 rfl ⟨Nat.le_of_ble_eq_true rfl, Nat.le_of_ble_eq_true rfl⟩ ⟨rfl, rfl⟩ 2 (ci := 4) (qc := (RX4, TX4, 12)) rfl rfl rfl rfl (Nat.le_of_ble_eq_true rfl) ⟨Nat.zero_le _, Nat.zero_le _⟩ dX7_readItem_32) (fun r16 _ hw => ?_)
      refine v_bipush (pc := 35) C 10 kb_10 dX7_readItem_35 ?_
      refine v_icmp_ge (pc := 37) C 44 (by decide) dX7_readItem_37 (fun hc => ?_) (fun hc => ?_)
      · have hw := hw.1 hc
        refine v_iconst (pc := 44) C 0 ki_0 dX7_readItem_44 ?_
        refine v_sub (lv' := [(0, .ref (a 0)), (1, .ref (b 0)), (2, .ref (d 0)), (3, .int r2)]) [1, 2, 3, 0] rfl ?_
        exact vjX7_readItem_45 C hA a b d  r2 0 p q hw
      · have hw := hw.2 hc
        refine v_iconst (pc := 40) C 1 ki_1 dX7_readItem_40 ?_
        refine v_goto (pc := 41) C 45 (by decide) dX7_readItem_41 ?_
        refine v_sub (lv' := [(0, .ref (a 0)), (1, .ref (b 0)), (2, .ref (d 0)), (3, .int r2)]) [1, 2, 3, 0] rfl ?_
        exact vjX7_readItem_45 C hA a b d  r2 1 p q hw
  · have hw := hw.2 hc
    refine v_aload_n (pc := 9) C 0 rfl rfl dX7_readItem_9 ?_
    refine v_aload_n (pc := 10) C 1 rfl rfl dX7_readItem_10 ?_
    refine v_goBi (pc := 11) C (bs := [bReader E a p, bPad E b q, bBox E d]) (cs := [bReader E a p, bPad E b q]) (cs' := (fun (u : (St × St)) => [bReader E a u.1, bPad E b u.2])) (bs' := (fun (u : (St × St)) => [bReader E a u.1, bPad E b u.2, bBox E d])) (w' := (fun (u : (St × St)) => (fl [bReader E a u.1, bPad E b u.2, bBox E d]))) [0, 1] rfl rfl (fun _ => rfl) (fun _ => rfl) (fun _ => rfl) (v_runVB (pc := 11) C [.ref (b 0)] [] (fun sz => ctX7_readCarbon l E a b p q hw sz) [0, 1] rfl rfl rfl mfX7_readCarbon mvX7_readCarbon wmX7_70 rfl ⟨Nat.le_of_ble_eq_true rfl, Nat.le_of_ble_eq_true rfl⟩ ⟨rfl, rfl⟩ 0 (ci := 7) (qc := (RX7, TX7, 8)) rfl rfl rfl rfl (Nat.le_of_ble_eq_true rfl) ⟨Nat.zero_le _, Nat.zero_le _⟩ dX7_readItem_11) (fun r17 u hw => ?_)
    obtain ⟨p18, p19⟩ := u
    have hw := hw p18 p19 rfl
    exact v_iretz (pc := 14) C hw.1 (p18, p19) hA rfl hw.2 dX7_readItem_14
set_option maxHeartbeats 4000000 in
set_option maxRecDepth 100000 in
theorem vlX7_readInto_24 (C : VC pr s m args meth c E A cX7_readInto 5 (some .int) RX7) (hA : va_A w0 s.heap.size = A) (a : Nat → Nat) (b : Nat → Nat) (d : Nat → Nat)  {Post : Int32 → (St × St) → Prop} {KX : Int32 → St → St → Prop} (hX : ∀ (x3 : Int32) (p : St) (q : St), KX x3 p q → V pr l e rmX7_readInto s m args below meth c E A 5 0 0 (MQ below (CQi E Post (fun u => (fl [bReader E a u.1, bPad E b u.2, bBox E d])) w0 s.heap.size) args s 0 0 A) (fl [bReader E a p, bPad E b q, bBox E d]) 59 [(3, .int x3)] []) : ∀ (n : Nat) (x3 : Int32) (x4 : Int32) (p : St) (q : St), wLX7_readInto_24  Post KX n (x3, x4, p, q) → V pr l e rmX7_readInto s m args below meth c E A 5 0 0 (MQ below (CQi E Post (fun u => (fl [bReader E a u.1, bPad E b u.2, bBox E d])) w0 s.heap.size) args s 0 0 A) (fl [bReader E a p, bPad E b q, bBox E d]) 24 [(0, .ref (a 0)), (1, .ref (b 0)), (2, .ref (d 0)), (3, .int x3), (4, .int x4)] [] := by
  intro n
  induction n with
  | zero => intro x3 x4 p q hw; exact absurd hw id
  | succ n hself =>
    intro x3 x4 p q hw
    have hw : wlX7_readInto_24  Post KX (wLX7_readInto_24  Post KX n) x3 x4 p q := hw
    refine v_iload (pc := 24) C 4 rfl dX7_readInto_24 ?_
    refine v_sipush (pc := 26) C 150 ks_150 dX7_readInto_26 ?_
    refine v_icmp_gt (pc := 29) C 59 (by decide) dX7_readInto_29 (fun hc => ?_) (fun hc => ?_)
    · have hw := hw.1 hc
      refine v_sub (lv' := [(3, .int x3)]) [3] rfl ?_
      exact hX x3 p q hw
    · have hw := hw.2 hc
      refine v_aload_n (pc := 32) C 0 rfl rfl dX7_readInto_32 ?_
      refine v_get (pc := 33) C cfX7 rfl 0 3 rfl (by decide) wfX7_22 rfl dX7_readInto_33 ?_
      refine v_if_eq (pc := 36) C 59 (by decide) dX7_readInto_36 (fun hc => ?_) (fun hc => ?_)
      · have hw := hw.1 hc
        refine v_sub (lv' := [(3, .int x3)]) [3] rfl ?_
        exact hX x3 p q hw
      · have hw := hw.2 hc
        refine v_aload_n (pc := 39) C 0 rfl rfl dX7_readInto_39 ?_
        refine v_aload_n (pc := 40) C 1 rfl rfl dX7_readInto_40 ?_
        refine v_aload_n (pc := 41) C 2 rfl rfl dX7_readInto_41 ?_
        refine v_goAi (pc := 42) C (wc' := (fun (u : (St × St)) => (fl [bReader E a u.1, bPad E b u.2, bBox E d]))) (fun _ => rfl) (v_runVA (pc := 42) C [.ref (b 0), .ref (d 0)] [] (fun sz => ctX7_readItem l E a b d p q hw sz) mfX7_readItem mvX7_readItem wmX7_44 rfl ⟨Nat.le_of_ble_eq_true rfl, Nat.le_of_ble_eq_true rfl⟩ ⟨rfl, rfl⟩ 0 (ci := 7) (qc := (RX7, TX7, 8)) rfl rfl rfl rfl (Nat.le_of_ble_eq_true rfl) ⟨Nat.zero_le _, Nat.zero_le _⟩ dX7_readInto_42) (fun r6 u hw => ?_)
        obtain ⟨p7, p8⟩ := u
        have hw := hw p7 p8 rfl
        refine v_if_ne (pc := 45) C 50 (by decide) dX7_readInto_45 (fun hc => ?_) (fun hc => ?_)
        · have hw := hw.1 hc
          obtain ⟨x3_9, ex⟩ : ∃ y : Int32, y = x3 + 1 := ⟨_, rfl⟩
          have hw := hw x3_9 ex
          refine v_iinc (pc := 50) C 3 rfl (by rw [ex, ki_1]) [(3, .int x3_9), (0, .ref (a 0)), (1, .ref (b 0)), (2, .ref (d 0)), (4, .int x4)] rfl (by decide) dX7_readInto_50 ?_
          obtain ⟨x4_10, ex⟩ : ∃ y : Int32, y = x4 + 1 := ⟨_, rfl⟩
          have hw := hw x4_10 ex
          refine v_iinc (pc := 53) C 4 rfl (by rw [ex, ki_1]) [(4, .int x4_10), (3, .int x3_9), (0, .ref (a 0)), (1, .ref (b 0)), (2, .ref (d 0))] rfl (by decide) dX7_readInto_53 ?_
          refine v_goto (pc := 56) C 24 (by decide) dX7_readInto_56 ?_
          refine v_sub (lv' := [(0, .ref (a 0)), (1, .ref (b 0)), (2, .ref (d 0)), (3, .int x3_9), (4, .int x4_10)]) [2, 3, 4, 1, 0] rfl ?_
          exact hself x3_9 x4_10 p7 p8 hw
        · have hw := hw.2 hc
          refine v_iconst (pc := 48) C (-1) ki_m1 dX7_readInto_48 ?_
          exact v_ireti (pc := 49) C (p7, p8) hA rfl hw dX7_readInto_49
set_option maxHeartbeats 4000000 in
set_option maxRecDepth 100000 in
theorem ctX7_readInto (l : Launch) (E : VE) (a : Nat → Nat) (b : Nat → Nat) (d : Nat → Nat)  (p : St) (q : St)  {Post : Int32 → (St × St) → Prop} (hw : wpX7_readInto p q Post) (sz : Nat) : Met l yX7_readInto (mW yX7_readInto cX7_readInto 5 (some .int)) rmX7_readInto (CPre E [.ref (a 0), .ref (b 0), .ref (d 0)] sz (fl [bReader E a p, bPad E b q, bBox E d])) (CQi E Post (fun u => (fl [bReader E a u.1, bPad E b u.2, bBox E d])) (fl [bReader E a p, bPad E b q, bBox E d]) sz) 0 0 (va_A (fl [bReader E a p, bPad E b q, bBox E d]) sz) := by
  refine v_met (by decide) (Nat.le_of_ble_eq_true rfl) ?_
  intro pr e s m below meth c A hsz hA C
  subst hsz
  refine v_aload_n (pc := 0) C 0 rfl rfl dX7_readInto_0 ?_
  refine v_iconst (pc := 1) C 0 ki_0 dX7_readInto_1 ?_
  obtain ⟨p1, es⟩ : ∃ y : St, y = p.sI 2 0 := ⟨_, rfl⟩
  have hw := hw p1 es
  refine v_put (pc := 2) C cfX7 rfl 0 2 (ty := .int) (w' := (fl [bReader E a p1, bPad E b q, bBox E d])) rfl (by subst es; rfl) (by decide) wfX7_19 rfl rfl rfl rfl (Nat.le_of_ble_eq_true rfl) dX7_readInto_2 ?_
  refine v_aload_n (pc := 5) C 0 rfl rfl dX7_readInto_5 ?_
  refine v_goBv (pc := 6) C (bs := [bReader E a p1, bPad E b q, bBox E d]) (cs := [bReader E a p1]) (cs' := (fun (u : St) => [bReader E a u])) (bs' := (fun (u : St) => [bReader E a u, bPad E b q, bBox E d])) (w' := (fun (u : St) => (fl [bReader E a u, bPad E b q, bBox E d]))) [0] rfl rfl (fun _ => rfl) (fun _ => rfl) (fun _ => rfl) (v_runVB (pc := 6) C [] [] (fun sz => ctX7_step l E a p1 hw sz) [0] rfl rfl rfl mfX7_step mvX7_step wmX7_37 rfl ⟨Nat.le_of_ble_eq_true rfl, Nat.le_of_ble_eq_true rfl⟩ ⟨rfl, rfl⟩ 0 (ci := 7) (qc := (RX7, TX7, 8)) rfl rfl rfl rfl (Nat.le_of_ble_eq_true rfl) ⟨Nat.zero_le _, Nat.zero_le _⟩ dX7_readInto_6) (fun p2 hw => ?_)
  refine v_aload_n (pc := 9) C 0 rfl rfl dX7_readInto_9 ?_
  refine v_aload_n (pc := 10) C 1 rfl rfl dX7_readInto_10 ?_
  refine v_goBi (pc := 11) C (bs := [bReader E a p2, bPad E b q, bBox E d]) (cs := [bReader E a p2, bPad E b q]) (cs' := (fun (u : (St × St)) => [bReader E a u.1, bPad E b u.2])) (bs' := (fun (u : (St × St)) => [bReader E a u.1, bPad E b u.2, bBox E d])) (w' := (fun (u : (St × St)) => (fl [bReader E a u.1, bPad E b u.2, bBox E d]))) [0, 1] rfl rfl (fun _ => rfl) (fun _ => rfl) (fun _ => rfl) (v_runVB (pc := 11) C [.ref (b 0)] [] (fun sz => ctX7_readFirst l E a b p2 q hw sz) [0, 1] rfl rfl rfl mfX7_readFirst mvX7_readFirst wmX7_40 rfl ⟨Nat.le_of_ble_eq_true rfl, Nat.le_of_ble_eq_true rfl⟩ ⟨rfl, rfl⟩ 0 (ci := 7) (qc := (RX7, TX7, 8)) rfl rfl rfl rfl (Nat.le_of_ble_eq_true rfl) ⟨Nat.zero_le _, Nat.zero_le _⟩ dX7_readInto_11) (fun r3 u hw => ?_)
  obtain ⟨p4, p5⟩ := u
  have hw := hw p4 p5 rfl
  refine v_if_ne (pc := 14) C 19 (by decide) dX7_readInto_14 (fun hc => ?_) (fun hc => ?_)
  · have hw := hw.1 hc
    refine v_iconst (pc := 19) C 1 ki_1 dX7_readInto_19 ?_
    refine v_istore_n (pc := 20) C [(3, .int 1), (0, .ref (a 0)), (1, .ref (b 0)), (2, .ref (d 0))] rfl rfl (by decide) dX7_readInto_20 ?_
    refine v_iconst (pc := 21) C 0 ki_0 dX7_readInto_21 ?_
    refine v_istore (pc := 22) C [(4, .int 0), (3, .int 1), (0, .ref (a 0)), (1, .ref (b 0)), (2, .ref (d 0))] rfl (by decide) dX7_readInto_22 ?_
    obtain ⟨n, hw⟩ := hw
    refine v_sub (lv' := [(0, .ref (a 0)), (1, .ref (b 0)), (2, .ref (d 0)), (3, .int 1), (4, .int 0)]) [2, 3, 4, 1, 0] rfl ?_
    refine vlX7_readInto_24 C hA a b d  (fun y11 p12 p13 hw => ?_) n 1 0 p4 p5 hw
    refine v_iload_n (pc := 59) C 0 rfl rfl dX7_readInto_59 ?_
    exact v_ireti (pc := 60) C (p12, p13) hA rfl hw dX7_readInto_60
  · have hw := hw.2 hc
    refine v_iconst (pc := 17) C (-1) ki_m1 dX7_readInto_17 ?_
    exact v_ireti (pc := 18) C (p4, p5) hA rfl hw dX7_readInto_18
set_option maxHeartbeats 4000000 in
set_option maxRecDepth 100000 in
theorem ctX8_sheetAt (l : Launch) (E : VE) (a : Nat → Nat) (x1 : Int32) (p : St)  {Post : Int32 → Prop} (hw : wpX8_sheetAt x1 p Post) (sz : Nat) : Met l yX8_sheetAt (mW yX8_sheetAt cX8_sheetAt 2 (some .int)) rmX8_sheetAt (CPre E [.ref (a 0), .int x1] sz (fl [bRows E a p])) (CQi E (fun (z : Int32) (_ : Unit) => Post z) (fun _ => (fl [bRows E a p])) (fl [bRows E a p]) sz) 0 0 (va_A (fl [bRows E a p]) sz) := by
  refine v_met (by decide) (Nat.le_of_ble_eq_true rfl) ?_
  intro pr e s m below meth c A hsz hA C
  subst hsz
  refine v_iload_n (pc := 0) C 1 rfl rfl dX8_sheetAt_0 ?_
  refine v_if_lt (pc := 1) C 19 (by decide) dX8_sheetAt_1 (fun hc => ?_) (fun hc => ?_)
  · have hw := hw.1 hc
    refine v_iconst (pc := 19) C (-1) ki_m1 dX8_sheetAt_19 ?_
    exact v_ireti (pc := 20) C () hA rfl hw dX8_sheetAt_20
  · have hw := hw.2 hc
    refine v_iload_n (pc := 4) C 1 rfl rfl dX8_sheetAt_4 ?_
    refine v_bipush (pc := 5) C 6 kb_6 dX8_sheetAt_5 ?_
    refine v_icmp_ge (pc := 7) C 19 (by decide) dX8_sheetAt_7 (fun hc => ?_) (fun hc => ?_)
    · have hw := hw.1 hc
      refine v_iconst (pc := 19) C (-1) ki_m1 dX8_sheetAt_19 ?_
      exact v_ireti (pc := 20) C () hA rfl hw dX8_sheetAt_20
    · have hw := hw.2 hc
      refine v_aload_n (pc := 10) C 0 rfl rfl dX8_sheetAt_10 ?_
      refine v_get (pc := 11) C cfX8 rfl 0 0 rfl (by decide) wfX8_9 rfl dX8_sheetAt_11 ?_
      refine v_iload_n (pc := 14) C 1 rfl rfl dX8_sheetAt_14 ?_
      obtain ⟨hg, hw⟩ := hw
      refine v_iald (pc := 15) C 1 rfl hg rfl dX8_sheetAt_15 ?_
      refine v_goto (pc := 16) C 20 (by decide) dX8_sheetAt_16 ?_
      exact v_ireti (pc := 20) C () hA rfl hw dX8_sheetAt_20
set_option maxHeartbeats 4000000 in
set_option maxRecDepth 100000 in
theorem vlX8_mayLie_3 (C : VC pr s m args meth c E A cX8_mayLie 7 (some .boolean) RX8) (hA : va_A w0 s.heap.size = A) (a : Nat → Nat) (b : Nat → Nat) (q : St) {Post : Int32 → St → Prop} {KX : Int32 → Int32 → Int32 → St → Prop} (hX : ∀ (x2 : Int32) (x3 : Int32) (x4 : Int32) (p : St), KX x2 x3 x4 p → V pr l e rmX8_mayLie s m args below meth c E A 7 0 0 (MQ below (CQi E Post (fun u => (fl [bRows E a u, bPad E b q])) w0 s.heap.size) args s 0 0 A) (fl [bRows E a p, bPad E b q]) 24 [(0, .ref (a 0)), (1, .ref (b 0)), (2, .int x2), (3, .int x3), (4, .int x4)] []) : ∀ (n : Nat) (x2 : Int32) (x3 : Int32) (x4 : Int32) (x5 : Int32) (p : St), wLX8_mayLie_3 q Post KX n (x2, x3, x4, x5, p) → V pr l e rmX8_mayLie s m args below meth c E A 7 0 0 (MQ below (CQi E Post (fun u => (fl [bRows E a u, bPad E b q])) w0 s.heap.size) args s 0 0 A) (fl [bRows E a p, bPad E b q]) 3 [(0, .ref (a 0)), (1, .ref (b 0)), (2, .int x2), (3, .int x3), (4, .int x4), (5, .int x5)] [] := by
  intro n
  induction n with
  | zero => intro x2 x3 x4 x5 p hw; exact absurd hw id
  | succ n hself =>
    intro x2 x3 x4 x5 p hw
    have hw : wlX8_mayLie_3 q Post KX (wLX8_mayLie_3 q Post KX n) x2 x3 x4 x5 p := hw
    refine v_iload (pc := 3) C 5 rfl dX8_mayLie_3 ?_
    refine v_bipush (pc := 5) C 10 kb_10 dX8_mayLie_5 ?_
    refine v_icmp_ge (pc := 7) C 24 (by decide) dX8_mayLie_7 (fun hc => ?_) (fun hc => ?_)
    · have hw := hw.1 hc
      refine v_sub (lv' := [(0, .ref (a 0)), (1, .ref (b 0)), (2, .int x2), (3, .int x3), (4, .int x4)]) [0, 1, 2, 3, 4] rfl ?_
      exact hX x2 x3 x4 p hw
    · have hw := hw.2 hc
      refine v_aload_n (pc := 10) C 0 rfl rfl dX8_mayLie_10 ?_
      refine v_get (pc := 11) C cfX8 rfl 0 3 rfl (by decide) wfX8_21 rfl dX8_mayLie_11 ?_
      refine v_iload (pc := 14) C 5 rfl dX8_mayLie_14 ?_
      refine v_iconst (pc := 16) C 0 ki_0 dX8_mayLie_16 ?_
      obtain ⟨hg, hw⟩ := hw
      obtain ⟨p1, es⟩ : ∃ y : St, y = p.sA 3 (upd (p.A 3) x5.toNatClampNeg 0) := ⟨_, rfl⟩
      have hw := hw p1 es
      refine v_iast (pc := 17) C 4 (w' := (fl [bRows E a p1, bPad E b q])) rfl rfl (by subst es; rfl) hg dX8_mayLie_17 ?_
      obtain ⟨x5_2, ex⟩ : ∃ y : Int32, y = x5 + 1 := ⟨_, rfl⟩
      have hw := hw x5_2 ex
      refine v_iinc (pc := 18) C 5 rfl (by rw [ex, ki_1]) [(5, .int x5_2), (0, .ref (a 0)), (1, .ref (b 0)), (2, .int x2), (3, .int x3), (4, .int x4)] rfl (by decide) dX8_mayLie_18 ?_
      refine v_goto (pc := 21) C 3 (by decide) dX8_mayLie_21 ?_
      refine v_sub (lv' := [(0, .ref (a 0)), (1, .ref (b 0)), (2, .int x2), (3, .int x3), (4, .int x4), (5, .int x5_2)]) [1, 2, 3, 4, 5, 0] rfl ?_
      exact hself x2 x3 x4 x5_2 p1 hw
set_option maxHeartbeats 4000000 in
set_option maxRecDepth 100000 in
theorem vlX8_mayLie_27 (C : VC pr s m args meth c E A cX8_mayLie 7 (some .boolean) RX8) (hA : va_A w0 s.heap.size = A) (a : Nat → Nat) (b : Nat → Nat) (q : St) {Post : Int32 → St → Prop} {KX : Int32 → St → Prop} (hX : ∀ (x2 : Int32) (p : St), KX x2 p → V pr l e rmX8_mayLie s m args below meth c E A 7 0 0 (MQ below (CQi E Post (fun u => (fl [bRows E a u, bPad E b q])) w0 s.heap.size) args s 0 0 A) (fl [bRows E a p, bPad E b q]) 91 [(0, .ref (a 0)), (2, .int x2)] []) : ∀ (n : Nat) (x2 : Int32) (x3 : Int32) (x4 : Int32) (x5 : Int32) (p : St), wLX8_mayLie_27 q Post KX n (x2, x3, x4, x5, p) → V pr l e rmX8_mayLie s m args below meth c E A 7 0 0 (MQ below (CQi E Post (fun u => (fl [bRows E a u, bPad E b q])) w0 s.heap.size) args s 0 0 A) (fl [bRows E a p, bPad E b q]) 27 [(0, .ref (a 0)), (1, .ref (b 0)), (2, .int x2), (3, .int x3), (4, .int x4), (5, .int x5)] [] := by
  intro n
  induction n with
  | zero => intro x2 x3 x4 x5 p hw; exact absurd hw id
  | succ n hself =>
    intro x2 x3 x4 x5 p hw
    have hw : wlX8_mayLie_27 q Post KX (wLX8_mayLie_27 q Post KX n) x2 x3 x4 x5 p := hw
    refine v_iload (pc := 27) C 5 rfl dX8_mayLie_27 ?_
    refine v_aload_n (pc := 29) C 1 rfl rfl dX8_mayLie_29 ?_
    refine v_goBi (pc := 30) C (bs := [bRows E a p, bPad E b q]) (cs := [bPad E b q]) (cs' := (fun (_ : Unit) => [bPad E b q])) (bs' := (fun (_ : Unit) => [bRows E a p, bPad E b q])) (w' := (fun (_ : Unit) => (fl [bRows E a p, bPad E b q]))) [1] rfl rfl (fun _ => rfl) (fun _ => rfl) (fun _ => rfl) (v_runVB (pc := 30) C [] [.int x5] (fun sz => ctX4_noteCount l E b q hw sz) [1] rfl rfl rfl mfX4_noteCount mvX4_noteCount wmX8_45 rfl ⟨Nat.le_of_ble_eq_true rfl, Nat.le_of_ble_eq_true rfl⟩ ⟨rfl, rfl⟩ 5 (ci := 4) (qc := (RX4, TX4, 12)) rfl rfl rfl rfl (Nat.le_of_ble_eq_true rfl) ⟨Nat.zero_le _, Nat.zero_le _⟩ dX8_mayLie_30) (fun r7 _ hw => ?_)
    refine v_icmp_ge (pc := 33) C 91 (by decide) dX8_mayLie_33 (fun hc => ?_) (fun hc => ?_)
    · have hw := hw.1 hc
      refine v_sub (lv' := [(0, .ref (a 0)), (2, .int x2)]) [0, 2] rfl ?_
      exact hX x2 p hw
    · have hw := hw.2 hc
      refine v_aload_n (pc := 36) C 1 rfl rfl dX8_mayLie_36 ?_
      refine v_getN (pc := 37) C cfX4 rfl 5 8 rfl (by decide) wfX8_49 rfl dX8_mayLie_37 ?_
      refine v_iload (pc := 40) C 5 rfl dX8_mayLie_40 ?_
      obtain ⟨hg, hw⟩ := hw
      refine v_iald (pc := 42) C 11 rfl hg rfl dX8_mayLie_42 ?_
      refine v_topi (fun x6_8 ex => ?_)
      have hw := hw x6_8 ex
      refine v_istore (pc := 43) C [(6, .int x6_8), (0, .ref (a 0)), (1, .ref (b 0)), (2, .int x2), (3, .int x3), (4, .int x4), (5, .int x5)] rfl (by decide) dX8_mayLie_43 ?_
      refine v_iload (pc := 45) C 5 rfl dX8_mayLie_45 ?_
      refine v_iload (pc := 47) C 0 rfl dX8_mayLie_47 ?_
      refine v_ishr (pc := 49) C dX8_mayLie_49 ?_
      refine v_iconst (pc := 50) C 1 ki_1 dX8_mayLie_50 ?_
      refine v_iand (pc := 51) C dX8_mayLie_51 ?_
      refine v_if_eq (pc := 52) C 85 (by decide) dX8_mayLie_52 (fun hc => ?_) (fun hc => ?_)
      · have hw := hw.1 hc
        obtain ⟨x5_9, ex⟩ : ∃ y : Int32, y = x5 + 1 := ⟨_, rfl⟩
        have hw := hw x5_9 ex
        refine v_iinc (pc := 85) C 6 rfl (by rw [ex, ki_1]) [(5, .int x5_9), (6, .int x6_8), (0, .ref (a 0)), (1, .ref (b 0)), (2, .int x2), (3, .int x3), (4, .int x4)] rfl (by decide) dX8_mayLie_85 ?_
        refine v_goto (pc := 88) C 27 (by decide) dX8_mayLie_88 ?_
        refine v_sub (lv' := [(0, .ref (a 0)), (1, .ref (b 0)), (2, .int x2), (3, .int x3), (4, .int x4), (5, .int x5_9)]) [2, 3, 4, 5, 6, 0] rfl ?_
        exact hself x2 x3 x4 x5_9 p hw
      · have hw := hw.2 hc
        refine v_aload_n (pc := 55) C 1 rfl rfl dX8_mayLie_55 ?_
        refine v_get (pc := 56) C cfX8 rfl 0 3 rfl (by decide) wfX8_21 rfl dX8_mayLie_56 ?_
        refine v_aload_n (pc := 59) C 2 rfl rfl dX8_mayLie_59 ?_
        refine v_iload (pc := 60) C 6 rfl dX8_mayLie_60 ?_
        refine v_iload_n (pc := 62) C 4 rfl rfl dX8_mayLie_62 ?_
        refine v_aload_n (pc := 63) C 1 rfl rfl dX8_mayLie_63 ?_
        refine v_get (pc := 64) C cfX8 rfl 0 1 rfl (by decide) wfX8_15 rfl dX8_mayLie_64 ?_
        refine v_iload (pc := 67) C 0 rfl dX8_mayLie_67 ?_
        obtain ⟨hg, hw⟩ := hw
        refine v_iald (pc := 69) C 2 rfl hg rfl dX8_mayLie_69 ?_
        refine v_isub (pc := 70) C dX8_mayLie_70 ?_
        refine v_goBi (pc := 71) C (bs := [bRows E a p, bPad E b q]) (cs := [bPad E b q]) (cs' := (fun (_ : Unit) => [bPad E b q])) (bs' := (fun (_ : Unit) => [bRows E a p, bPad E b q])) (w' := (fun (_ : Unit) => (fl [bRows E a p, bPad E b q]))) [1] rfl rfl (fun _ => rfl) (fun _ => rfl) (fun _ => rfl) (v_runVB (pc := 71) C [.int x5, .int (x3 - ((p.A 1) x6_8.toNatClampNeg))] [.ref (a 4)] (fun sz => ctX4_forceDown l E b x5 (x3 - ((p.A 1) x6_8.toNatClampNeg)) q hw sz) [1] rfl rfl rfl mfX4_forceDown mvX4_forceDown wmX8_52 rfl ⟨Nat.le_of_ble_eq_true rfl, Nat.le_of_ble_eq_true rfl⟩ ⟨rfl, rfl⟩ 5 (ci := 4) (qc := (RX4, TX4, 12)) rfl rfl rfl rfl (Nat.le_of_ble_eq_true rfl) ⟨Nat.zero_le _, Nat.zero_le _⟩ dX8_mayLie_71) (fun r10 _ hw => ?_)
        refine v_dup2 (pc := 74) C rfl rfl dX8_mayLie_74 ?_
        obtain ⟨hg, hw⟩ := hw
        refine v_iald (pc := 75) C 4 rfl hg rfl dX8_mayLie_75 ?_
        refine v_aload_n (pc := 76) C 2 rfl rfl dX8_mayLie_76 ?_
        refine v_getN (pc := 77) C cfX4 rfl 5 7 rfl (by decide) wfX8_55 rfl dX8_mayLie_77 ?_
        refine v_iload (pc := 80) C 6 rfl dX8_mayLie_80 ?_
        obtain ⟨hg, hw⟩ := hw
        refine v_iald (pc := 82) C 10 rfl hg rfl dX8_mayLie_82 ?_
        refine v_ior (pc := 83) C dX8_mayLie_83 ?_
        obtain ⟨hg, hw⟩ := hw
        obtain ⟨p11, es⟩ : ∃ y : St, y = p.sA 3 (upd (p.A 3) r10.toNatClampNeg (((p.A 3) r10.toNatClampNeg) ||| ((q.A 7) x5.toNatClampNeg))) := ⟨_, rfl⟩
        have hw := hw p11 es
        refine v_iast (pc := 84) C 4 (w' := (fl [bRows E a p11, bPad E b q])) rfl rfl (by subst es; rfl) hg dX8_mayLie_84 ?_
        obtain ⟨x5_12, ex⟩ : ∃ y : Int32, y = x5 + 1 := ⟨_, rfl⟩
        have hw := hw x5_12 ex
        refine v_iinc (pc := 85) C 6 rfl (by rw [ex, ki_1]) [(5, .int x5_12), (6, .int x6_8), (0, .ref (a 0)), (1, .ref (b 0)), (2, .int x2), (3, .int x3), (4, .int x4)] rfl (by decide) dX8_mayLie_85 ?_
        refine v_goto (pc := 88) C 27 (by decide) dX8_mayLie_88 ?_
        refine v_sub (lv' := [(0, .ref (a 0)), (1, .ref (b 0)), (2, .int x2), (3, .int x3), (4, .int x4), (5, .int x5_12)]) [2, 3, 4, 5, 6, 0] rfl ?_
        exact hself x2 x3 x4 x5_12 p11 hw
set_option maxHeartbeats 4000000 in
set_option maxRecDepth 100000 in
theorem vlX8_mayLie_98 (C : VC pr s m args meth c E A cX8_mayLie 7 (some .boolean) RX8) (hA : va_A w0 s.heap.size = A) (a : Nat → Nat) (b : Nat → Nat) (q : St) {Post : Int32 → St → Prop} {KX : St → Prop} (hX : ∀ (p : St), KX p → V pr l e rmX8_mayLie s m args below meth c E A 7 0 0 (MQ below (CQi E Post (fun u => (fl [bRows E a u, bPad E b q])) w0 s.heap.size) args s 0 0 A) (fl [bRows E a p, bPad E b q]) 141 [] []) : ∀ (n : Nat) (x2 : Int32) (x5 : Int32) (x6 : Int32) (p : St), wLX8_mayLie_98 q Post KX n (x2, x5, x6, p) → V pr l e rmX8_mayLie s m args below meth c E A 7 0 0 (MQ below (CQi E Post (fun u => (fl [bRows E a u, bPad E b q])) w0 s.heap.size) args s 0 0 A) (fl [bRows E a p, bPad E b q]) 98 [(0, .ref (a 0)), (2, .int x2), (5, .int x5), (6, .int x6)] [] := by
  intro n
  induction n with
  | zero => intro x2 x5 x6 p hw; exact absurd hw id
  | succ n hself =>
    intro x2 x5 x6 p hw
    have hw : wlX8_mayLie_98 q Post KX (wLX8_mayLie_98 q Post KX n) x2 x5 x6 p := hw
    refine v_iload (pc := 98) C 3 rfl dX8_mayLie_98 ?_
    refine v_iconst (pc := 100) C 1 ki_1 dX8_mayLie_100 ?_
    refine v_icmp_lt (pc := 101) C 141 (by decide) dX8_mayLie_101 (fun hc => ?_) (fun hc => ?_)
    · have hw := hw.1 hc
      refine v_sub (lv' := []) [] rfl ?_
      exact hX p hw
    · have hw := hw.2 hc
      refine v_iload (pc := 104) C 2 rfl dX8_mayLie_104 ?_
      refine v_aload_n (pc := 106) C 0 rfl rfl dX8_mayLie_106 ?_
      refine v_get (pc := 107) C cfX8 rfl 0 3 rfl (by decide) wfX8_21 rfl dX8_mayLie_107 ?_
      refine v_iload (pc := 110) C 3 rfl dX8_mayLie_110 ?_
      obtain ⟨hg, hw⟩ := hw
      refine v_iald (pc := 112) C 4 rfl hg rfl dX8_mayLie_112 ?_
      refine v_ior (pc := 113) C dX8_mayLie_113 ?_
      refine v_topi (fun x5_15 ex => ?_)
      have hw := hw x5_15 ex
      refine v_istore (pc := 114) C [(5, .int x5_15), (0, .ref (a 0)), (2, .int x2), (6, .int x6)] rfl (by decide) dX8_mayLie_114 ?_
      refine v_iload (pc := 116) C 0 rfl dX8_mayLie_116 ?_
      refine v_aload_n (pc := 118) C 1 rfl rfl dX8_mayLie_118 ?_
      refine v_get (pc := 119) C cfX8 rfl 0 2 rfl (by decide) wfX8_18 rfl dX8_mayLie_119 ?_
      refine v_iload_n (pc := 122) C 2 rfl rfl dX8_mayLie_122 ?_
      refine v_bipush (pc := 123) C 10 kb_10 dX8_mayLie_123 ?_
      refine v_imul (pc := 125) C dX8_mayLie_125 ?_
      refine v_iload (pc := 126) C 3 rfl dX8_mayLie_126 ?_
      refine v_iadd (pc := 128) C dX8_mayLie_128 ?_
      obtain ⟨hg, hw⟩ := hw
      refine v_iald (pc := 129) C 3 rfl hg rfl dX8_mayLie_129 ?_
      refine v_icmp_eq (pc := 130) C 135 (by decide) dX8_mayLie_130 (fun hc => ?_) (fun hc => ?_)
      · have hw := hw.1 hc
        obtain ⟨x6_16, ex⟩ : ∃ y : Int32, y = x6 + (-1) := ⟨_, rfl⟩
        have hw := hw x6_16 ex
        refine v_iinc (pc := 135) C 3 rfl (by rw [ex, ki_m1]) [(6, .int x6_16), (5, .int x5_15), (0, .ref (a 0)), (2, .int x2)] rfl (by decide) dX8_mayLie_135 ?_
        refine v_goto (pc := 138) C 98 (by decide) dX8_mayLie_138 ?_
        refine v_sub (lv' := [(0, .ref (a 0)), (2, .int x2), (5, .int x5_15), (6, .int x6_16)]) [2, 3, 1, 0] rfl ?_
        exact hself x2 x5_15 x6_16 p hw
      · have hw := hw.2 hc
        refine v_iconst (pc := 133) C 0 ki_0 dX8_mayLie_133 ?_
        exact v_iretz (pc := 134) C rfl p hA rfl hw dX8_mayLie_134
set_option maxHeartbeats 4000000 in
set_option maxRecDepth 100000 in
theorem ctX8_mayLie (l : Launch) (E : VE) (a : Nat → Nat) (b : Nat → Nat) (x2 : Int32) (x3 : Int32) (x4 : Int32) (p : St) (q : St)  {Post : Int32 → St → Prop} (hw : wpX8_mayLie x2 x3 x4 p q Post) (sz : Nat) : Met l yX8_mayLie (mW yX8_mayLie cX8_mayLie 7 (some .boolean)) rmX8_mayLie (CPre E [.ref (a 0), .ref (b 0), .int x2, .int x3, .int x4] sz (fl [bRows E a p, bPad E b q])) (CQi E Post (fun u => (fl [bRows E a u, bPad E b q])) (fl [bRows E a p, bPad E b q]) sz) 0 0 (va_A (fl [bRows E a p, bPad E b q]) sz) := by
  refine v_met (by decide) (Nat.le_of_ble_eq_true rfl) ?_
  intro pr e s m below meth c A hsz hA C
  subst hsz
  refine v_iconst (pc := 0) C 1 ki_1 dX8_mayLie_0 ?_
  refine v_istore (pc := 1) C [(5, .int 1), (0, .ref (a 0)), (1, .ref (b 0)), (2, .int x2), (3, .int x3), (4, .int x4)] rfl (by decide) dX8_mayLie_1 ?_
  obtain ⟨n, hw⟩ := hw
  refine v_sub (lv' := [(0, .ref (a 0)), (1, .ref (b 0)), (2, .int x2), (3, .int x3), (4, .int x4), (5, .int 1)]) [1, 2, 3, 4, 5, 0] rfl ?_
  refine vlX8_mayLie_3 C hA a b q (fun y3 y4 y5 p6 hw => ?_) n x2 x3 x4 1 p hw
  refine v_iconst (pc := 24) C 0 ki_0 dX8_mayLie_24 ?_
  refine v_istore (pc := 25) C [(5, .int 0), (0, .ref (a 0)), (1, .ref (b 0)), (2, .int y3), (3, .int y4), (4, .int y5)] rfl (by decide) dX8_mayLie_25 ?_
  obtain ⟨n, hw⟩ := hw
  refine v_sub (lv' := [(0, .ref (a 0)), (1, .ref (b 0)), (2, .int y3), (3, .int y4), (4, .int y5), (5, .int 0)]) [1, 2, 3, 4, 5, 0] rfl ?_
  refine vlX8_mayLie_27 C hA a b q (fun y13 p14 hw => ?_) n y3 y4 y5 0 p6 hw
  refine v_iconst (pc := 91) C 0 ki_0 dX8_mayLie_91 ?_
  refine v_istore (pc := 92) C [(5, .int 0), (0, .ref (a 0)), (2, .int y13)] rfl (by decide) dX8_mayLie_92 ?_
  refine v_bipush (pc := 94) C 9 kb_9 dX8_mayLie_94 ?_
  refine v_istore (pc := 96) C [(6, .int 9), (5, .int 0), (0, .ref (a 0)), (2, .int y13)] rfl (by decide) dX8_mayLie_96 ?_
  obtain ⟨n, hw⟩ := hw
  refine v_sub (lv' := [(0, .ref (a 0)), (2, .int y13), (5, .int 0), (6, .int 9)]) [2, 3, 1, 0] rfl ?_
  refine vlX8_mayLie_98 C hA a b q (fun p17 hw => ?_) n y13 0 9 p14 hw
  refine v_iconst (pc := 141) C 1 ki_1 dX8_mayLie_141 ?_
  exact v_iretz (pc := 142) C rfl p17 hA rfl hw dX8_mayLie_142
set_option maxHeartbeats 4000000 in
set_option maxRecDepth 100000 in
theorem vjX8_layFrom_14 (C : VC pr s m args meth c E A cX8_layFrom 6 none RX8) (hA : va_A w0 s.heap.size = A) (a : Nat → Nat) (b : Nat → Nat) (rec : Int32 → Int32 → Int32 → St → St → (St → Prop) → Prop) (q : St) {d : Nat} (hrec : ∀ (x2 x3 x4 : Int32) (p q : St) {Post : St → Prop} (_ : rec x2 x3 x4 p q Post) (sz : Nat), Met l yX8_layFrom (mW yX8_layFrom cX8_layFrom 6 none) (rmX8_layFrom d) (CPre E [.ref (a 0), .ref (b 0), .int x2, .int x3, .int x4] sz (fl [bRows E a p, bPad E b q])) (CQv E Post (fun u => (fl [bRows E a u, bPad E b q])) (fl [bRows E a p, bPad E b q]) sz) 0 0 (va_A (fl [bRows E a p, bPad E b q]) sz)) {Post : St → Prop} (p : St) (hw : wjX8_layFrom_14 rec q Post p) : V pr l e (rmX8_layFrom (d + 1)) s m args below meth c E A 6 0 0 (MQ below (CQv E Post (fun u => (fl [bRows E a u, bPad E b q])) w0 s.heap.size) args s 0 0 A) (fl [bRows E a p, bPad E b q]) 14 [(0, .ref (a 0))] [] := by
  refine v_aload_n (pc := 14) C 0 rfl rfl dX8_layFrom_14 ?_
  refine v_dup (pc := 15) C rfl dX8_layFrom_15 ?_
  refine v_get (pc := 16) C cfX8 rfl 0 4 rfl (by decide) wfX8_24 rfl dX8_layFrom_16 ?_
  refine v_iconst (pc := 19) C 1 ki_1 dX8_layFrom_19 ?_
  refine v_iadd (pc := 20) C dX8_layFrom_20 ?_
  obtain ⟨p1, es⟩ : ∃ y : St, y = p.sI 4 ((p.I 4) + 1) := ⟨_, rfl⟩
  have hw := hw p1 es
  refine v_put (pc := 21) C cfX8 rfl 0 4 (ty := .int) (w' := (fl [bRows E a p1, bPad E b q])) rfl (by subst es; rfl) (by decide) wfX8_24 rfl rfl rfl rfl (Nat.le_of_ble_eq_true rfl) dX8_layFrom_21 ?_
  exact v_vret (pc := 24) C p1 hA rfl hw dX8_layFrom_24
set_option maxHeartbeats 4000000 in
set_option maxRecDepth 100000 in
theorem vlX8_layFrom_28 (C : VC pr s m args meth c E A cX8_layFrom 6 none RX8) (hA : va_A w0 s.heap.size = A) (a : Nat → Nat) (b : Nat → Nat) (rec : Int32 → Int32 → Int32 → St → St → (St → Prop) → Prop) (q : St) {d : Nat} (hrec : ∀ (x2 x3 x4 : Int32) (p q : St) {Post : St → Prop} (_ : rec x2 x3 x4 p q Post) (sz : Nat), Met l yX8_layFrom (mW yX8_layFrom cX8_layFrom 6 none) (rmX8_layFrom d) (CPre E [.ref (a 0), .ref (b 0), .int x2, .int x3, .int x4] sz (fl [bRows E a p, bPad E b q])) (CQv E Post (fun u => (fl [bRows E a u, bPad E b q])) (fl [bRows E a p, bPad E b q]) sz) 0 0 (va_A (fl [bRows E a p, bPad E b q]) sz)) {Post : St → Prop} {KX : St → Prop} (hX : ∀ (p : St), KX p → V pr l e (rmX8_layFrom (d + 1)) s m args below meth c E A 6 0 0 (MQ below (CQv E Post (fun u => (fl [bRows E a u, bPad E b q])) w0 s.heap.size) args s 0 0 A) (fl [bRows E a p, bPad E b q]) 110 [] []) : ∀ (n : Nat) (x2 : Int32) (x3 : Int32) (x4 : Int32) (x5 : Int32) (p : St), wLX8_layFrom_28 rec q Post KX n (x2, x3, x4, x5, p) → V pr l e (rmX8_layFrom (d + 1)) s m args below meth c E A 6 0 0 (MQ below (CQv E Post (fun u => (fl [bRows E a u, bPad E b q])) w0 s.heap.size) args s 0 0 A) (fl [bRows E a p, bPad E b q]) 28 [(0, .ref (a 0)), (1, .ref (b 0)), (2, .int x2), (3, .int x3), (4, .int x4), (5, .int x5)] [] := by
  intro n
  induction n with
  | zero => intro x2 x3 x4 x5 p hw; exact absurd hw id
  | succ n hself =>
    intro x2 x3 x4 x5 p hw
    have hw : wlX8_layFrom_28 rec q Post KX (wLX8_layFrom_28 rec q Post KX n) x2 x3 x4 x5 p := hw
    refine v_iload (pc := 28) C 5 rfl dX8_layFrom_28 ?_
    refine v_aload_n (pc := 30) C 1 rfl rfl dX8_layFrom_30 ?_
    refine v_getN (pc := 31) C cfX4 rfl 5 3 rfl (by decide) wfX8_28 rfl dX8_layFrom_31 ?_
    refine v_icmp_ge (pc := 34) C 110 (by decide) dX8_layFrom_34 (fun hc => ?_) (fun hc => ?_)
    · have hw := hw.1 hc
      refine v_sub (lv' := []) [] rfl ?_
      exact hX p hw
    · have hw := hw.2 hc
      refine v_aload_n (pc := 37) C 0 rfl rfl dX8_layFrom_37 ?_
      refine v_get (pc := 38) C cfX8 rfl 0 4 rfl (by decide) wfX8_24 rfl dX8_layFrom_38 ?_
      refine v_iload (pc := 41) C 4 rfl dX8_layFrom_41 ?_
      refine v_icmp_ge (pc := 43) C 110 (by decide) dX8_layFrom_43 (fun hc => ?_) (fun hc => ?_)
      · have hw := hw.1 hc
        refine v_sub (lv' := []) [] rfl ?_
        exact hX p hw
      · have hw := hw.2 hc
        refine v_iload_n (pc := 46) C 3 rfl rfl dX8_layFrom_46 ?_
        refine v_iload (pc := 47) C 5 rfl dX8_layFrom_47 ?_
        refine v_ishr (pc := 49) C dX8_layFrom_49 ?_
        refine v_iconst (pc := 50) C 1 ki_1 dX8_layFrom_50 ?_
        refine v_iand (pc := 51) C dX8_layFrom_51 ?_
        refine v_if_ne (pc := 52) C 104 (by decide) dX8_layFrom_52 (fun hc => ?_) (fun hc => ?_)
        · have hw := hw.1 hc
          obtain ⟨x5_2, ex⟩ : ∃ y : Int32, y = x5 + 1 := ⟨_, rfl⟩
          have hw := hw x5_2 ex
          refine v_iinc (pc := 104) C 5 rfl (by rw [ex, ki_1]) [(5, .int x5_2), (0, .ref (a 0)), (1, .ref (b 0)), (2, .int x2), (3, .int x3), (4, .int x4)] rfl (by decide) dX8_layFrom_104 ?_
          refine v_goto (pc := 107) C 28 (by decide) dX8_layFrom_107 ?_
          refine v_sub (lv' := [(0, .ref (a 0)), (1, .ref (b 0)), (2, .int x2), (3, .int x3), (4, .int x4), (5, .int x5_2)]) [1, 2, 3, 4, 5, 0] rfl ?_
          exact hself x2 x3 x4 x5_2 p hw
        · have hw := hw.2 hc
          refine v_aload_n (pc := 55) C 0 rfl rfl dX8_layFrom_55 ?_
          refine v_get (pc := 56) C cfX8 rfl 0 0 rfl (by decide) wfX8_9 rfl dX8_layFrom_56 ?_
          refine v_iload_n (pc := 59) C 2 rfl rfl dX8_layFrom_59 ?_
          refine v_iload (pc := 60) C 5 rfl dX8_layFrom_60 ?_
          obtain ⟨hg, hw⟩ := hw
          obtain ⟨p3, es⟩ : ∃ y : St, y = p.sA 0 (upd (p.A 0) x2.toNatClampNeg x5) := ⟨_, rfl⟩
          have hw := hw p3 es
          refine v_iast (pc := 62) C 1 (w' := (fl [bRows E a p3, bPad E b q])) rfl rfl (by subst es; rfl) hg dX8_layFrom_62 ?_
          refine v_aload_n (pc := 63) C 0 rfl rfl dX8_layFrom_63 ?_
          refine v_get (pc := 64) C cfX8 rfl 0 1 rfl (by decide) wfX8_15 rfl dX8_layFrom_64 ?_
          refine v_iload (pc := 67) C 5 rfl dX8_layFrom_67 ?_
          refine v_iload_n (pc := 69) C 2 rfl rfl dX8_layFrom_69 ?_
          obtain ⟨hg, hw⟩ := hw
          obtain ⟨p4, es⟩ : ∃ y : St, y = p3.sA 1 (upd (p3.A 1) x5.toNatClampNeg x2) := ⟨_, rfl⟩
          have hw := hw p4 es
          refine v_iast (pc := 70) C 2 (w' := (fl [bRows E a p4, bPad E b q])) rfl rfl (by subst es; rfl) hg dX8_layFrom_70 ?_
          refine v_aload_n (pc := 71) C 0 rfl rfl dX8_layFrom_71 ?_
          refine v_aload_n (pc := 72) C 1 rfl rfl dX8_layFrom_72 ?_
          refine v_iload (pc := 73) C 5 rfl dX8_layFrom_73 ?_
          refine v_iload_n (pc := 75) C 2 rfl rfl dX8_layFrom_75 ?_
          refine v_iload_n (pc := 76) C 3 rfl rfl dX8_layFrom_76 ?_
          refine v_iconst (pc := 77) C 1 ki_1 dX8_layFrom_77 ?_
          refine v_iload (pc := 78) C 5 rfl dX8_layFrom_78 ?_
          refine v_ishl (pc := 80) C dX8_layFrom_80 ?_
          refine v_ior (pc := 81) C dX8_layFrom_81 ?_
          refine v_goAi (pc := 82) C (wc' := (fun (u : St) => (fl [bRows E a u, bPad E b q]))) (fun _ => rfl) (v_runVA (pc := 82) C [.ref (b 0), .int x5, .int x2, .int (x3 ||| ((1 : Int32) <<< (x5 &&& 31)))] [] (fun sz => ctX8_mayLie l E a b x5 x2 (x3 ||| ((1 : Int32) <<< (x5 &&& 31))) p4 q hw sz) mfX8_mayLie mvX8_mayLie wmX8_41 rfl ⟨by simp only [rmX8_layFrom, rmX8_mayLie]; omega, by simp only [rmX8_layFrom, rmX8_mayLie]; omega⟩ ⟨rfl, rfl⟩ 0 (ci := 8) (qc := (RX8, TX8, 5)) rfl rfl rfl rfl (Nat.le_of_ble_eq_true rfl) ⟨Nat.zero_le _, Nat.zero_le _⟩ dX8_layFrom_82) (fun r5 p6 hw => ?_)
          refine v_if_eq (pc := 85) C 104 (by decide) dX8_layFrom_85 (fun hc => ?_) (fun hc => ?_)
          · have hw := hw.1 hc
            obtain ⟨x5_7, ex⟩ : ∃ y : Int32, y = x5 + 1 := ⟨_, rfl⟩
            have hw := hw x5_7 ex
            refine v_iinc (pc := 104) C 5 rfl (by rw [ex, ki_1]) [(5, .int x5_7), (0, .ref (a 0)), (1, .ref (b 0)), (2, .int x2), (3, .int x3), (4, .int x4)] rfl (by decide) dX8_layFrom_104 ?_
            refine v_goto (pc := 107) C 28 (by decide) dX8_layFrom_107 ?_
            refine v_sub (lv' := [(0, .ref (a 0)), (1, .ref (b 0)), (2, .int x2), (3, .int x3), (4, .int x4), (5, .int x5_7)]) [1, 2, 3, 4, 5, 0] rfl ?_
            exact hself x2 x3 x4 x5_7 p6 hw
          · have hw := hw.2 hc
            refine v_aload_n (pc := 88) C 0 rfl rfl dX8_layFrom_88 ?_
            refine v_aload_n (pc := 89) C 1 rfl rfl dX8_layFrom_89 ?_
            refine v_iload_n (pc := 90) C 2 rfl rfl dX8_layFrom_90 ?_
            refine v_iconst (pc := 91) C 1 ki_1 dX8_layFrom_91 ?_
            refine v_iadd (pc := 92) C dX8_layFrom_92 ?_
            refine v_iload_n (pc := 93) C 3 rfl rfl dX8_layFrom_93 ?_
            refine v_iconst (pc := 94) C 1 ki_1 dX8_layFrom_94 ?_
            refine v_iload (pc := 95) C 5 rfl dX8_layFrom_95 ?_
            refine v_ishl (pc := 97) C dX8_layFrom_97 ?_
            refine v_ior (pc := 98) C dX8_layFrom_98 ?_
            refine v_iload (pc := 99) C 4 rfl dX8_layFrom_99 ?_
            refine v_goAv (pc := 101) C (wc' := (fun (u : St) => (fl [bRows E a u, bPad E b q]))) (fun _ => rfl) (v_runVA (pc := 101) C [.ref (b 0), .int (x2 + 1), .int (x3 ||| ((1 : Int32) <<< (x5 &&& 31))), .int x4] [] (fun sz => hrec (x2 + 1) (x3 ||| ((1 : Int32) <<< (x5 &&& 31))) x4 p6 q hw sz) mfX8_layFrom mvX8_layFrom wmX8_37 rfl ⟨by simp only [rmX8_layFrom, rmX8_layFrom]; omega, by simp only [rmX8_layFrom, rmX8_layFrom]; omega⟩ ⟨rfl, rfl⟩ 0 (ci := 8) (qc := (RX8, TX8, 5)) rfl rfl rfl rfl (Nat.le_of_ble_eq_true rfl) ⟨Nat.zero_le _, Nat.zero_le _⟩ dX8_layFrom_101) (fun p8 hw => ?_)
            obtain ⟨x5_9, ex⟩ : ∃ y : Int32, y = x5 + 1 := ⟨_, rfl⟩
            have hw := hw x5_9 ex
            refine v_iinc (pc := 104) C 5 rfl (by rw [ex, ki_1]) [(5, .int x5_9), (0, .ref (a 0)), (1, .ref (b 0)), (2, .int x2), (3, .int x3), (4, .int x4)] rfl (by decide) dX8_layFrom_104 ?_
            refine v_goto (pc := 107) C 28 (by decide) dX8_layFrom_107 ?_
            refine v_sub (lv' := [(0, .ref (a 0)), (1, .ref (b 0)), (2, .int x2), (3, .int x3), (4, .int x4), (5, .int x5_9)]) [1, 2, 3, 4, 5, 0] rfl ?_
            exact hself x2 x3 x4 x5_9 p8 hw
set_option maxHeartbeats 4000000 in
set_option maxRecDepth 100000 in
theorem ctX8_layFrom (l : Launch) (E : VE) (a : Nat → Nat) (b : Nat → Nat) : ∀ (d : Nat) (x2 : Int32) (x3 : Int32) (x4 : Int32) (p : St) (q : St) {Post : St → Prop} (_ : wpX8_layFrom d x2 x3 x4 p q Post) (sz : Nat), Met l yX8_layFrom (mW yX8_layFrom cX8_layFrom 6 none) (rmX8_layFrom d) (CPre E [.ref (a 0), .ref (b 0), .int x2, .int x3, .int x4] sz (fl [bRows E a p, bPad E b q])) (CQv E Post (fun u => (fl [bRows E a u, bPad E b q])) (fl [bRows E a p, bPad E b q]) sz) 0 0 (va_A (fl [bRows E a p, bPad E b q]) sz) := by
  intro d
  induction d with
  | zero => intro x2 x3 x4 p q Post hw sz; exact absurd hw id
  | succ d hrec =>
  intro x2 x3 x4 p q Post hw sz
  have hw : wbX8_layFrom (wpX8_layFrom d) x2 x3 x4 p q Post := hw
  generalize wpX8_layFrom d = rec at hrec hw
  refine v_met (by decide) (Nat.le_of_ble_eq_true rfl) ?_
  intro pr e s m below meth c A hsz hA C
  subst hsz
  refine v_iload_n (pc := 0) C 2 rfl rfl dX8_layFrom_0 ?_
  refine v_aload_n (pc := 1) C 1 rfl rfl dX8_layFrom_1 ?_
  refine v_getN (pc := 2) C cfX4 rfl 5 3 rfl (by decide) wfX8_28 rfl dX8_layFrom_2 ?_
  refine v_icmp_ge (pc := 5) C 14 (by decide) dX8_layFrom_5 (fun hc => ?_) (fun hc => ?_)
  · have hw := hw.1 hc
    refine v_sub (lv' := [(0, .ref (a 0))]) [0] rfl ?_
    exact vjX8_layFrom_14 C hA a b rec q hrec p hw
  · have hw := hw.2 hc
    refine v_iload_n (pc := 8) C 2 rfl rfl dX8_layFrom_8 ?_
    refine v_bipush (pc := 9) C 6 kb_6 dX8_layFrom_9 ?_
    refine v_icmp_lt (pc := 11) C 25 (by decide) dX8_layFrom_11 (fun hc => ?_) (fun hc => ?_)
    · have hw := hw.1 hc
      refine v_iconst (pc := 25) C 0 ki_0 dX8_layFrom_25 ?_
      refine v_istore (pc := 26) C [(5, .int 0), (0, .ref (a 0)), (1, .ref (b 0)), (2, .int x2), (3, .int x3), (4, .int x4)] rfl (by decide) dX8_layFrom_26 ?_
      obtain ⟨n, hw⟩ := hw
      refine v_sub (lv' := [(0, .ref (a 0)), (1, .ref (b 0)), (2, .int x2), (3, .int x3), (4, .int x4), (5, .int 0)]) [1, 2, 3, 4, 5, 0] rfl ?_
      refine vlX8_layFrom_28 C hA a b rec q hrec (fun p10 hw => ?_) n x2 x3 x4 0 p hw
      exact v_vret (pc := 110) C p10 hA rfl hw dX8_layFrom_110
    · have hw := hw.2 hc
      refine v_sub (lv' := [(0, .ref (a 0))]) [0] rfl ?_
      exact vjX8_layFrom_14 C hA a b rec q hrec p hw
set_option maxHeartbeats 4000000 in
set_option maxRecDepth 100000 in
theorem vlX8_search_13 (C : VC pr s m args meth c E A cX8_search 5 (some .int) RX8) (hA : va_A w0 s.heap.size = A) (a : Nat → Nat) (b : Nat → Nat) (q : St) {Post : Int32 → St → Prop} {KX : Int32 → Int32 → St → Prop} (hX : ∀ (x2 : Int32) (x3 : Int32) (p : St), KX x2 x3 p → V pr l e rmX8_search s m args below meth c E A 5 0 0 (MQ below (CQi E Post (fun u => (fl [bRows E a u, bPad E b q])) w0 s.heap.size) args s 0 0 A) (fl [bRows E a p, bPad E b q]) 45 [(0, .ref (a 0)), (1, .ref (b 0)), (2, .int x2), (3, .int x3)] []) : ∀ (n : Nat) (x2 : Int32) (x3 : Int32) (x4 : Int32) (p : St), wLX8_search_13 q Post KX n (x2, x3, x4, p) → V pr l e rmX8_search s m args below meth c E A 5 0 0 (MQ below (CQi E Post (fun u => (fl [bRows E a u, bPad E b q])) w0 s.heap.size) args s 0 0 A) (fl [bRows E a p, bPad E b q]) 13 [(0, .ref (a 0)), (1, .ref (b 0)), (2, .int x2), (3, .int x3), (4, .int x4)] [] := by
  intro n
  induction n with
  | zero => intro x2 x3 x4 p hw; exact absurd hw id
  | succ n hself =>
    intro x2 x3 x4 p hw
    have hw : wlX8_search_13 q Post KX (wLX8_search_13 q Post KX n) x2 x3 x4 p := hw
    refine v_iload (pc := 13) C 4 rfl dX8_search_13 ?_
    refine v_bipush (pc := 15) C 10 kb_10 dX8_search_15 ?_
    refine v_icmp_ge (pc := 17) C 45 (by decide) dX8_search_17 (fun hc => ?_) (fun hc => ?_)
    · have hw := hw.1 hc
      refine v_sub (lv' := [(0, .ref (a 0)), (1, .ref (b 0)), (2, .int x2), (3, .int x3)]) [0, 1, 2, 3] rfl ?_
      exact hX x2 x3 p hw
    · have hw := hw.2 hc
      refine v_aload_n (pc := 20) C 0 rfl rfl dX8_search_20 ?_
      refine v_get (pc := 21) C cfX8 rfl 0 2 rfl (by decide) wfX8_18 rfl dX8_search_21 ?_
      refine v_iload_n (pc := 24) C 3 rfl rfl dX8_search_24 ?_
      refine v_bipush (pc := 25) C 10 kb_10 dX8_search_25 ?_
      refine v_imul (pc := 27) C dX8_search_27 ?_
      refine v_iload (pc := 28) C 4 rfl dX8_search_28 ?_
      refine v_iadd (pc := 30) C dX8_search_30 ?_
      refine v_aload_n (pc := 31) C 1 rfl rfl dX8_search_31 ?_
      refine v_iload_n (pc := 32) C 3 rfl rfl dX8_search_32 ?_
      refine v_iload (pc := 33) C 4 rfl dX8_search_33 ?_
      refine v_goBi (pc := 35) C (bs := [bRows E a p, bPad E b q]) (cs := [bPad E b q]) (cs' := (fun (_ : Unit) => [bPad E b q])) (bs' := (fun (_ : Unit) => [bRows E a p, bPad E b q])) (w' := (fun (_ : Unit) => (fl [bRows E a p, bPad E b q]))) [1] rfl rfl (fun _ => rfl) (fun _ => rfl) (fun _ => rfl) (v_runVB (pc := 35) C [.int x3, .int x4] [.int ((x3 * 10) + x4), .ref (a 3)] (fun sz => ctX4_dentedAtLeast l E b x3 x4 q hw sz) [1] rfl rfl rfl mfX4_dentedAtLeast mvX4_dentedAtLeast wmX8_33 rfl ⟨Nat.le_of_ble_eq_true rfl, Nat.le_of_ble_eq_true rfl⟩ ⟨rfl, rfl⟩ 5 (ci := 4) (qc := (RX4, TX4, 12)) rfl rfl rfl rfl (Nat.le_of_ble_eq_true rfl) ⟨Nat.zero_le _, Nat.zero_le _⟩ dX8_search_35) (fun r1 _ hw => ?_)
      obtain ⟨hg, hw⟩ := hw
      obtain ⟨p2, es⟩ : ∃ y : St, y = p.sA 2 (upd (p.A 2) ((x3 * 10) + x4).toNatClampNeg r1) := ⟨_, rfl⟩
      have hw := hw p2 es
      refine v_iast (pc := 38) C 3 (w' := (fl [bRows E a p2, bPad E b q])) rfl rfl (by subst es; rfl) hg dX8_search_38 ?_
      obtain ⟨x4_3, ex⟩ : ∃ y : Int32, y = x4 + 1 := ⟨_, rfl⟩
      have hw := hw x4_3 ex
      refine v_iinc (pc := 39) C 4 rfl (by rw [ex, ki_1]) [(4, .int x4_3), (0, .ref (a 0)), (1, .ref (b 0)), (2, .int x2), (3, .int x3)] rfl (by decide) dX8_search_39 ?_
      refine v_goto (pc := 42) C 13 (by decide) dX8_search_42 ?_
      refine v_sub (lv' := [(0, .ref (a 0)), (1, .ref (b 0)), (2, .int x2), (3, .int x3), (4, .int x4_3)]) [1, 2, 3, 4, 0] rfl ?_
      exact hself x2 x3 x4_3 p2 hw
set_option maxHeartbeats 4000000 in
set_option maxRecDepth 100000 in
theorem vlX8_search_2 (C : VC pr s m args meth c E A cX8_search 5 (some .int) RX8) (hA : va_A w0 s.heap.size = A) (a : Nat → Nat) (b : Nat → Nat) (q : St) {Post : Int32 → St → Prop} {KX : Int32 → St → Prop} (hX : ∀ (x2 : Int32) (p : St), KX x2 p → V pr l e rmX8_search s m args below meth c E A 5 0 0 (MQ below (CQi E Post (fun u => (fl [bRows E a u, bPad E b q])) w0 s.heap.size) args s 0 0 A) (fl [bRows E a p, bPad E b q]) 51 [(0, .ref (a 0)), (1, .ref (b 0)), (2, .int x2)] []) : ∀ (n : Nat) (x2 : Int32) (x3 : Int32) (p : St), wLX8_search_2 q Post KX n (x2, x3, p) → V pr l e rmX8_search s m args below meth c E A 5 0 0 (MQ below (CQi E Post (fun u => (fl [bRows E a u, bPad E b q])) w0 s.heap.size) args s 0 0 A) (fl [bRows E a p, bPad E b q]) 2 [(0, .ref (a 0)), (1, .ref (b 0)), (2, .int x2), (3, .int x3)] [] := by
  intro n
  induction n with
  | zero => intro x2 x3 p hw; exact absurd hw id
  | succ n hself =>
    intro x2 x3 p hw
    have hw : wlX8_search_2 q Post KX (wLX8_search_2 q Post KX n) x2 x3 p := hw
    refine v_iload_n (pc := 2) C 3 rfl rfl dX8_search_2 ?_
    refine v_aload_n (pc := 3) C 1 rfl rfl dX8_search_3 ?_
    refine v_getN (pc := 4) C cfX4 rfl 5 3 rfl (by decide) wfX8_28 rfl dX8_search_4 ?_
    refine v_icmp_ge (pc := 7) C 51 (by decide) dX8_search_7 (fun hc => ?_) (fun hc => ?_)
    · have hw := hw.1 hc
      refine v_sub (lv' := [(0, .ref (a 0)), (1, .ref (b 0)), (2, .int x2)]) [0, 1, 2] rfl ?_
      exact hX x2 p hw
    · have hw := hw.2 hc
      refine v_iconst (pc := 10) C 1 ki_1 dX8_search_10 ?_
      refine v_istore (pc := 11) C [(4, .int 1), (0, .ref (a 0)), (1, .ref (b 0)), (2, .int x2), (3, .int x3)] rfl (by decide) dX8_search_11 ?_
      obtain ⟨n, hw⟩ := hw
      refine v_sub (lv' := [(0, .ref (a 0)), (1, .ref (b 0)), (2, .int x2), (3, .int x3), (4, .int 1)]) [1, 2, 3, 4, 0] rfl ?_
      refine vlX8_search_13 C hA a b q (fun y4 y5 p6 hw => ?_) n x2 x3 1 p hw
      obtain ⟨x3_7, ex⟩ : ∃ y : Int32, y = y5 + 1 := ⟨_, rfl⟩
      have hw := hw x3_7 ex
      refine v_iinc (pc := 45) C 3 rfl (by rw [ex, ki_1]) [(3, .int x3_7), (0, .ref (a 0)), (1, .ref (b 0)), (2, .int y4)] rfl (by decide) dX8_search_45 ?_
      refine v_goto (pc := 48) C 2 (by decide) dX8_search_48 ?_
      refine v_sub (lv' := [(0, .ref (a 0)), (1, .ref (b 0)), (2, .int y4), (3, .int x3_7)]) [1, 2, 3, 0] rfl ?_
      exact hself y4 x3_7 p6 hw
set_option maxHeartbeats 4000000 in
set_option maxRecDepth 100000 in
theorem ctX8_search (l : Launch) (E : VE) (a : Nat → Nat) (b : Nat → Nat) (x2 : Int32) (p : St) (q : St)  {Post : Int32 → St → Prop} (hw : wpX8_search x2 p q Post) (sz : Nat) : Met l yX8_search (mW yX8_search cX8_search 5 (some .int)) rmX8_search (CPre E [.ref (a 0), .ref (b 0), .int x2] sz (fl [bRows E a p, bPad E b q])) (CQi E Post (fun u => (fl [bRows E a u, bPad E b q])) (fl [bRows E a p, bPad E b q]) sz) 0 0 (va_A (fl [bRows E a p, bPad E b q]) sz) := by
  refine v_met (by decide) (Nat.le_of_ble_eq_true rfl) ?_
  intro pr e s m below meth c A hsz hA C
  subst hsz
  refine v_iconst (pc := 0) C 0 ki_0 dX8_search_0 ?_
  refine v_istore_n (pc := 1) C [(3, .int 0), (0, .ref (a 0)), (1, .ref (b 0)), (2, .int x2)] rfl rfl (by decide) dX8_search_1 ?_
  obtain ⟨n, hw⟩ := hw
  refine v_sub (lv' := [(0, .ref (a 0)), (1, .ref (b 0)), (2, .int x2), (3, .int 0)]) [1, 2, 3, 0] rfl ?_
  refine vlX8_search_2 C hA a b q (fun y8 p9 hw => ?_) n x2 0 p hw
  refine v_aload_n (pc := 51) C 0 rfl rfl dX8_search_51 ?_
  refine v_iconst (pc := 52) C 0 ki_0 dX8_search_52 ?_
  obtain ⟨p10, es⟩ : ∃ y : St, y = p9.sI 4 0 := ⟨_, rfl⟩
  have hw := hw p10 es
  refine v_put (pc := 53) C cfX8 rfl 0 4 (ty := .int) (w' := (fl [bRows E a p10, bPad E b q])) rfl (by subst es; rfl) (by decide) wfX8_24 rfl rfl rfl rfl (Nat.le_of_ble_eq_true rfl) dX8_search_53 ?_
  refine v_aload_n (pc := 56) C 0 rfl rfl dX8_search_56 ?_
  refine v_aload_n (pc := 57) C 1 rfl rfl dX8_search_57 ?_
  refine v_iconst (pc := 58) C 0 ki_0 dX8_search_58 ?_
  refine v_iconst (pc := 59) C 0 ki_0 dX8_search_59 ?_
  refine v_iload_n (pc := 60) C 2 rfl rfl dX8_search_60 ?_
  refine v_goAv (pc := 61) C (wc' := (fun (u : St) => (fl [bRows E a u, bPad E b q]))) (fun _ => rfl) (v_runVA (pc := 61) C [.ref (b 0), .int 0, .int 0, .int y8] [] (fun sz => ctX8_layFrom l E a b 7 0 0 y8 p10 q hw sz) mfX8_layFrom mvX8_layFrom wmX8_37 rfl ⟨Nat.le_of_ble_eq_true rfl, Nat.le_of_ble_eq_true rfl⟩ ⟨rfl, rfl⟩ 0 (ci := 8) (qc := (RX8, TX8, 5)) rfl rfl rfl rfl (Nat.le_of_ble_eq_true rfl) ⟨Nat.zero_le _, Nat.zero_le _⟩ dX8_search_61) (fun p11 hw => ?_)
  refine v_aload_n (pc := 64) C 0 rfl rfl dX8_search_64 ?_
  refine v_get (pc := 65) C cfX8 rfl 0 4 rfl (by decide) wfX8_24 rfl dX8_search_65 ?_
  exact v_ireti (pc := 68) C p11 hA rfl hw dX8_search_68
end

section
-- ===== PART A: goes FIRST, ahead of the names: the tables' words, and 'selects' of the private methods out of them =====
/-- a private method of a class that the tables say can be made, by its rows of tables_1 -/
def lw_okq (q : MethodName × Nat) : Prop := (q.1.cls ≠ "java/lang/invoke/MethodHandle" ∧ q.1.cls ≠ "java/lang/invoke/VarHandle") ∧ Cond.instantiable q.1.cls q.2 ∈ tables_1 ∧ Cond.privateMethod q.1 ∈ tables_1 ∧ Cond.instanceMethod q.1 ∈ tables_1
theorem lw_p0 : lw_okq (⟨"PressedPad", "bad", "(I)I"⟩, 15) := ⟨⟨by decide +kernel, by decide +kernel⟩, List.mem_of_getElem? (i := 21) (by decide +kernel), List.mem_of_getElem? (i := 267) (by decide +kernel), List.mem_of_getElem? (i := 268) (by decide +kernel)⟩
theorem lw_p1 : lw_okq (⟨"PressedPad", "no", "()I"⟩, 15) := ⟨⟨by decide +kernel, by decide +kernel⟩, List.mem_of_getElem? (i := 21) (by decide +kernel), List.mem_of_getElem? (i := 297) (by decide +kernel), List.mem_of_getElem? (i := 298) (by decide +kernel)⟩
theorem lw_p2 : lw_okq (⟨"PressedPad", "full", "()I"⟩, 15) := ⟨⟨by decide +kernel, by decide +kernel⟩, List.mem_of_getElem? (i := 21) (by decide +kernel), List.mem_of_getElem? (i := 305) (by decide +kernel), List.mem_of_getElem? (i := 306) (by decide +kernel)⟩
theorem lw_p3 : lw_okq (⟨"PressedPad$PenBox", "penOf", "(I)LPressedPad$Pencil;"⟩, 1) := ⟨⟨by decide +kernel, by decide +kernel⟩, List.mem_of_getElem? (i := 29) (by decide +kernel), List.mem_of_getElem? (i := 324) (by decide +kernel), List.mem_of_getElem? (i := 325) (by decide +kernel)⟩
theorem lw_p4 : lw_okq (⟨"PressedPad$Pad", "pressInto", "(III)V"⟩, 12) := ⟨⟨by decide +kernel, by decide +kernel⟩, List.mem_of_getElem? (i := 82) (by decide +kernel), List.mem_of_getElem? (i := 379) (by decide +kernel), List.mem_of_getElem? (i := 380) (by decide +kernel)⟩
theorem lw_p5 : lw_okq (⟨"PressedPad$Reader", "step", "()V"⟩, 8) := ⟨⟨by decide +kernel, by decide +kernel⟩, List.mem_of_getElem? (i := 184) (by decide +kernel), List.mem_of_getElem? (i := 426) (by decide +kernel), List.mem_of_getElem? (i := 427) (by decide +kernel)⟩
theorem lw_p6 : lw_okq (⟨"PressedPad$Reader", "isWithin", "(III)Z"⟩, 8) := ⟨⟨by decide +kernel, by decide +kernel⟩, List.mem_of_getElem? (i := 184) (by decide +kernel), List.mem_of_getElem? (i := 430) (by decide +kernel), List.mem_of_getElem? (i := 431) (by decide +kernel)⟩
theorem lw_p7 : lw_okq (⟨"PressedPad$Reader", "passWord", "()V"⟩, 8) := ⟨⟨by decide +kernel, by decide +kernel⟩, List.mem_of_getElem? (i := 184) (by decide +kernel), List.mem_of_getElem? (i := 434) (by decide +kernel), List.mem_of_getElem? (i := 435) (by decide +kernel)⟩
theorem lw_p8 : lw_okq (⟨"PressedPad$Reader", "passFigures", "()V"⟩, 8) := ⟨⟨by decide +kernel, by decide +kernel⟩, List.mem_of_getElem? (i := 184) (by decide +kernel), List.mem_of_getElem? (i := 438) (by decide +kernel), List.mem_of_getElem? (i := 439) (by decide +kernel)⟩
theorem lw_p9 : lw_okq (⟨"PressedPad$Reader", "readFirst", "(LPressedPad$Pad;)Z"⟩, 8) := ⟨⟨by decide +kernel, by decide +kernel⟩, List.mem_of_getElem? (i := 184) (by decide +kernel), List.mem_of_getElem? (i := 442) (by decide +kernel), List.mem_of_getElem? (i := 443) (by decide +kernel)⟩
theorem lw_p10 : lw_okq (⟨"PressedPad$Reader", "isWord", "(Ljava/lang/String;)Z"⟩, 8) := ⟨⟨by decide +kernel, by decide +kernel⟩, List.mem_of_getElem? (i := 184) (by decide +kernel), List.mem_of_getElem? (i := 447) (by decide +kernel), List.mem_of_getElem? (i := 448) (by decide +kernel)⟩
theorem lw_p11 : lw_okq (⟨"PressedPad$Reader", "isNumber", "(II)Z"⟩, 8) := ⟨⟨by decide +kernel, by decide +kernel⟩, List.mem_of_getElem? (i := 184) (by decide +kernel), List.mem_of_getElem? (i := 499) (by decide +kernel), List.mem_of_getElem? (i := 500) (by decide +kernel)⟩
theorem lw_p12 : lw_okq (⟨"PressedPad$Reader", "passStop", "()Z"⟩, 8) := ⟨⟨by decide +kernel, by decide +kernel⟩, List.mem_of_getElem? (i := 184) (by decide +kernel), List.mem_of_getElem? (i := 504) (by decide +kernel), List.mem_of_getElem? (i := 505) (by decide +kernel)⟩
theorem lw_p13 : lw_okq (⟨"PressedPad$Reader", "readItem", "(LPressedPad$Pad;LPressedPad$PenBox;)Z"⟩, 8) := ⟨⟨by decide +kernel, by decide +kernel⟩, List.mem_of_getElem? (i := 184) (by decide +kernel), List.mem_of_getElem? (i := 508) (by decide +kernel), List.mem_of_getElem? (i := 509) (by decide +kernel)⟩
theorem lw_p14 : lw_okq (⟨"PressedPad$Reader", "readCarbon", "(LPressedPad$Pad;)Z"⟩, 8) := ⟨⟨by decide +kernel, by decide +kernel⟩, List.mem_of_getElem? (i := 184) (by decide +kernel), List.mem_of_getElem? (i := 513) (by decide +kernel), List.mem_of_getElem? (i := 514) (by decide +kernel)⟩
theorem lw_p15 : lw_okq (⟨"PressedPad$Reader", "readPen", "()Z"⟩, 8) := ⟨⟨by decide +kernel, by decide +kernel⟩, List.mem_of_getElem? (i := 184) (by decide +kernel), List.mem_of_getElem? (i := 522) (by decide +kernel), List.mem_of_getElem? (i := 523) (by decide +kernel)⟩
def lw_privs_1 : List (MethodName × Nat) := [(⟨"PressedPad", "bad", "(I)I"⟩, 15), (⟨"PressedPad", "no", "()I"⟩, 15), (⟨"PressedPad", "full", "()I"⟩, 15), (⟨"PressedPad$PenBox", "penOf", "(I)LPressedPad$Pencil;"⟩, 1), (⟨"PressedPad$Pad", "pressInto", "(III)V"⟩, 12), (⟨"PressedPad$Reader", "step", "()V"⟩, 8), (⟨"PressedPad$Reader", "isWithin", "(III)Z"⟩, 8), (⟨"PressedPad$Reader", "passWord", "()V"⟩, 8), (⟨"PressedPad$Reader", "passFigures", "()V"⟩, 8), (⟨"PressedPad$Reader", "readFirst", "(LPressedPad$Pad;)Z"⟩, 8), (⟨"PressedPad$Reader", "isWord", "(Ljava/lang/String;)Z"⟩, 8), (⟨"PressedPad$Reader", "isNumber", "(II)Z"⟩, 8), (⟨"PressedPad$Reader", "passStop", "()Z"⟩, 8), (⟨"PressedPad$Reader", "readItem", "(LPressedPad$Pad;LPressedPad$PenBox;)Z"⟩, 8), (⟨"PressedPad$Reader", "readCarbon", "(LPressedPad$Pad;)Z"⟩, 8), (⟨"PressedPad$Reader", "readPen", "()Z"⟩, 8)]
theorem lw_r1 : ∀ q ∈ lw_privs_1, lw_okq q := List.forall_mem_cons.mpr ⟨lw_p0, List.forall_mem_cons.mpr ⟨lw_p1, List.forall_mem_cons.mpr ⟨lw_p2, List.forall_mem_cons.mpr ⟨lw_p3, List.forall_mem_cons.mpr ⟨lw_p4, List.forall_mem_cons.mpr ⟨lw_p5, List.forall_mem_cons.mpr ⟨lw_p6, List.forall_mem_cons.mpr ⟨lw_p7, List.forall_mem_cons.mpr ⟨lw_p8, List.forall_mem_cons.mpr ⟨lw_p9, List.forall_mem_cons.mpr ⟨lw_p10, List.forall_mem_cons.mpr ⟨lw_p11, List.forall_mem_cons.mpr ⟨lw_p12, List.forall_mem_cons.mpr ⟨lw_p13, List.forall_mem_cons.mpr ⟨lw_p14, List.forall_mem_cons.mpr ⟨lw_p15, fun _ h => absurd h List.not_mem_nil⟩⟩⟩⟩⟩⟩⟩⟩⟩⟩⟩⟩⟩⟩⟩⟩
theorem lw_p16 : lw_okq (⟨"PressedPad$Reader", "readCells", "()I"⟩, 8) := ⟨⟨by decide +kernel, by decide +kernel⟩, List.mem_of_getElem? (i := 184) (by decide +kernel), List.mem_of_getElem? (i := 526) (by decide +kernel), List.mem_of_getElem? (i := 527) (by decide +kernel)⟩
theorem lw_p17 : lw_okq (⟨"PressedPad", "wordsThatFit", "()I"⟩, 15) := ⟨⟨by decide +kernel, by decide +kernel⟩, List.mem_of_getElem? (i := 21) (by decide +kernel), List.mem_of_getElem? (i := 642) (by decide +kernel), List.mem_of_getElem? (i := 643) (by decide +kernel)⟩
theorem lw_p18 : lw_okq (⟨"PressedPad$Rows", "layFrom", "(LPressedPad$Pad;III)V"⟩, 5) := ⟨⟨by decide +kernel, by decide +kernel⟩, List.mem_of_getElem? (i := 162) (by decide +kernel), List.mem_of_getElem? (i := 663) (by decide +kernel), List.mem_of_getElem? (i := 664) (by decide +kernel)⟩
theorem lw_p19 : lw_okq (⟨"PressedPad$Rows", "mayLie", "(LPressedPad$Pad;III)Z"⟩, 5) := ⟨⟨by decide +kernel, by decide +kernel⟩, List.mem_of_getElem? (i := 162) (by decide +kernel), List.mem_of_getElem? (i := 667) (by decide +kernel), List.mem_of_getElem? (i := 668) (by decide +kernel)⟩
theorem lw_p20 : lw_okq (⟨"PressedPad", "keepFraction", "(JJ)V"⟩, 15) := ⟨⟨by decide +kernel, by decide +kernel⟩, List.mem_of_getElem? (i := 21) (by decide +kernel), List.mem_of_getElem? (i := 690) (by decide +kernel), List.mem_of_getElem? (i := 691) (by decide +kernel)⟩
theorem lw_p21 : lw_okq (⟨"PressedPad", "sumOfLast", "()I"⟩, 15) := ⟨⟨by decide +kernel, by decide +kernel⟩, List.mem_of_getElem? (i := 21) (by decide +kernel), List.mem_of_getElem? (i := 714) (by decide +kernel), List.mem_of_getElem? (i := 715) (by decide +kernel)⟩
theorem lw_p22 : lw_okq (⟨"PressedPad", "imageOf", "(I)LPressedPad$Pad;"⟩, 15) := ⟨⟨by decide +kernel, by decide +kernel⟩, List.mem_of_getElem? (i := 21) (by decide +kernel), List.mem_of_getElem? (i := 726) (by decide +kernel), List.mem_of_getElem? (i := 727) (by decide +kernel)⟩
theorem lw_p23 : lw_okq (⟨"PressedPad", "amountOf", "(I)I"⟩, 15) := ⟨⟨by decide +kernel, by decide +kernel⟩, List.mem_of_getElem? (i := 21) (by decide +kernel), List.mem_of_getElem? (i := 742) (by decide +kernel), List.mem_of_getElem? (i := 743) (by decide +kernel)⟩
theorem lw_p24 : lw_okq (⟨"PressedPadModel", "bad", "()I"⟩, 30) := ⟨⟨by decide +kernel, by decide +kernel⟩, List.mem_of_getElem? (i := 757) (by decide +kernel), List.mem_of_getElem? (i := 863) (by decide +kernel), List.mem_of_getElem? (i := 864) (by decide +kernel)⟩
theorem lw_p25 : lw_okq (⟨"PressedPadModel", "refuse", "(II)I"⟩, 30) := ⟨⟨by decide +kernel, by decide +kernel⟩, List.mem_of_getElem? (i := 757) (by decide +kernel), List.mem_of_getElem? (i := 867) (by decide +kernel), List.mem_of_getElem? (i := 868) (by decide +kernel)⟩
theorem lw_p26 : lw_okq (⟨"PressedPadModel", "empty", "()V"⟩, 30) := ⟨⟨by decide +kernel, by decide +kernel⟩, List.mem_of_getElem? (i := 757) (by decide +kernel), List.mem_of_getElem? (i := 871) (by decide +kernel), List.mem_of_getElem? (i := 872) (by decide +kernel)⟩
theorem lw_p27 : lw_okq (⟨"PressedPadModel", "note", "()V"⟩, 30) := ⟨⟨by decide +kernel, by decide +kernel⟩, List.mem_of_getElem? (i := 757) (by decide +kernel), List.mem_of_getElem? (i := 889) (by decide +kernel), List.mem_of_getElem? (i := 890) (by decide +kernel)⟩
theorem lw_p28 : lw_okq (⟨"PressedPadModel", "writeNow", "(III)V"⟩, 30) := ⟨⟨by decide +kernel, by decide +kernel⟩, List.mem_of_getElem? (i := 757) (by decide +kernel), List.mem_of_getElem? (i := 893) (by decide +kernel), List.mem_of_getElem? (i := 894) (by decide +kernel)⟩
theorem lw_p29 : lw_okq (⟨"PressedPadModel", "dentAll", "(III)V"⟩, 30) := ⟨⟨by decide +kernel, by decide +kernel⟩, List.mem_of_getElem? (i := 757) (by decide +kernel), List.mem_of_getElem? (i := 897) (by decide +kernel), List.mem_of_getElem? (i := 898) (by decide +kernel)⟩
theorem lw_p30 : lw_okq (⟨"PressedPadModel", "readPad", "()Z"⟩, 30) := ⟨⟨by decide +kernel, by decide +kernel⟩, List.mem_of_getElem? (i := 757) (by decide +kernel), List.mem_of_getElem? (i := 942) (by decide +kernel), List.mem_of_getElem? (i := 943) (by decide +kernel)⟩
theorem lw_p31 : lw_okq (⟨"PressedPadModel", "nextToken", "()V"⟩, 30) := ⟨⟨by decide +kernel, by decide +kernel⟩, List.mem_of_getElem? (i := 757) (by decide +kernel), List.mem_of_getElem? (i := 946) (by decide +kernel), List.mem_of_getElem? (i := 947) (by decide +kernel)⟩
def lw_privs_2 : List (MethodName × Nat) := [(⟨"PressedPad$Reader", "readCells", "()I"⟩, 8), (⟨"PressedPad", "wordsThatFit", "()I"⟩, 15), (⟨"PressedPad$Rows", "layFrom", "(LPressedPad$Pad;III)V"⟩, 5), (⟨"PressedPad$Rows", "mayLie", "(LPressedPad$Pad;III)Z"⟩, 5), (⟨"PressedPad", "keepFraction", "(JJ)V"⟩, 15), (⟨"PressedPad", "sumOfLast", "()I"⟩, 15), (⟨"PressedPad", "imageOf", "(I)LPressedPad$Pad;"⟩, 15), (⟨"PressedPad", "amountOf", "(I)I"⟩, 15), (⟨"PressedPadModel", "bad", "()I"⟩, 30), (⟨"PressedPadModel", "refuse", "(II)I"⟩, 30), (⟨"PressedPadModel", "empty", "()V"⟩, 30), (⟨"PressedPadModel", "note", "()V"⟩, 30), (⟨"PressedPadModel", "writeNow", "(III)V"⟩, 30), (⟨"PressedPadModel", "dentAll", "(III)V"⟩, 30), (⟨"PressedPadModel", "readPad", "()Z"⟩, 30), (⟨"PressedPadModel", "nextToken", "()V"⟩, 30)]
theorem lw_r2 : ∀ q ∈ lw_privs_2, lw_okq q := List.forall_mem_cons.mpr ⟨lw_p16, List.forall_mem_cons.mpr ⟨lw_p17, List.forall_mem_cons.mpr ⟨lw_p18, List.forall_mem_cons.mpr ⟨lw_p19, List.forall_mem_cons.mpr ⟨lw_p20, List.forall_mem_cons.mpr ⟨lw_p21, List.forall_mem_cons.mpr ⟨lw_p22, List.forall_mem_cons.mpr ⟨lw_p23, List.forall_mem_cons.mpr ⟨lw_p24, List.forall_mem_cons.mpr ⟨lw_p25, List.forall_mem_cons.mpr ⟨lw_p26, List.forall_mem_cons.mpr ⟨lw_p27, List.forall_mem_cons.mpr ⟨lw_p28, List.forall_mem_cons.mpr ⟨lw_p29, List.forall_mem_cons.mpr ⟨lw_p30, List.forall_mem_cons.mpr ⟨lw_p31, fun _ h => absurd h List.not_mem_nil⟩⟩⟩⟩⟩⟩⟩⟩⟩⟩⟩⟩⟩⟩⟩⟩
theorem lw_p32 : lw_okq (⟨"PressedPadModel", "byteAt", "(I)I"⟩, 30) := ⟨⟨by decide +kernel, by decide +kernel⟩, List.mem_of_getElem? (i := 757) (by decide +kernel), List.mem_of_getElem? (i := 950) (by decide +kernel), List.mem_of_getElem? (i := 951) (by decide +kernel)⟩
theorem lw_p33 : lw_okq (⟨"PressedPadModel", "isWord", "(IIIIII)Z"⟩, 30) := ⟨⟨by decide +kernel, by decide +kernel⟩, List.mem_of_getElem? (i := 757) (by decide +kernel), List.mem_of_getElem? (i := 956) (by decide +kernel), List.mem_of_getElem? (i := 957) (by decide +kernel)⟩
theorem lw_p34 : lw_okq (⟨"PressedPadModel", "number", "(II)Z"⟩, 30) := ⟨⟨by decide +kernel, by decide +kernel⟩, List.mem_of_getElem? (i := 757) (by decide +kernel), List.mem_of_getElem? (i := 962) (by decide +kernel), List.mem_of_getElem? (i := 963) (by decide +kernel)⟩
theorem lw_p35 : lw_okq (⟨"PressedPadModel", "readNote", "(I)Z"⟩, 30) := ⟨⟨by decide +kernel, by decide +kernel⟩, List.mem_of_getElem? (i := 757) (by decide +kernel), List.mem_of_getElem? (i := 966) (by decide +kernel), List.mem_of_getElem? (i := 967) (by decide +kernel)⟩
theorem lw_p36 : lw_okq (⟨"PressedPadModel", "isSheet", "(I)Z"⟩, 30) := ⟨⟨by decide +kernel, by decide +kernel⟩, List.mem_of_getElem? (i := 757) (by decide +kernel), List.mem_of_getElem? (i := 975) (by decide +kernel), List.mem_of_getElem? (i := 976) (by decide +kernel)⟩
theorem lw_p37 : lw_okq (⟨"PressedPadModel", "badLess", "()I"⟩, 30) := ⟨⟨by decide +kernel, by decide +kernel⟩, List.mem_of_getElem? (i := 757) (by decide +kernel), List.mem_of_getElem? (i := 979) (by decide +kernel), List.mem_of_getElem? (i := 980) (by decide +kernel)⟩
theorem lw_p38 : lw_okq (⟨"PressedPadModel", "writtenOn", "(I)I"⟩, 30) := ⟨⟨by decide +kernel, by decide +kernel⟩, List.mem_of_getElem? (i := 757) (by decide +kernel), List.mem_of_getElem? (i := 983) (by decide +kernel), List.mem_of_getElem? (i := 984) (by decide +kernel)⟩
theorem lw_p39 : lw_okq (⟨"PressedPadModel", "dentOf", "(II)I"⟩, 30) := ⟨⟨by decide +kernel, by decide +kernel⟩, List.mem_of_getElem? (i := 757) (by decide +kernel), List.mem_of_getElem? (i := 991) (by decide +kernel), List.mem_of_getElem? (i := 992) (by decide +kernel)⟩
theorem lw_p40 : lw_okq (⟨"PressedPadModel", "whoseOf", "(I)I"⟩, 30) := ⟨⟨by decide +kernel, by decide +kernel⟩, List.mem_of_getElem? (i := 757) (by decide +kernel), List.mem_of_getElem? (i := 1007) (by decide +kernel), List.mem_of_getElem? (i := 1008) (by decide +kernel)⟩
theorem lw_p41 : lw_okq (⟨"PressedPadModel", "forceIn", "(III)I"⟩, 30) := ⟨⟨by decide +kernel, by decide +kernel⟩, List.mem_of_getElem? (i := 757) (by decide +kernel), List.mem_of_getElem? (i := 1011) (by decide +kernel), List.mem_of_getElem? (i := 1012) (by decide +kernel)⟩
theorem lw_p42 : lw_okq (⟨"PressedPadModel", "areNotes", "(I)Z"⟩, 30) := ⟨⟨by decide +kernel, by decide +kernel⟩, List.mem_of_getElem? (i := 757) (by decide +kernel), List.mem_of_getElem? (i := 1027) (by decide +kernel), List.mem_of_getElem? (i := 1028) (by decide +kernel)⟩
theorem lw_p43 : lw_okq (⟨"PressedPadModel", "isLost", "(III)Z"⟩, 30) := ⟨⟨by decide +kernel, by decide +kernel⟩, List.mem_of_getElem? (i := 757) (by decide +kernel), List.mem_of_getElem? (i := 1032) (by decide +kernel), List.mem_of_getElem? (i := 1033) (by decide +kernel)⟩
theorem lw_p44 : lw_okq (⟨"PressedPadModel", "explained", "(III)I"⟩, 30) := ⟨⟨by decide +kernel, by decide +kernel⟩, List.mem_of_getElem? (i := 757) (by decide +kernel), List.mem_of_getElem? (i := 1036) (by decide +kernel), List.mem_of_getElem? (i := 1037) (by decide +kernel)⟩
theorem lw_p45 : lw_okq (⟨"PressedPadModel", "fits", "(I)Z"⟩, 30) := ⟨⟨by decide +kernel, by decide +kernel⟩, List.mem_of_getElem? (i := 757) (by decide +kernel), List.mem_of_getElem? (i := 1040) (by decide +kernel), List.mem_of_getElem? (i := 1041) (by decide +kernel)⟩
theorem lw_p46 : lw_okq (⟨"PressedPadModel", "isRow", "()Z"⟩, 30) := ⟨⟨by decide +kernel, by decide +kernel⟩, List.mem_of_getElem? (i := 757) (by decide +kernel), List.mem_of_getElem? (i := 1055) (by decide +kernel), List.mem_of_getElem? (i := 1056) (by decide +kernel)⟩
theorem lw_p47 : lw_okq (⟨"PressedPadModel", "placeOf", "(I)I"⟩, 30) := ⟨⟨by decide +kernel, by decide +kernel⟩, List.mem_of_getElem? (i := 757) (by decide +kernel), List.mem_of_getElem? (i := 1059) (by decide +kernel), List.mem_of_getElem? (i := 1060) (by decide +kernel)⟩
def lw_privs_3 : List (MethodName × Nat) := [(⟨"PressedPadModel", "byteAt", "(I)I"⟩, 30), (⟨"PressedPadModel", "isWord", "(IIIIII)Z"⟩, 30), (⟨"PressedPadModel", "number", "(II)Z"⟩, 30), (⟨"PressedPadModel", "readNote", "(I)Z"⟩, 30), (⟨"PressedPadModel", "isSheet", "(I)Z"⟩, 30), (⟨"PressedPadModel", "badLess", "()I"⟩, 30), (⟨"PressedPadModel", "writtenOn", "(I)I"⟩, 30), (⟨"PressedPadModel", "dentOf", "(II)I"⟩, 30), (⟨"PressedPadModel", "whoseOf", "(I)I"⟩, 30), (⟨"PressedPadModel", "forceIn", "(III)I"⟩, 30), (⟨"PressedPadModel", "areNotes", "(I)Z"⟩, 30), (⟨"PressedPadModel", "isLost", "(III)Z"⟩, 30), (⟨"PressedPadModel", "explained", "(III)I"⟩, 30), (⟨"PressedPadModel", "fits", "(I)Z"⟩, 30), (⟨"PressedPadModel", "isRow", "()Z"⟩, 30), (⟨"PressedPadModel", "placeOf", "(I)I"⟩, 30)]
theorem lw_r3 : ∀ q ∈ lw_privs_3, lw_okq q := List.forall_mem_cons.mpr ⟨lw_p32, List.forall_mem_cons.mpr ⟨lw_p33, List.forall_mem_cons.mpr ⟨lw_p34, List.forall_mem_cons.mpr ⟨lw_p35, List.forall_mem_cons.mpr ⟨lw_p36, List.forall_mem_cons.mpr ⟨lw_p37, List.forall_mem_cons.mpr ⟨lw_p38, List.forall_mem_cons.mpr ⟨lw_p39, List.forall_mem_cons.mpr ⟨lw_p40, List.forall_mem_cons.mpr ⟨lw_p41, List.forall_mem_cons.mpr ⟨lw_p42, List.forall_mem_cons.mpr ⟨lw_p43, List.forall_mem_cons.mpr ⟨lw_p44, List.forall_mem_cons.mpr ⟨lw_p45, List.forall_mem_cons.mpr ⟨lw_p46, List.forall_mem_cons.mpr ⟨lw_p47, fun _ h => absurd h List.not_mem_nil⟩⟩⟩⟩⟩⟩⟩⟩⟩⟩⟩⟩⟩⟩⟩⟩
theorem lw_p48 : lw_okq (⟨"PressedPadModel", "nextRow", "()Z"⟩, 30) := ⟨⟨by decide +kernel, by decide +kernel⟩, List.mem_of_getElem? (i := 757) (by decide +kernel), List.mem_of_getElem? (i := 1063) (by decide +kernel), List.mem_of_getElem? (i := 1064) (by decide +kernel)⟩
theorem lw_p49 : lw_okq (⟨"PressedPadModel", "exchange", "(II)V"⟩, 30) := ⟨⟨by decide +kernel, by decide +kernel⟩, List.mem_of_getElem? (i := 757) (by decide +kernel), List.mem_of_getElem? (i := 1067) (by decide +kernel), List.mem_of_getElem? (i := 1068) (by decide +kernel)⟩
theorem lw_p50 : lw_okq (⟨"PressedPadModel", "draw", "(I)I"⟩, 30) := ⟨⟨by decide +kernel, by decide +kernel⟩, List.mem_of_getElem? (i := 757) (by decide +kernel), List.mem_of_getElem? (i := 1097) (by decide +kernel), List.mem_of_getElem? (i := 1098) (by decide +kernel)⟩
theorem lw_p51 : lw_okq (⟨"PressedPadModel", "carry", "([II[III)V"⟩, 30) := ⟨⟨by decide +kernel, by decide +kernel⟩, List.mem_of_getElem? (i := 757) (by decide +kernel), List.mem_of_getElem? (i := 1113) (by decide +kernel), List.mem_of_getElem? (i := 1114) (by decide +kernel)⟩
theorem lw_p52 : lw_okq (⟨"PressedPadModel", "countOf", "(I)I"⟩, 30) := ⟨⟨by decide +kernel, by decide +kernel⟩, List.mem_of_getElem? (i := 757) (by decide +kernel), List.mem_of_getElem? (i := 1130) (by decide +kernel), List.mem_of_getElem? (i := 1131) (by decide +kernel)⟩
theorem lw_p53 : lw_okq (⟨"PressedPadModel", "mix", "(J)V"⟩, 30) := ⟨⟨by decide +kernel, by decide +kernel⟩, List.mem_of_getElem? (i := 757) (by decide +kernel), List.mem_of_getElem? (i := 1139) (by decide +kernel), List.mem_of_getElem? (i := 1140) (by decide +kernel)⟩
def lw_privs_4 : List (MethodName × Nat) := [(⟨"PressedPadModel", "nextRow", "()Z"⟩, 30), (⟨"PressedPadModel", "exchange", "(II)V"⟩, 30), (⟨"PressedPadModel", "draw", "(I)I"⟩, 30), (⟨"PressedPadModel", "carry", "([II[III)V"⟩, 30), (⟨"PressedPadModel", "countOf", "(I)I"⟩, 30), (⟨"PressedPadModel", "mix", "(J)V"⟩, 30)]
theorem lw_r4 : ∀ q ∈ lw_privs_4, lw_okq q := List.forall_mem_cons.mpr ⟨lw_p48, List.forall_mem_cons.mpr ⟨lw_p49, List.forall_mem_cons.mpr ⟨lw_p50, List.forall_mem_cons.mpr ⟨lw_p51, List.forall_mem_cons.mpr ⟨lw_p52, List.forall_mem_cons.mpr ⟨lw_p53, fun _ h => absurd h List.not_mem_nil⟩⟩⟩⟩⟩⟩
def lw_privs : List (MethodName × Nat) := lw_privs_1 ++ (lw_privs_2 ++ (lw_privs_3 ++ (lw_privs_4)))
def lw_tbl : List Cond := k2_sels lw_privs ++ tables_1
theorem lw_privs_ok : ∀ q ∈ lw_privs, lw_okq q := by
  show ∀ q ∈ lw_privs_1 ++ (lw_privs_2 ++ (lw_privs_3 ++ (lw_privs_4))), lw_okq q
  exact List.forall_mem_append.mpr ⟨lw_r1, List.forall_mem_append.mpr ⟨lw_r2, List.forall_mem_append.mpr ⟨lw_r3, lw_r4⟩⟩⟩
end
section
def RX0 : String := "PressedPad$Ball"
def TX0 : u_T := fun k => match k with
  | _ => ("", "", "", false)
def tyX0 : Nat → FieldType := fun k => match k with
  | _ => .int
abbrev wsX00 : List Cond := u_ws RX0 TX0 0
theorem nmX0 : ∀ a, a < 0 → ∀ b, b < 0 → a ≠ b → (TX0 a).2.1 ≠ (TX0 b).2.1 := by decide +kernel
theorem tyX0_ok : ∀ k, k < 0 → parseFieldDescriptor (TX0 k).2.2.1 = some (tyX0 k) := by decide +kernel
abbrev cX0_init : ByteArray := prog_2_method_1_code
def yX0_init : MethodName := ⟨RX0, "<init>", "()V"⟩
abbrev cX0_forceAt : ByteArray := prog_2_method_2_code
def yX0_forceAt : MethodName := ⟨RX0, "forceAt", "(II)I"⟩
def RX1 : String := "PressedPad$Felt"
def TX1 : u_T := fun k => match k with
  | _ => ("", "", "", false)
def tyX1 : Nat → FieldType := fun k => match k with
  | _ => .int
abbrev wsX10 : List Cond := u_ws RX1 TX1 0
theorem nmX1 : ∀ a, a < 0 → ∀ b, b < 0 → a ≠ b → (TX1 a).2.1 ≠ (TX1 b).2.1 := by decide +kernel
theorem tyX1_ok : ∀ k, k < 0 → parseFieldDescriptor (TX1 k).2.2.1 = some (tyX1 k) := by decide +kernel
abbrev cX1_init : ByteArray := prog_3_method_1_code
def yX1_init : MethodName := ⟨RX1, "<init>", "()V"⟩
abbrev cX1_forceAt : ByteArray := prog_3_method_2_code
def yX1_forceAt : MethodName := ⟨RX1, "forceAt", "(II)I"⟩
def RX2 : String := "PressedPad$Lost"
def TX2 : u_T := fun k => match k with
  | 0 => ("PressedPad$Lost", "seen", "[I", true)
  | 1 => ("PressedPad$Lost", "explained", "[I", true)
  | 2 => ("PressedPad$Lost", "must", "I", false)
  | _ => ("PressedPad$Lost", "may", "I", false)
def tyX2 : Nat → FieldType := fun k => match k with
  | 0 => .array .int
  | 1 => .array .int
  | 2 => .int
  | _ => .int
abbrev wsX20 : List Cond := u_ws RX2 TX2 4
theorem nmX2 : ∀ a, a < 4 → ∀ b, b < 4 → a ≠ b → (TX2 a).2.1 ≠ (TX2 b).2.1 := by decide +kernel
theorem tyX2_ok : ∀ k, k < 4 → parseFieldDescriptor (TX2 k).2.2.1 = some (tyX2 k) := by decide +kernel
abbrev cX2_init : ByteArray := prog_4_method_1_code
def yX2_init : MethodName := ⟨RX2, "<init>", "()V"⟩
abbrev cX2_look : ByteArray := prog_4_method_2_code
def yX2_look : MethodName := ⟨RX2, "look", "(LPressedPad$Pad;II)V"⟩
abbrev cX2_guess : ByteArray := prog_4_method_3_code
def yX2_guess : MethodName := ⟨RX2, "guess", "(I)Z"⟩
abbrev cX2_isFit : ByteArray := prog_4_method_4_code
def yX2_isFit : MethodName := ⟨RX2, "isFit", "(I)Z"⟩
def RX3 : String := "PressedPad$Nib"
def TX3 : u_T := fun k => match k with
  | _ => ("", "", "", false)
def tyX3 : Nat → FieldType := fun k => match k with
  | _ => .int
abbrev wsX30 : List Cond := u_ws RX3 TX3 0
theorem nmX3 : ∀ a, a < 0 → ∀ b, b < 0 → a ≠ b → (TX3 a).2.1 ≠ (TX3 b).2.1 := by decide +kernel
theorem tyX3_ok : ∀ k, k < 0 → parseFieldDescriptor (TX3 k).2.2.1 = some (tyX3 k) := by decide +kernel
abbrev cX3_init : ByteArray := prog_5_method_1_code
def yX3_init : MethodName := ⟨RX3, "<init>", "()V"⟩
abbrev cX3_forceAt : ByteArray := prog_5_method_2_code
def yX3_forceAt : MethodName := ⟨RX3, "forceAt", "(II)I"⟩
def RX4 : String := "PressedPad$Pad"
def TX4 : u_T := fun k => match k with
  | 0 => ("PressedPad$Pad", "page", "[I", true)
  | 1 => ("PressedPad$Pad", "earlier", "[I", true)
  | 2 => ("PressedPad$Pad", "undoable", "I", false)
  | 3 => ("PressedPad$Pad", "sheets", "I", false)
  | 4 => ("PressedPad$Pad", "carbonBits", "I", false)
  | 5 => ("PressedPad$Pad", "noteKind", "[I", true)
  | 6 => ("PressedPad$Pad", "notePress", "[I", true)
  | 7 => ("PressedPad$Pad", "noteCells", "[I", true)
  | 8 => ("PressedPad$Pad", "noteSheet", "[I", true)
  | 9 => ("PressedPad$Pad", "noteForces", "[I", true)
  | 10 => ("PressedPad$Pad", "words", "[I", true)
  | _ => ("PressedPad$Pad", "wordCount", "I", false)
def tyX4 : Nat → FieldType := fun k => match k with
  | 0 => .array .int
  | 1 => .array .int
  | 2 => .int
  | 3 => .int
  | 4 => .int
  | 5 => .array .int
  | 6 => .array .int
  | 7 => .array .int
  | 8 => .array .int
  | 9 => .array .int
  | 10 => .array .int
  | _ => .int
abbrev wsX40 : List Cond := u_ws RX4 TX4 12
theorem nmX4 : ∀ a, a < 12 → ∀ b, b < 12 → a ≠ b → (TX4 a).2.1 ≠ (TX4 b).2.1 := by decide +kernel
theorem tyX4_ok : ∀ k, k < 12 → parseFieldDescriptor (TX4 k).2.2.1 = some (tyX4 k) := by decide +kernel
abbrev cX4_init : ByteArray := prog_6_method_1_code
def yX4_init : MethodName := ⟨RX4, "<init>", "()V"⟩
abbrev cX4_beginAnew : ByteArray := prog_6_method_2_code
def yX4_beginAnew : MethodName := ⟨RX4, "beginAnew", "(I)V"⟩
abbrev cX4_copyFrom : ByteArray := prog_6_method_3_code
def yX4_copyFrom : MethodName := ⟨RX4, "copyFrom", "(LPressedPad$Pad;)V"⟩
abbrev cX4_keepForUndo : ByteArray := prog_6_method_4_code
def yX4_keepForUndo : MethodName := ⟨RX4, "keepForUndo", "()V"⟩
abbrev cX4_goBack : ByteArray := prog_6_method_5_code
def yX4_goBack : MethodName := ⟨RX4, "goBack", "()V"⟩
abbrev cX4_top : ByteArray := prog_6_method_6_code
def yX4_top : MethodName := ⟨RX4, "top", "()I"⟩
abbrev cX4_noteCount : ByteArray := prog_6_method_7_code
def yX4_noteCount : MethodName := ⟨RX4, "noteCount", "()I"⟩
abbrev cX4_isUsedUp : ByteArray := prog_6_method_8_code
def yX4_isUsedUp : MethodName := ⟨RX4, "isUsedUp", "()Z"⟩
abbrev cX4_hasSheet : ByteArray := prog_6_method_9_code
def yX4_hasSheet : MethodName := ⟨RX4, "hasSheet", "(I)Z"⟩
abbrev cX4_hasSheets : ByteArray := prog_6_method_10_code
def yX4_hasSheets : MethodName := ⟨RX4, "hasSheets", "(I)Z"⟩
abbrev cX4_hasNote : ByteArray := prog_6_method_11_code
def yX4_hasNote : MethodName := ⟨RX4, "hasNote", "(I)Z"⟩
abbrev cX4_hasNotes : ByteArray := prog_6_method_12_code
def yX4_hasNotes : MethodName := ⟨RX4, "hasNotes", "(I)Z"⟩
abbrev cX4_placeOf : ByteArray := prog_6_method_13_code
def yX4_placeOf : MethodName := ⟨RX4, "placeOf", "(II)I"⟩
abbrev cX4_inkOf : ByteArray := prog_6_method_14_code
def yX4_inkOf : MethodName := ⟨RX4, "inkOf", "(I)I"⟩
abbrev cX4_copyOf : ByteArray := prog_6_method_15_code
def yX4_copyOf : MethodName := ⟨RX4, "copyOf", "(I)I"⟩
abbrev cX4_dentOf : ByteArray := prog_6_method_16_code
def yX4_dentOf : MethodName := ⟨RX4, "dentOf", "(II)I"⟩
abbrev cX4_tearTop : ByteArray := prog_6_method_17_code
def yX4_tearTop : MethodName := ⟨RX4, "tearTop", "()I"⟩
abbrev cX4_putNote : ByteArray := prog_6_method_18_code
def yX4_putNote : MethodName := ⟨RX4, "putNote", "(LPressedPad$PenBox;III)I"⟩
abbrev cX4_pressInto : ByteArray := prog_6_method_19_code
def yX4_pressInto : MethodName := ⟨RX4, "pressInto", "(III)V"⟩
abbrev cX4_writtenOn : ByteArray := prog_6_method_20_code
def yX4_writtenOn : MethodName := ⟨RX4, "writtenOn", "(I)I"⟩
abbrev cX4_forceOn : ByteArray := prog_6_method_21_code
def yX4_forceOn : MethodName := ⟨RX4, "forceOn", "(II)I"⟩
abbrev cX4_forceDown : ByteArray := prog_6_method_22_code
def yX4_forceDown : MethodName := ⟨RX4, "forceDown", "(II)I"⟩
abbrev cX4_cellsDented : ByteArray := prog_6_method_23_code
def yX4_cellsDented : MethodName := ⟨RX4, "cellsDented", "(II)I"⟩
abbrev cX4_dentedBy : ByteArray := prog_6_method_24_code
def yX4_dentedBy : MethodName := ⟨RX4, "dentedBy", "(I)I"⟩
abbrev cX4_dentedAtLeast : ByteArray := prog_6_method_25_code
def yX4_dentedAtLeast : MethodName := ⟨RX4, "dentedAtLeast", "(II)I"⟩
abbrev cX4_digestFrom : ByteArray := prog_6_method_26_code
def yX4_digestFrom : MethodName := ⟨RX4, "digestFrom", "(J)J"⟩
def RX5 : String := "PressedPad$PenBox"
def TX5 : u_T := fun k => match k with
  | _ => ("PressedPad$PenBox", "pens", "[LPressedPad$Pencil;", true)
def tyX5 : Nat → FieldType := fun k => match k with
  | _ => .array (.object "PressedPad$Pencil")
abbrev wsX50 : List Cond := u_ws RX5 TX5 1
theorem nmX5 : ∀ a, a < 1 → ∀ b, b < 1 → a ≠ b → (TX5 a).2.1 ≠ (TX5 b).2.1 := by decide +kernel
theorem tyX5_ok : ∀ k, k < 1 → parseFieldDescriptor (TX5 k).2.2.1 = some (tyX5 k) := by decide +kernel
abbrev cX5_init : ByteArray := prog_7_method_1_code
def yX5_init : MethodName := ⟨RX5, "<init>", "()V"⟩
abbrev cX5_penOf : ByteArray := prog_7_method_2_code
def yX5_penOf : MethodName := ⟨RX5, "penOf", "(I)LPressedPad$Pencil;"⟩
abbrev cX5_forceOf : ByteArray := prog_7_method_3_code
def yX5_forceOf : MethodName := ⟨RX5, "forceOf", "(III)I"⟩
abbrev cX5_hasInk : ByteArray := prog_7_method_4_code
def yX5_hasInk : MethodName := ⟨RX5, "hasInk", "(I)Z"⟩
def RX6 : String := "PressedPad$Pencil"
def TX6 : u_T := fun k => match k with
  | _ => ("", "", "", false)
def tyX6 : Nat → FieldType := fun k => match k with
  | _ => .int
abbrev wsX60 : List Cond := u_ws RX6 TX6 0
theorem nmX6 : ∀ a, a < 0 → ∀ b, b < 0 → a ≠ b → (TX6 a).2.1 ≠ (TX6 b).2.1 := by decide +kernel
theorem tyX6_ok : ∀ k, k < 0 → parseFieldDescriptor (TX6 k).2.2.1 = some (tyX6 k) := by decide +kernel
abbrev cX6_init : ByteArray := prog_8_method_1_code
def yX6_init : MethodName := ⟨RX6, "<init>", "()V"⟩
abbrev cX6_forceAt : ByteArray := prog_8_method_2_code
def yX6_forceAt : MethodName := ⟨RX6, "forceAt", "(II)I"⟩
abbrev cX6_leavesInk : ByteArray := prog_8_method_3_code
def yX6_leavesInk : MethodName := ⟨RX6, "leavesInk", "()Z"⟩
def RX7 : String := "PressedPad$Reader"
def TX7 : u_T := fun k => match k with
  | 0 => ("PressedPad$Reader", "text", "[I", true)
  | 1 => ("PressedPad$Reader", "length", "I", false)
  | 2 => ("PressedPad$Reader", "next", "I", false)
  | 3 => ("PressedPad$Reader", "token", "I", false)
  | 4 => ("PressedPad$Reader", "start", "I", false)
  | 5 => ("PressedPad$Reader", "value", "I", false)
  | 6 => ("PressedPad$Reader", "kind", "I", false)
  | _ => ("PressedPad$Reader", "press", "I", false)
def tyX7 : Nat → FieldType := fun k => match k with
  | 0 => .array .int
  | 1 => .int
  | 2 => .int
  | 3 => .int
  | 4 => .int
  | 5 => .int
  | 6 => .int
  | _ => .int
abbrev wsX70 : List Cond := u_ws RX7 TX7 8
theorem nmX7 : ∀ a, a < 8 → ∀ b, b < 8 → a ≠ b → (TX7 a).2.1 ≠ (TX7 b).2.1 := by decide +kernel
theorem tyX7_ok : ∀ k, k < 8 → parseFieldDescriptor (TX7 k).2.2.1 = some (tyX7 k) := by decide +kernel
abbrev cX7_init : ByteArray := prog_9_method_1_code
def yX7_init : MethodName := ⟨RX7, "<init>", "()V"⟩
abbrev cX7_fault : ByteArray := prog_9_method_2_code
def yX7_fault : MethodName := ⟨RX7, "fault", "()I"⟩
abbrev cX7_readInto : ByteArray := prog_9_method_3_code
def yX7_readInto : MethodName := ⟨RX7, "readInto", "(LPressedPad$Pad;LPressedPad$PenBox;)I"⟩
abbrev cX7_readFirst : ByteArray := prog_9_method_4_code
def yX7_readFirst : MethodName := ⟨RX7, "readFirst", "(LPressedPad$Pad;)Z"⟩
abbrev cX7_readItem : ByteArray := prog_9_method_5_code
def yX7_readItem : MethodName := ⟨RX7, "readItem", "(LPressedPad$Pad;LPressedPad$PenBox;)Z"⟩
abbrev cX7_readCarbon : ByteArray := prog_9_method_6_code
def yX7_readCarbon : MethodName := ⟨RX7, "readCarbon", "(LPressedPad$Pad;)Z"⟩
abbrev cX7_readPen : ByteArray := prog_9_method_7_code
def yX7_readPen : MethodName := ⟨RX7, "readPen", "()Z"⟩
abbrev cX7_readCells : ByteArray := prog_9_method_8_code
def yX7_readCells : MethodName := ⟨RX7, "readCells", "()I"⟩
abbrev cX7_passStop : ByteArray := prog_9_method_9_code
def yX7_passStop : MethodName := ⟨RX7, "passStop", "()Z"⟩
abbrev cX7_isNumber : ByteArray := prog_9_method_10_code
def yX7_isNumber : MethodName := ⟨RX7, "isNumber", "(II)Z"⟩
abbrev cX7_isWord : ByteArray := prog_9_method_11_code
def yX7_isWord : MethodName := ⟨RX7, "isWord", "(Ljava/lang/String;)Z"⟩
abbrev cX7_isWithin : ByteArray := prog_9_method_12_code
def yX7_isWithin : MethodName := ⟨RX7, "isWithin", "(III)Z"⟩
abbrev cX7_step : ByteArray := prog_9_method_13_code
def yX7_step : MethodName := ⟨RX7, "step", "()V"⟩
abbrev cX7_passWord : ByteArray := prog_9_method_14_code
def yX7_passWord : MethodName := ⟨RX7, "passWord", "()V"⟩
abbrev cX7_passFigures : ByteArray := prog_9_method_15_code
def yX7_passFigures : MethodName := ⟨RX7, "passFigures", "()V"⟩
def RX8 : String := "PressedPad$Rows"
def TX8 : u_T := fun k => match k with
  | 0 => ("PressedPad$Rows", "row", "[I", true)
  | 1 => ("PressedPad$Rows", "placeOf", "[I", true)
  | 2 => ("PressedPad$Rows", "shownAt", "[I", true)
  | 3 => ("PressedPad$Rows", "pressed", "[I", true)
  | _ => ("PressedPad$Rows", "found", "I", false)
def tyX8 : Nat → FieldType := fun k => match k with
  | 0 => .array .int
  | 1 => .array .int
  | 2 => .array .int
  | 3 => .array .int
  | _ => .int
abbrev wsX80 : List Cond := u_ws RX8 TX8 5
theorem nmX8 : ∀ a, a < 5 → ∀ b, b < 5 → a ≠ b → (TX8 a).2.1 ≠ (TX8 b).2.1 := by decide +kernel
theorem tyX8_ok : ∀ k, k < 5 → parseFieldDescriptor (TX8 k).2.2.1 = some (tyX8 k) := by decide +kernel
abbrev cX8_init : ByteArray := prog_10_method_1_code
def yX8_init : MethodName := ⟨RX8, "<init>", "()V"⟩
abbrev cX8_sheetAt : ByteArray := prog_10_method_2_code
def yX8_sheetAt : MethodName := ⟨RX8, "sheetAt", "(I)I"⟩
abbrev cX8_search : ByteArray := prog_10_method_3_code
def yX8_search : MethodName := ⟨RX8, "search", "(LPressedPad$Pad;I)I"⟩
abbrev cX8_layFrom : ByteArray := prog_10_method_4_code
def yX8_layFrom : MethodName := ⟨RX8, "layFrom", "(LPressedPad$Pad;III)V"⟩
abbrev cX8_mayLie : ByteArray := prog_10_method_5_code
def yX8_mayLie : MethodName := ⟨RX8, "mayLie", "(LPressedPad$Pad;III)Z"⟩
def RX9 : String := "PressedPad$Stylus"
def TX9 : u_T := fun k => match k with
  | _ => ("", "", "", false)
def tyX9 : Nat → FieldType := fun k => match k with
  | _ => .int
abbrev wsX90 : List Cond := u_ws RX9 TX9 0
theorem nmX9 : ∀ a, a < 0 → ∀ b, b < 0 → a ≠ b → (TX9 a).2.1 ≠ (TX9 b).2.1 := by decide +kernel
theorem tyX9_ok : ∀ k, k < 0 → parseFieldDescriptor (TX9 k).2.2.1 = some (tyX9 k) := by decide +kernel
abbrev cX9_init : ByteArray := prog_11_method_1_code
def yX9_init : MethodName := ⟨RX9, "<init>", "()V"⟩
abbrev cX9_leavesInk : ByteArray := prog_11_method_2_code
def yX9_leavesInk : MethodName := ⟨RX9, "leavesInk", "()Z"⟩
def RX10 : String := "PressedPad$Tool"
def TX10 : u_T := fun k => match k with
  | _ => ("", "", "", false)
def tyX10 : Nat → FieldType := fun k => match k with
  | _ => .int
abbrev wsX100 : List Cond := u_ws RX10 TX10 0
theorem nmX10 : ∀ a, a < 0 → ∀ b, b < 0 → a ≠ b → (TX10 a).2.1 ≠ (TX10 b).2.1 := by decide +kernel
theorem tyX10_ok : ∀ k, k < 0 → parseFieldDescriptor (TX10 k).2.2.1 = some (tyX10 k) := by decide +kernel
abbrev cX10_init : ByteArray := prog_12_method_1_code
def yX10_init : MethodName := ⟨RX10, "<init>", "()V"⟩
abbrev cX10_forceAt : ByteArray := prog_12_method_2_code
def yX10_forceAt : MethodName := ⟨RX10, "forceAt", "(II)I"⟩
def RX11 : String := "PressedPad"
def TX11 : u_T := fun k => match k with
  | 0 => ("PressedPad", "box", "LPressedPad$PenBox;", true)
  | 1 => ("PressedPad", "now", "LPressedPad$Pad;", true)
  | 2 => ("PressedPad", "draft", "LPressedPad$Pad;", true)
  | 3 => ("PressedPad", "firstImage", "LPressedPad$Pad;", true)
  | 4 => ("PressedPad", "secondImage", "LPressedPad$Pad;", true)
  | 5 => ("PressedPad", "trace", "LPressedPad$Lost;", true)
  | 6 => ("PressedPad", "rows", "LPressedPad$Rows;", true)
  | 7 => ("PressedPad", "reader", "LPressedPad$Reader;", true)
  | 8 => ("PressedPad", "lastDents", "[I", true)
  | 9 => ("PressedPad", "keptImages", "I", false)
  | 10 => ("PressedPad", "above", "J", false)
  | 11 => ("PressedPad", "below", "J", false)
  | 12 => ("PressedPad", "badCalls", "I", false)
  | 13 => ("PressedPad", "noCalls", "I", false)
  | _ => ("PressedPad", "fullCalls", "I", false)
def tyX11 : Nat → FieldType := fun k => match k with
  | 0 => .object "PressedPad$PenBox"
  | 1 => .object "PressedPad$Pad"
  | 2 => .object "PressedPad$Pad"
  | 3 => .object "PressedPad$Pad"
  | 4 => .object "PressedPad$Pad"
  | 5 => .object "PressedPad$Lost"
  | 6 => .object "PressedPad$Rows"
  | 7 => .object "PressedPad$Reader"
  | 8 => .array .int
  | 9 => .int
  | 10 => .long
  | 11 => .long
  | 12 => .int
  | 13 => .int
  | _ => .int
abbrev wsX110 : List Cond := u_ws RX11 TX11 15
theorem nmX11 : ∀ a, a < 15 → ∀ b, b < 15 → a ≠ b → (TX11 a).2.1 ≠ (TX11 b).2.1 := by decide +kernel
theorem tyX11_ok : ∀ k, k < 15 → parseFieldDescriptor (TX11 k).2.2.1 = some (tyX11 k) := by decide +kernel
abbrev cX11_init : ByteArray := prog_1_method_1_code
def yX11_init : MethodName := ⟨RX11, "<init>", "()V"⟩
abbrev cX11_pad : ByteArray := prog_1_method_2_code
def yX11_pad : MethodName := ⟨RX11, "pad", "(I)I"⟩
abbrev cX11_carbons : ByteArray := prog_1_method_3_code
def yX11_carbons : MethodName := ⟨RX11, "carbons", "(I)I"⟩
abbrev cX11_write : ByteArray := prog_1_method_4_code
def yX11_write : MethodName := ⟨RX11, "write", "(III)I"⟩
abbrev cX11_tear : ByteArray := prog_1_method_5_code
def yX11_tear : MethodName := ⟨RX11, "tear", "()I"⟩
abbrev cX11_undo : ByteArray := prog_1_method_6_code
def yX11_undo : MethodName := ⟨RX11, "undo", "()I"⟩
abbrev cX11_word : ByteArray := prog_1_method_7_code
def yX11_word : MethodName := ⟨RX11, "word", "(I)I"⟩
abbrev cX11_forget : ByteArray := prog_1_method_8_code
def yX11_forget : MethodName := ⟨RX11, "forget", "()I"⟩
abbrev cX11_type : ByteArray := prog_1_method_9_code
def yX11_type : MethodName := ⟨RX11, "type", "(I)I"⟩
abbrev cX11_clear : ByteArray := prog_1_method_10_code
def yX11_clear : MethodName := ⟨RX11, "clear", "()I"⟩
abbrev cX11_read : ByteArray := prog_1_method_11_code
def yX11_read : MethodName := ⟨RX11, "read", "()I"⟩
abbrev cX11_of : ByteArray := prog_1_method_12_code
def yX11_of : MethodName := ⟨RX11, "of", "(II)I"⟩
abbrev cX11_dent : ByteArray := prog_1_method_13_code
def yX11_dent : MethodName := ⟨RX11, "dent", "(II)I"⟩
abbrev cX11_about : ByteArray := prog_1_method_14_code
def yX11_about : MethodName := ⟨RX11, "about", "(II)I"⟩
abbrev cX11_force : ByteArray := prog_1_method_15_code
def yX11_force : MethodName := ⟨RX11, "force", "(III)I"⟩
abbrev cX11_whose : ByteArray := prog_1_method_16_code
def yX11_whose : MethodName := ⟨RX11, "whose", "(I)I"⟩
abbrev cX11_own : ByteArray := prog_1_method_17_code
def yX11_own : MethodName := ⟨RX11, "own", "(II)I"⟩
abbrev cX11_shown : ByteArray := prog_1_method_18_code
def yX11_shown : MethodName := ⟨RX11, "shown", "(II)I"⟩
abbrev cX11_lost : ByteArray := prog_1_method_19_code
def yX11_lost : MethodName := ⟨RX11, "lost", "(IIIIII)I"⟩
abbrev cX11_pen : ByteArray := prog_1_method_20_code
def yX11_pen : MethodName := ⟨RX11, "pen", "(IIIII)I"⟩
abbrev cX11_orders : ByteArray := prog_1_method_21_code
def yX11_orders : MethodName := ⟨RX11, "orders", "(I)I"⟩
abbrev cX11_press : ByteArray := prog_1_method_22_code
def yX11_press : MethodName := ⟨RX11, "press", "(II)I"⟩
abbrev cX11_copies : ByteArray := prog_1_method_23_code
def yX11_copies : MethodName := ⟨RX11, "copies", "(IIII)I"⟩
abbrev cX11_rub : ByteArray := prog_1_method_24_code
def yX11_rub : MethodName := ⟨RX11, "rub", "(III)I"⟩
abbrev cX11_torn : ByteArray := prog_1_method_25_code
def yX11_torn : MethodName := ⟨RX11, "torn", "(I)I"⟩
abbrev cX11_drawn : ByteArray := prog_1_method_26_code
def yX11_drawn : MethodName := ⟨RX11, "drawn", "(II)I"⟩
abbrev cX11_part : ByteArray := prog_1_method_27_code
def yX11_part : MethodName := ⟨RX11, "part", "(I)J"⟩
abbrev cX11_image : ByteArray := prog_1_method_28_code
def yX11_image : MethodName := ⟨RX11, "image", "(I)I"⟩
abbrev cX11_from : ByteArray := prog_1_method_29_code
def yX11_from : MethodName := ⟨RX11, "from", "(I)I"⟩
abbrev cX11_status : ByteArray := prog_1_method_30_code
def yX11_status : MethodName := ⟨RX11, "status", "(I)I"⟩
abbrev cX11_count : ByteArray := prog_1_method_31_code
def yX11_count : MethodName := ⟨RX11, "count", "(I)I"⟩
abbrev cX11_digest : ByteArray := prog_1_method_32_code
def yX11_digest : MethodName := ⟨RX11, "digest", "()J"⟩
abbrev cX11_isPen : ByteArray := prog_1_method_33_code
def yX11_isPen : MethodName := ⟨RX11, "isPen", "(II)Z"⟩
abbrev cX11_isDepth : ByteArray := prog_1_method_34_code
def yX11_isDepth : MethodName := ⟨RX11, "isDepth", "(I)Z"⟩
abbrev cX11_isCells : ByteArray := prog_1_method_35_code
def yX11_isCells : MethodName := ⟨RX11, "isCells", "(I)Z"⟩
abbrev cX11_bad : ByteArray := prog_1_method_36_code
def yX11_bad : MethodName := ⟨RX11, "bad", "(I)I"⟩
abbrev cX11_no : ByteArray := prog_1_method_37_code
def yX11_no : MethodName := ⟨RX11, "no", "()I"⟩
abbrev cX11_full : ByteArray := prog_1_method_38_code
def yX11_full : MethodName := ⟨RX11, "full", "()I"⟩
abbrev cX11_amountOf : ByteArray := prog_1_method_39_code
def yX11_amountOf : MethodName := ⟨RX11, "amountOf", "(I)I"⟩
abbrev cX11_imageOf : ByteArray := prog_1_method_40_code
def yX11_imageOf : MethodName := ⟨RX11, "imageOf", "(I)LPressedPad$Pad;"⟩
abbrev cX11_wordsThatFit : ByteArray := prog_1_method_41_code
def yX11_wordsThatFit : MethodName := ⟨RX11, "wordsThatFit", "()I"⟩
abbrev cX11_keepFraction : ByteArray := prog_1_method_42_code
def yX11_keepFraction : MethodName := ⟨RX11, "keepFraction", "(JJ)V"⟩
abbrev cX11_nextDraw : ByteArray := prog_1_method_43_code
def yX11_nextDraw : MethodName := ⟨RX11, "nextDraw", "(J)J"⟩
abbrev cX11_drawOf : ByteArray := prog_1_method_44_code
def yX11_drawOf : MethodName := ⟨RX11, "drawOf", "(JI)I"⟩
abbrev cX11_dentInto : ByteArray := prog_1_method_45_code
def yX11_dentInto : MethodName := ⟨RX11, "dentInto", "([IIII)V"⟩
abbrev cX11_sumOfLast : ByteArray := prog_1_method_46_code
def yX11_sumOfLast : MethodName := ⟨RX11, "sumOfLast", "()I"⟩
def RX12 : String := "PressedPadModel"
def TX12 : u_T := fun k => match k with
  | 0 => ("PressedPadModel", "sheets", "I", false)
  | 1 => ("PressedPadModel", "carbons", "I", false)
  | 2 => ("PressedPadModel", "words", "[I", true)
  | 3 => ("PressedPadModel", "wordMany", "I", false)
  | 4 => ("PressedPadModel", "st", "[I", true)
  | 5 => ("PressedPadModel", "ahead", "[I", true)
  | 6 => ("PressedPadModel", "undoMany", "I", false)
  | 7 => ("PressedPadModel", "above", "J", false)
  | 8 => ("PressedPadModel", "below", "J", false)
  | 9 => ("PressedPadModel", "refused", "[I", true)
  | 10 => ("PressedPadModel", "text", "[I", true)
  | 11 => ("PressedPadModel", "bytes", "I", false)
  | 12 => ("PressedPadModel", "place", "I", false)
  | 13 => ("PressedPadModel", "token", "I", false)
  | 14 => ("PressedPadModel", "value", "I", false)
  | 15 => ("PressedPadModel", "begins", "I", false)
  | 16 => ("PressedPadModel", "read", "[I", true)
  | 17 => ("PressedPadModel", "items", "I", false)
  | 18 => ("PressedPadModel", "readSheets", "I", false)
  | 19 => ("PressedPadModel", "readTorn", "I", false)
  | 20 => ("PressedPadModel", "readNotes", "I", false)
  | 21 => ("PressedPadModel", "must", "I", false)
  | 22 => ("PressedPadModel", "may", "I", false)
  | 23 => ("PressedPadModel", "row", "[I", true)
  | 24 => ("PressedPadModel", "firstRow", "[I", true)
  | 25 => ("PressedPadModel", "aside", "[I", true)
  | 26 => ("PressedPadModel", "drawn", "J", false)
  | 27 => ("PressedPadModel", "isKept", "[Z", true)
  | 28 => ("PressedPadModel", "kept", "[I", true)
  | _ => ("PressedPadModel", "sum", "J", false)
def tyX12 : Nat → FieldType := fun k => match k with
  | 0 => .int
  | 1 => .int
  | 2 => .array .int
  | 3 => .int
  | 4 => .array .int
  | 5 => .array .int
  | 6 => .int
  | 7 => .long
  | 8 => .long
  | 9 => .array .int
  | 10 => .array .int
  | 11 => .int
  | 12 => .int
  | 13 => .int
  | 14 => .int
  | 15 => .int
  | 16 => .array .int
  | 17 => .int
  | 18 => .int
  | 19 => .int
  | 20 => .int
  | 21 => .int
  | 22 => .int
  | 23 => .array .int
  | 24 => .array .int
  | 25 => .array .int
  | 26 => .long
  | 27 => .array .boolean
  | 28 => .array .int
  | _ => .long
abbrev wsX120 : List Cond := u_ws RX12 TX12 30
theorem nmX12 : ∀ a, a < 30 → ∀ b, b < 30 → a ≠ b → (TX12 a).2.1 ≠ (TX12 b).2.1 := by decide +kernel
theorem tyX12_ok : ∀ k, k < 30 → parseFieldDescriptor (TX12 k).2.2.1 = some (tyX12 k) := by decide +kernel
abbrev cX12_init : ByteArray := prog_14_method_1_code
def yX12_init : MethodName := ⟨RX12, "<init>", "()V"⟩
abbrev cX12_in : ByteArray := prog_14_method_2_code
def yX12_in : MethodName := ⟨RX12, "in", "(JJJ)Z"⟩
abbrev cX12_has : ByteArray := prog_14_method_3_code
def yX12_has : MethodName := ⟨RX12, "has", "(II)Z"⟩
abbrev cX12_ones : ByteArray := prog_14_method_4_code
def yX12_ones : MethodName := ⟨RX12, "ones", "(I)I"⟩
abbrev cX12_refuse : ByteArray := prog_14_method_5_code
def yX12_refuse : MethodName := ⟨RX12, "refuse", "(II)I"⟩
abbrev cX12_bad : ByteArray := prog_14_method_6_code
def yX12_bad : MethodName := ⟨RX12, "bad", "()I"⟩
abbrev cX12_badLess : ByteArray := prog_14_method_7_code
def yX12_badLess : MethodName := ⟨RX12, "badLess", "()I"⟩
abbrev cX12_isSheet : ByteArray := prog_14_method_8_code
def yX12_isSheet : MethodName := ⟨RX12, "isSheet", "(I)Z"⟩
abbrev cX12_areNotes : ByteArray := prog_14_method_9_code
def yX12_areNotes : MethodName := ⟨RX12, "areNotes", "(I)Z"⟩
abbrev cX12_isPen : ByteArray := prog_14_method_10_code
def yX12_isPen : MethodName := ⟨RX12, "isPen", "(II)Z"⟩
abbrev cX12_pencil : ByteArray := prog_14_method_11_code
def yX12_pencil : MethodName := ⟨RX12, "pencil", "(II)I"⟩
abbrev cX12_forceOf : ByteArray := prog_14_method_12_code
def yX12_forceOf : MethodName := ⟨RX12, "forceOf", "(III)I"⟩
abbrev cX12_hasInk : ByteArray := prog_14_method_13_code
def yX12_hasInk : MethodName := ⟨RX12, "hasInk", "(I)Z"⟩
abbrev cX12_empty : ByteArray := prog_14_method_14_code
def yX12_empty : MethodName := ⟨RX12, "empty", "()V"⟩
abbrev cX12_pad : ByteArray := prog_14_method_15_code
def yX12_pad : MethodName := ⟨RX12, "pad", "(I)I"⟩
abbrev cX12_carbons : ByteArray := prog_14_method_16_code
def yX12_carbons : MethodName := ⟨RX12, "carbons", "(I)I"⟩
abbrev cX12_note : ByteArray := prog_14_method_17_code
def yX12_note : MethodName := ⟨RX12, "note", "()V"⟩
abbrev cX12_dentAll : ByteArray := prog_14_method_18_code
def yX12_dentAll : MethodName := ⟨RX12, "dentAll", "(III)V"⟩
abbrev cX12_writeNow : ByteArray := prog_14_method_19_code
def yX12_writeNow : MethodName := ⟨RX12, "writeNow", "(III)V"⟩
abbrev cX12_write : ByteArray := prog_14_method_20_code
def yX12_write : MethodName := ⟨RX12, "write", "(III)I"⟩
abbrev cX12_tear : ByteArray := prog_14_method_21_code
def yX12_tear : MethodName := ⟨RX12, "tear", "()I"⟩
abbrev cX12_undo : ByteArray := prog_14_method_22_code
def yX12_undo : MethodName := ⟨RX12, "undo", "()I"⟩
abbrev cX12_word : ByteArray := prog_14_method_23_code
def yX12_word : MethodName := ⟨RX12, "word", "(I)I"⟩
abbrev cX12_forget : ByteArray := prog_14_method_24_code
def yX12_forget : MethodName := ⟨RX12, "forget", "()I"⟩
abbrev cX12_type : ByteArray := prog_14_method_25_code
def yX12_type : MethodName := ⟨RX12, "type", "(I)I"⟩
abbrev cX12_clear : ByteArray := prog_14_method_26_code
def yX12_clear : MethodName := ⟨RX12, "clear", "()I"⟩
abbrev cX12_byteAt : ByteArray := prog_14_method_27_code
def yX12_byteAt : MethodName := ⟨RX12, "byteAt", "(I)I"⟩
abbrev cX12_isWord : ByteArray := prog_14_method_28_code
def yX12_isWord : MethodName := ⟨RX12, "isWord", "(IIIIII)Z"⟩
abbrev cX12_nextToken : ByteArray := prog_14_method_29_code
def yX12_nextToken : MethodName := ⟨RX12, "nextToken", "()V"⟩
abbrev cX12_number : ByteArray := prog_14_method_30_code
def yX12_number : MethodName := ⟨RX12, "number", "(II)Z"⟩
abbrev cX12_readNote : ByteArray := prog_14_method_31_code
def yX12_readNote : MethodName := ⟨RX12, "readNote", "(I)Z"⟩
abbrev cX12_readPad : ByteArray := prog_14_method_32_code
def yX12_readPad : MethodName := ⟨RX12, "readPad", "()Z"⟩
abbrev cX12_read : ByteArray := prog_14_method_33_code
def yX12_read : MethodName := ⟨RX12, "read", "()I"⟩
abbrev cX12_writtenOn : ByteArray := prog_14_method_34_code
def yX12_writtenOn : MethodName := ⟨RX12, "writtenOn", "(I)I"⟩
abbrev cX12_of : ByteArray := prog_14_method_35_code
def yX12_of : MethodName := ⟨RX12, "of", "(II)I"⟩
abbrev cX12_dentOf : ByteArray := prog_14_method_36_code
def yX12_dentOf : MethodName := ⟨RX12, "dentOf", "(II)I"⟩
abbrev cX12_dent : ByteArray := prog_14_method_37_code
def yX12_dent : MethodName := ⟨RX12, "dent", "(II)I"⟩
abbrev cX12_about : ByteArray := prog_14_method_38_code
def yX12_about : MethodName := ⟨RX12, "about", "(II)I"⟩
abbrev cX12_force : ByteArray := prog_14_method_39_code
def yX12_force : MethodName := ⟨RX12, "force", "(III)I"⟩
abbrev cX12_forceIn : ByteArray := prog_14_method_40_code
def yX12_forceIn : MethodName := ⟨RX12, "forceIn", "(III)I"⟩
abbrev cX12_whoseOf : ByteArray := prog_14_method_41_code
def yX12_whoseOf : MethodName := ⟨RX12, "whoseOf", "(I)I"⟩
abbrev cX12_whose : ByteArray := prog_14_method_42_code
def yX12_whose : MethodName := ⟨RX12, "whose", "(I)I"⟩
abbrev cX12_own : ByteArray := prog_14_method_43_code
def yX12_own : MethodName := ⟨RX12, "own", "(II)I"⟩
abbrev cX12_shown : ByteArray := prog_14_method_44_code
def yX12_shown : MethodName := ⟨RX12, "shown", "(II)I"⟩
abbrev cX12_explained : ByteArray := prog_14_method_45_code
def yX12_explained : MethodName := ⟨RX12, "explained", "(III)I"⟩
abbrev cX12_isLost : ByteArray := prog_14_method_46_code
def yX12_isLost : MethodName := ⟨RX12, "isLost", "(III)Z"⟩
abbrev cX12_fits : ByteArray := prog_14_method_47_code
def yX12_fits : MethodName := ⟨RX12, "fits", "(I)Z"⟩
abbrev cX12_lost : ByteArray := prog_14_method_48_code
def yX12_lost : MethodName := ⟨RX12, "lost", "(IIIIII)I"⟩
abbrev cX12_pen : ByteArray := prog_14_method_49_code
def yX12_pen : MethodName := ⟨RX12, "pen", "(IIIII)I"⟩
abbrev cX12_nextRow : ByteArray := prog_14_method_50_code
def yX12_nextRow : MethodName := ⟨RX12, "nextRow", "()Z"⟩
abbrev cX12_exchange : ByteArray := prog_14_method_51_code
def yX12_exchange : MethodName := ⟨RX12, "exchange", "(II)V"⟩
abbrev cX12_placeOf : ByteArray := prog_14_method_52_code
def yX12_placeOf : MethodName := ⟨RX12, "placeOf", "(I)I"⟩
abbrev cX12_isRow : ByteArray := prog_14_method_53_code
def yX12_isRow : MethodName := ⟨RX12, "isRow", "()Z"⟩
abbrev cX12_orders : ByteArray := prog_14_method_54_code
def yX12_orders : MethodName := ⟨RX12, "orders", "(I)I"⟩
abbrev cX12_press : ByteArray := prog_14_method_55_code
def yX12_press : MethodName := ⟨RX12, "press", "(II)I"⟩
abbrev cX12_copies : ByteArray := prog_14_method_56_code
def yX12_copies : MethodName := ⟨RX12, "copies", "(IIII)I"⟩
abbrev cX12_common : ByteArray := prog_14_method_57_code
def yX12_common : MethodName := ⟨RX12, "common", "(JJ)J"⟩
abbrev cX12_rub : ByteArray := prog_14_method_58_code
def yX12_rub : MethodName := ⟨RX12, "rub", "(III)I"⟩
abbrev cX12_torn : ByteArray := prog_14_method_59_code
def yX12_torn : MethodName := ⟨RX12, "torn", "(I)I"⟩
abbrev cX12_draw : ByteArray := prog_14_method_60_code
def yX12_draw : MethodName := ⟨RX12, "draw", "(I)I"⟩
abbrev cX12_drawn : ByteArray := prog_14_method_61_code
def yX12_drawn : MethodName := ⟨RX12, "drawn", "(II)I"⟩
abbrev cX12_part : ByteArray := prog_14_method_62_code
def yX12_part : MethodName := ⟨RX12, "part", "(I)J"⟩
abbrev cX12_carry : ByteArray := prog_14_method_63_code
def yX12_carry : MethodName := ⟨RX12, "carry", "([II[III)V"⟩
abbrev cX12_image : ByteArray := prog_14_method_64_code
def yX12_image : MethodName := ⟨RX12, "image", "(I)I"⟩
abbrev cX12_from : ByteArray := prog_14_method_65_code
def yX12_from : MethodName := ⟨RX12, "from", "(I)I"⟩
abbrev cX12_status : ByteArray := prog_14_method_66_code
def yX12_status : MethodName := ⟨RX12, "status", "(I)I"⟩
abbrev cX12_countOf : ByteArray := prog_14_method_67_code
def yX12_countOf : MethodName := ⟨RX12, "countOf", "(I)I"⟩
abbrev cX12_count : ByteArray := prog_14_method_68_code
def yX12_count : MethodName := ⟨RX12, "count", "(I)I"⟩
abbrev cX12_mix : ByteArray := prog_14_method_69_code
def yX12_mix : MethodName := ⟨RX12, "mix", "(J)V"⟩
abbrev cX12_digest : ByteArray := prog_14_method_70_code
def yX12_digest : MethodName := ⟨RX12, "digest", "()J"⟩
def RJ6 : String := "java/lang/Integer"
def TJ6 : u_T := fun k => match k with
  | _ => ("", "", "", false)
def tyJ6 : Nat → FieldType := fun k => match k with
  | _ => .int
abbrev wsJ60 : List Cond := u_ws RJ6 TJ6 0
theorem nmJ6 : ∀ a, a < 0 → ∀ b, b < 0 → a ≠ b → (TJ6 a).2.1 ≠ (TJ6 b).2.1 := by decide +kernel
theorem tyJ6_ok : ∀ k, k < 0 → parseFieldDescriptor (TJ6 k).2.2.1 = some (tyJ6 k) := by decide +kernel
abbrev cJ6_bitCount_0f7a4 : ByteArray := prog_15_method_49_code
def yJ6_bitCount_0f7a4 : MethodName := ⟨RJ6, "bitCount", "(I)I"⟩
def RJ0 : String := "java/lang/String"
def TJ0 : u_T := fun k => match k with
  | _ => ("", "", "", false)
def tyJ0 : Nat → FieldType := fun k => match k with
  | _ => .int
abbrev wsJ00 : List Cond := u_ws RJ0 TJ0 0
theorem nmJ0 : ∀ a, a < 0 → ∀ b, b < 0 → a ≠ b → (TJ0 a).2.1 ≠ (TJ0 b).2.1 := by decide +kernel
theorem tyJ0_ok : ∀ k, k < 0 → parseFieldDescriptor (TJ0 k).2.2.1 = some (tyJ0 k) := by decide +kernel
abbrev cJ0_length_8abf5 : ByteArray := prog_16_method_54_code
def yJ0_length_8abf5 : MethodName := ⟨RJ0, "length", "()I"⟩
abbrev cJ0_charAt_5068e : ByteArray := prog_16_method_56_code
def yJ0_charAt_5068e : MethodName := ⟨RJ0, "charAt", "(I)C"⟩
abbrev cJ0_coder_7d493 : ByteArray := prog_16_method_152_code
def yJ0_coder_7d493 : MethodName := ⟨RJ0, "coder", "()B"⟩
abbrev cJ0_isLatin1_aae02 : ByteArray := prog_16_method_154_code
def yJ0_isLatin1_aae02 : MethodName := ⟨RJ0, "isLatin1", "()Z"⟩
abbrev cJ0_checkIndex_df160 : ByteArray := prog_16_method_155_code
def yJ0_checkIndex_df160 : MethodName := ⟨RJ0, "checkIndex", "(II)V"⟩
def RJ1 : String := "java/lang/StringLatin1"
def TJ1 : u_T := fun k => match k with
  | _ => ("", "", "", false)
def tyJ1 : Nat → FieldType := fun k => match k with
  | _ => .int
abbrev wsJ10 : List Cond := u_ws RJ1 TJ1 0
theorem nmJ1 : ∀ a, a < 0 → ∀ b, b < 0 → a ≠ b → (TJ1 a).2.1 ≠ (TJ1 b).2.1 := by decide +kernel
theorem tyJ1_ok : ∀ k, k < 0 → parseFieldDescriptor (TJ1 k).2.2.1 = some (tyJ1 k) := by decide +kernel
abbrev cJ1_charAt_3b067 : ByteArray := prog_17_method_2_code
def yJ1_charAt_3b067 : MethodName := ⟨RJ1, "charAt", "([BI)C"⟩
def RJ2 : String := "java/lang/StringUTF16"
def TJ2 : u_T := fun k => match k with
  | _ => ("", "", "", false)
def tyJ2 : Nat → FieldType := fun k => match k with
  | _ => .int
abbrev wsJ20 : List Cond := u_ws RJ2 TJ2 0
theorem nmJ2 : ∀ a, a < 0 → ∀ b, b < 0 → a ≠ b → (TJ2 a).2.1 ≠ (TJ2 b).2.1 := by decide +kernel
theorem tyJ2_ok : ∀ k, k < 0 → parseFieldDescriptor (TJ2 k).2.2.1 = some (tyJ2 k) := by decide +kernel
abbrev cJ2_getChar_3b067 : ByteArray := prog_18_method_5_code
def yJ2_getChar_3b067 : MethodName := ⟨RJ2, "getChar", "([BI)C"⟩
abbrev cJ2_length_9d52b : ByteArray := prog_18_method_6_code
def yJ2_length_9d52b : MethodName := ⟨RJ2, "length", "([B)I"⟩
abbrev cJ2_charAt_3b067 : ByteArray := prog_18_method_83_code
def yJ2_charAt_3b067 : MethodName := ⟨RJ2, "charAt", "([BI)C"⟩
abbrev cJ2_checkIndex_2214a : ByteArray := prog_18_method_91_code
def yJ2_checkIndex_2214a : MethodName := ⟨RJ2, "checkIndex", "(I[B)V"⟩
def RJ10 : String := "java/lang/System"
def TJ10 : u_T := fun k => match k with
  | _ => ("", "", "", false)
def tyJ10 : Nat → FieldType := fun k => match k with
  | _ => .int
abbrev wsJ100 : List Cond := u_ws RJ10 TJ10 0
theorem nmJ10 : ∀ a, a < 0 → ∀ b, b < 0 → a ≠ b → (TJ10 a).2.1 ≠ (TJ10 b).2.1 := by decide +kernel
theorem tyJ10_ok : ∀ k, k < 0 → parseFieldDescriptor (TJ10 k).2.2.1 = some (tyJ10 k) := by decide +kernel
def RJ3 : String := "jdk/internal/util/Preconditions"
def TJ3 : u_T := fun k => match k with
  | _ => ("", "", "", false)
def tyJ3 : Nat → FieldType := fun k => match k with
  | _ => .int
abbrev wsJ30 : List Cond := u_ws RJ3 TJ3 0
theorem nmJ3 : ∀ a, a < 0 → ∀ b, b < 0 → a ≠ b → (TJ3 a).2.1 ≠ (TJ3 b).2.1 := by decide +kernel
theorem tyJ3_ok : ∀ k, k < 0 → parseFieldDescriptor (TJ3 k).2.2.1 = some (tyJ3 k) := by decide +kernel
abbrev cJ3_checkIndex_8e157 : ByteArray := prog_20_method_11_code
def yJ3_checkIndex_8e157 : MethodName := ⟨RJ3, "checkIndex", "(IILjava/util/function/BiFunction;)I"⟩
def RL : String := "PressedPadLaw"
abbrev cL_law : ByteArray := code
def yL_law : MethodName := ⟨RL, "law", "([I)Z"⟩
abbrev vwCl : List vw_C := [(RX0, TX0, 0), (RX1, TX1, 0), (RX2, TX2, 4), (RX3, TX3, 0), (RX4, TX4, 12), (RX5, TX5, 1), (RX6, TX6, 0), (RX7, TX7, 8), (RX8, TX8, 5), (RX9, TX9, 0), (RX10, TX10, 0), (RX11, TX11, 15), (RX12, TX12, 30)]
end
section
/-! the words that every method is given, and those that a nest needs -/
def gG : List Cond := lw_tbl.filter goodWord
def nst : Cond → Bool
  | .fieldLinkNest .. => true
  | .methodLinkNest .. => true
  | .castable .. => true
  | _ => false
def nW : List Cond := lw_tbl.filter nst
theorem gG_in {w : Cond} (h : w ∈ lw_tbl) (g : goodWord w = true) : w ∈ gG := List.mem_filter.mpr ⟨h, g⟩
theorem nW_in {w : Cond} (h : w ∈ lw_tbl) (g : nst w = true) : w ∈ nW := List.mem_filter.mpr ⟨h, g⟩
theorem nst_tab {w : Cond} (g : nst w = true) : w.onTables = true := by
  cases w <;> first | rfl | (simp [nst] at g; done)
theorem nst_warm {w : Cond} (g : nst w = true) {s U : State} (hW : s.WarmedH U.vm) (h : va_Nw w s) : va_Nw w U := by
  cases w <;> first | exact va_Nw.warmF hW h | exact va_Nw.warmM hW h | exact va_Nw.warmC hW h | (simp [nst] at g; done)
def mW (y : MethodName) (cc : ByteArray) (n : Nat) (ret : Option FieldType) : List Cond := Cond.code y cc n ret :: gG
theorem mW_good {Ts : List Cond} (hT : ∀ w ∈ gG, w ∈ Ts) {y : MethodName} {cc : ByteArray} {n : Nat} {ret : Option FieldType} (hc : Cond.code y cc n ret ∈ gG) : GoodIn Ts (mW y cc n ret) := by
  intro w hw
  rcases List.mem_cons.mp hw with h | h
  · subst h
    exact ⟨hT _ hc, good_of_word (List.mem_filter.mp hc).2⟩
  · exact ⟨hT _ h, good_of_word (List.mem_filter.mp h).2⟩
/-! the pure state of an object: its int fields, its long fields, its arrays, by the places of the fields -/
def St : Type := (Nat → Int32) × (Nat → Int64) × (Nat → Nat → Int32)
def St.I (x : St) (k : Nat) : Int32 := x.1 k
def St.L (x : St) (k : Nat) : Int64 := x.2.1 k
def St.A (x : St) (k : Nat) : Nat → Int32 := x.2.2 k
def St.sI (x : St) (k : Nat) (v : Int32) : St := (fun j => if j = k then v else x.1 j, x.2)
def St.sL (x : St) (k : Nat) (v : Int64) : St := (x.1, fun j => if j = k then v else x.2.1 j, x.2.2)
def St.sA (x : St) (k : Nat) (v : Nat → Int32) : St := (x.1, x.2.1, fun j => if j = k then v else x.2.2 j)
def upS (t : Nat → St) (k : Nat) (x : St) : Nat → St := fun j => if j = k then x else t j
/-- a number that a boolean can be -/
def vb (x : Int32) : Prop := narrow .boolean (.int x) = .int x
/-! the loop's iterator -/
def itN {α : Type} (F : (α → Prop) → α → Prop) : Nat → α → Prop
  | 0 => fun _ => False
  | n + 1 => F (itN F n)
/-! the environment: numbers of the classes, of int[], boolean[], Pencil[] -/
abbrev VE : Type := va_G × ClassId × ClassId × ClassId × (Nat → Nat) × (Nat → Nat)
def tysG (E : VE) : List (ClassId × FieldType) := [(E.2.1, .int), (E.2.2.1, .boolean), (E.2.2.2.1, .object "PressedPad$Pencil")]
/-! the text's literals, and the flag that the JDK's strings ask for -/
def lenS : List Nat := [3, 6, 4, 4]
def bytS : List (List Int32) := [[112, 97, 100], [99, 97, 114, 98, 111, 110], [116, 101, 97, 114], [110, 111, 116, 101]]
def sF (E : VE) (A : Nat → Prop) (U : State) (H : Heap) : Prop :=
  vk_R RX7 48 "pad" (E.2.2.2.2.1 0) U ∧ vk_R RX7 68 "carbon" (E.2.2.2.2.1 1) U ∧ vk_R RX7 73 "tear" (E.2.2.2.2.1 2) U ∧ vk_R RX7 75 "note" (E.2.2.2.2.1 3) U ∧ vk_S 4 lenS bytS E.2.2.2.2.1 E.2.2.2.2.2 A U H ∧ va_Z "java/lang/String" "COMPACT_STRINGS" "Z" (.int 1) A U H ∧ va_Zq "jdk/internal/util/Preconditions" "SIOOBE_FORMATTER" "Ljava/util/function/BiFunction;" A U H
theorem sF_same {E : VE} {A : Nat → Prop} {u U : State} {H : Heap} (hv : U.vm = u.vm) (h : sF E A u H) : sF E A U H := by
  obtain ⟨h1, h2, h3, h4, h5, h6, h7⟩ := h
  have ha : u.vm.Alike U.vm := by rw [hv]; exact Vm.Alike.refl _
  exact ⟨vk_R.same hv h1, vk_R.same hv h2, vk_R.same hv h3, vk_R.same hv h4, vk_S.moved ha h5, va_Z.moved ha h6, va_Zq.moved ha h7⟩
theorem sF_go {E : VE} {A B : Nat → Prop} {s U : State} {H : Heap} {locs : List Loc} (h : sF E A s s.heap) (hS : va_S A s.heap H locs) (hAB : ∀ q, B q → A q) (hW : s.WarmedH U.vm) (hU : U.heap = H) : sF E B U U.heap := by
  obtain ⟨h1, h2, h3, h4, h5, h6, h7⟩ := h
  rw [hU]
  exact ⟨vk_R.warm hW h1, vk_R.warm hW h2, vk_R.warm hW h3, vk_R.warm hW h4, vk_S.narrow (vk_S.kept (vk_S.moved hW.alike h5) hS.2.1) hAB, va_Z.narrow (va_Z.kept (va_Z.moved hW.alike h6) hS.2.1) hAB, va_Zq.narrow (va_Zq.kept (va_Zq.moved hW.alike h7) hS.2.1) hAB⟩
def CPre (E : VE) (av : List Value) (sz : Nat) (w : va_W) : Array Value → State → Prop := va_Pc av (fun U => U.heap.size = sz ∧ va_P E.1 vwCl w U.heap ∧ va_K E.1 vwCl (tysG E) U ∧ va_D (fun _ => True) w ∧ (∀ x ∈ nW, va_Nw x U) ∧ sF E (va_A w sz) U U.heap)
def CQi {S : Type} (E : VE) (Post : Int32 → S → Prop) (wf : S → va_W) (w : va_W) (sz : Nat) : Array Value → State → Outcome → State → Prop := va_Qi Post (fun u t => va_P E.1 vwCl (wf u) t.heap) (va_A w sz)
def CQl {S : Type} (E : VE) (Post : Int64 → S → Prop) (wf : S → va_W) (w : va_W) (sz : Nat) : Array Value → State → Outcome → State → Prop := va_Ql Post (fun u t => va_P E.1 vwCl (wf u) t.heap) (va_A w sz)
def CQv {S : Type} (E : VE) (Post : S → Prop) (wf : S → va_W) (w : va_W) (sz : Nat) : Array Value → State → Outcome → State → Prop := va_Qv Post (fun u t => va_P E.1 vwCl (wf u) t.heap) (va_A w sz)
theorem CPre_blind {E : VE} {av : List Value} {sz : Nat} {w : va_W} : FrameBlind (CPre E av sz w) := by
  intro a U g mk q
  obtain ⟨q0, q1, qP, qK, qD, qN, qF⟩ := q
  exact ⟨q0, q1, qP, va_K.moved (u := U) (U := U.calling g mk a) (Vm.Alike.refl U.vm) qK, qD, fun x hx => va_Nw.same (u := U) (U := U.calling g mk a) (nst_tab (List.mem_filter.mp hx).2) rfl (qN x hx), sF_same (u := U) (U := U.calling g mk a) rfl qF⟩
/-- what holds all through a method's body -/
def VC (p : Program) (s : State) (m : MethodId) (args : Array Value) (meth : Method) (c : Code) (E : VE) (A : Nat → Prop) (cc : ByteArray) (nL : Nat) (ret : Option FieldType) (own : String) : Prop :=
  p.tables.exec = Jvm.exec ∧ c.code = cc ∧ c.maxLocals = nL ∧ meth.sig.returnType = ret ∧ s.vm.findClass own = some m.cls ∧ (∀ w ∈ gG, w.before args s = true) ∧ va_K E.1 vwCl (tysG E) s ∧ (∀ q : Nat, s.heap.size ≤ q → A q) ∧ meth.locks = false ∧ (∀ x ∈ nW, va_Nw x s) ∧ sF E A s s.heap
/-- the machine at a place of the body, with a world, locals and a stack -/
def V (p : Program) (l : Launch) (e : Env) (R : Room) (s : State) (m : MethodId) (args : Array Value) (below : List Frame) (meth : Method) (c : Code) (E : VE) (A : Nat → Prop) (nL cells slots : Nat) (Q : State → Prop) (w : va_W) (pc : Nat) (lv : List (Nat × Value)) (st : List Value) : Prop :=
  ∀ (H : Heap) (locs : List Loc) (ls : Array Slot), va_P E.1 vwCl w H → va_D A w → va_S A s.heap H locs → lv_has ls nL lv → W p l e R s m args below meth c H locs cells slots Q (F0 m pc ls st)
theorem va_D_adr {A : Nat → Prop} {w w' : va_W} (h : va_D A w) (e : w'.map Prod.fst = w.map Prod.fst) : va_D A w' := by
  have key : ∀ (k : Nat) (q : Nat × va_E), w'[k]? = some q → ∃ q0, w[k]? = some q0 ∧ q0.1 = q.1 := by
    intro k q hq
    have h1 : (w'.map Prod.fst)[k]? = some q.1 := by rw [List.getElem?_map, hq]; rfl
    rw [e, List.getElem?_map] at h1
    cases hw : w[k]? with
    | none => rw [hw] at h1; cases h1
    | some q0 => rw [hw] at h1; exact ⟨q0, rfl, Option.some.inj h1⟩
  refine ⟨fun i j p q hp hq hpq => ?_, fun k q hq => ?_⟩
  · obtain ⟨p0, h1, h2⟩ := key i p hp
    obtain ⟨q0, h3, h4⟩ := key j q hq
    exact h.1 i j p0 q0 h1 h3 (by rw [h2, h4, hpq])
  · obtain ⟨q0, h1, h2⟩ := key k q hq
    rw [← h2]
    exact h.2 k q0 h1
/-- cells put at places -/
def putc : va_W → List Nat → va_W → va_W
  | w, i :: is, x :: xs => putc (w.set i x) is xs
  | w, _, _ => w
theorem putc_mem : ∀ (is : List Nat) (xs : va_W) (w : va_W) (k : Nat) (q : Nat × va_E), (putc w is xs)[k]? = some q → (q ∈ xs) ∨ (w[k]? = some q ∧ (xs.length = is.length → k ∉ is))
  | [], xs, w, k, q, h => by
    have h' : w[k]? = some q := by cases xs <;> exact h
    exact Or.inr ⟨h', fun _ => List.not_mem_nil⟩
  | i :: is, [], w, k, q, h => Or.inr ⟨h, fun e => by simp at e⟩
  | i :: is, x :: xs, w, k, q, h => by
    have h1 : (putc (w.set i x) is xs)[k]? = some q := h
    rcases putc_mem is xs (w.set i x) k q h1 with h2 | ⟨h2, h3⟩
    · exact Or.inl (List.mem_cons_of_mem _ h2)
    · by_cases hk : i = k
      · subst hk
        by_cases hl : i < w.length
        · rw [List.getElem?_set_self hl] at h2
          exact Or.inl (by rw [← Option.some.inj h2]; exact List.mem_cons_self)
        · rw [List.getElem?_eq_none (by rw [List.length_set]; omega)] at h2
          cases h2
      · rw [List.getElem?_set_ne hk] at h2
        refine Or.inr ⟨h2, fun e => ?_⟩
        have e' : xs.length = is.length := by simpa using e
        intro hm
        rcases List.mem_cons.mp hm with h4 | h4
        · exact hk h4.symm
        · exact h3 e' h4
theorem putc_adr : ∀ (is : List Nat) (xs : va_W) (w : va_W), is.map (fun i => (w.map Prod.fst)[i]?) = (xs.map Prod.fst).map some → (putc w is xs).map Prod.fst = w.map Prod.fst
  | [], xs, w, _ => by cases xs <;> rfl
  | i :: is, [], w, h => by simp at h
  | i :: is, x :: xs, w, h => by
    have h1 : (w.map Prod.fst)[i]? = some x.1 := by
      have := congrArg List.head? h
      simpa using this
    have h2 : is.map (fun i => (w.map Prod.fst)[i]?) = (xs.map Prod.fst).map some := by
      have := congrArg List.tail h
      simpa using this
    have e : (w.set i x).map Prod.fst = w.map Prod.fst := by
      rw [List.map_set]
      apply List.ext_getElem?
      intro k
      by_cases hk : i = k
      · subst hk
        rw [h1, List.getElem?_set_self (List.getElem?_eq_some_iff.mp h1).1]
      · rw [List.getElem?_set_ne hk]
    show (putc (w.set i x) is xs).map Prod.fst = _
    rw [putc_adr is xs (w.set i x) (by rw [e]; exact h2), e]
/-- behind a call: the callee's new cells, and the others as they were -/
theorem put_join {A : Nat → Prop} {D : va_G} {w wc wc' : va_W} {H H1 : Heap} (hP : va_P D vwCl w H) (hD : va_D A w) (is : List Nat) (hC : is.map (fun i => w[i]?) = wc.map some) (hadr : wc'.map Prod.fst = wc.map Prod.fst)
    (hk : ∀ q : Nat, q < H.size → ¬ va_A wc H.size q → H1[q]? = H[q]?) (hP1 : va_P D vwCl wc' H1) : va_P D vwCl (putc w is wc') H1 ∧ va_D A (putc w is wc') := by
  have hlen : wc'.length = is.length := by
    have h1 := congrArg List.length hC
    have h2 := congrArg List.length hadr
    simp at h1 h2
    omega
  refine ⟨fun k q hq => ?_, va_D_adr hD (putc_adr is wc' w ?_)⟩
  · rcases putc_mem is wc' w k q hq with h | ⟨h, h2⟩
    · obtain ⟨i, hi⟩ := List.getElem?_of_mem h
      exact hP1 i q hi
    · have hni := h2 hlen
      have hat := hP k q h
      refine hat.kept (hk q.1 hat.lt (fun hA => ?_))
      rcases hA with ⟨k2, e, h3⟩ | h3
      · have h4 : (is.map (fun i => w[i]?))[k2]? = some (some (q.1, e)) := by rw [hC, List.getElem?_map, h3]; rfl
        rw [List.getElem?_map] at h4
        cases hi : is[k2]? with
        | none => rw [hi] at h4; cases h4
        | some i =>
          rw [hi] at h4
          have h5 : w[i]? = some (q.1, e) := Option.some.inj h4
          have h6 := hD.1 k i q (q.1, e) h h5 rfl
          subst h6
          exact hni (List.mem_of_getElem? hi)
      · exact absurd hat.lt (Nat.not_lt.mpr h3)
  · rw [hadr]
    have h1 : is.map (fun i => (w.map Prod.fst)[i]?) = (is.map (fun i => w[i]?)).map (Option.map Prod.fst) := by
      rw [List.map_map]
      apply List.map_congr_left
      intro i _
      simp [List.getElem?_map]
    rw [h1, hC, List.map_map, List.map_map]
    rfl
theorem pick_P {D : va_G} {w wc : va_W} {H : Heap} (hP : va_P D vwCl w H) (is : List Nat) (hC : is.map (fun i => w[i]?) = wc.map some) : va_P D vwCl wc H := by
  intro k q hq
  have h4 : (is.map (fun i => w[i]?))[k]? = some (some q) := by rw [hC, List.getElem?_map, hq]; rfl
  rw [List.getElem?_map] at h4
  cases hi : is[k]? with
  | none => rw [hi] at h4; cases h4
  | some i =>
    rw [hi] at h4
    exact hP i q (Option.some.inj h4)
end
section
/-- the force of a pencil, and of the six kinds -/
def fo0 (x y : Int32) : Int32 := if x - y < 0 then 0 else if 9 < x - y then 9 else x - y
def fo (k x y : Int32) : Int32 := if k = 0 then fo0 x y else if k = 1 then fo0 (x + 1) y else if k = 2 then fo0 x y / 2 else if k = 3 then fo0 (x + 1) y else if k = 4 then (if 1 < y then 0 else fo0 x y / 2) else if k = 5 then fo0 (x + 1) (y / 2) else 0
def hink (k : Int32) : Int32 := if k = 0 then 1 else if k = 1 then 1 else if k = 2 then 1 else if k = 3 then 0 else if k = 4 then 1 else 0
def wpX5_forceOf (x1 : Int32) (x2 : Int32) (x3 : Int32) (Post : Int32 → Prop) : Prop := Post (fo x1 x2 x3)
def wpX5_hasInk (x1 : Int32) (Post : Int32 → Prop) : Prop := Post (hink x1)
def wpX4_placeOf (x0 : Int32) (x1 : Int32)   (Post : Int32 → Prop) : Prop := Post (((2 : Int32) + (x0 * 14)) + x1)
def wpX4_dentOf (x1 : Int32) (x2 : Int32) (p : St)  (Post : Int32 → Prop) : Prop := wpX4_placeOf x1 ((2 : Int32) + x2) (fun (r1 : Int32) => vp_in r1 86 ∧ Post ((p.A 0) r1.toNatClampNeg))
def wpX4_noteCount  (p : St)  (Post : Int32 → Prop) : Prop := Post ((p.A 0) 1)
def wpX4_forceDown (x1 : Int32) (x2 : Int32) (p : St)  (Post : Int32 → Prop) : Prop := ((x2 < 0) → Post 0) ∧ ((¬ x2 < 0) → ((x2 < 6) → vp_in ((x1 * 6) + x2) 60 ∧ Post ((p.A 9) ((x1 * 6) + x2).toNatClampNeg)) ∧ ((¬ x2 < 6) → Post 0))
def wpX4_forceOn (x1 : Int32) (x2 : Int32) (p : St)  (Post : Int32 → Prop) : Prop := vp_in x1 10 ∧ wpX4_forceDown x1 (x2 - ((p.A 8) x1.toNatClampNeg)) p (fun (r1 : Int32) => Post r1)
def wlX11_dentInto_3 (n0 : Nat) (Post : (Nat → Int32) → Prop) (KX : (Nat → Int32) → Prop) (self : (Int32 × Int32 × Int32 × Int32 × (Nat → Int32)) → Prop) (x1 : Int32) (x2 : Int32) (x3 : Int32) (x4 : Int32) (p : (Nat → Int32)) : Prop := ((12 ≤ x4) → KX p) ∧ ((¬ 12 ≤ x4) → ∀ x5_1 : Int32, x5_1 = (x1 + x4) → ((((x2 >>> (x4 &&& 31)) &&& 1) = 0) → ∀ x4_2 : Int32, x4_2 = x4 + 1 → self (x1, x2, x3, x4_2, p)) ∧ ((¬ ((x2 >>> (x4 &&& 31)) &&& 1) = 0) → ((x5_1 < 0) → ∀ x4_3 : Int32, x4_3 = x4 + 1 → self (x1, x2, x3, x4_3, p)) ∧ ((¬ x5_1 < 0) → (((Int32.ofNat n0) ≤ x5_1) → ∀ x4_4 : Int32, x4_4 = x4 + 1 → self (x1, x2, x3, x4_4, p)) ∧ ((¬ (Int32.ofNat n0) ≤ x5_1) → vp_in x5_1 n0 ∧ ((x3 ≤ (p x5_1.toNatClampNeg)) → ∀ x4_5 : Int32, x4_5 = x4 + 1 → self (x1, x2, x3, x4_5, p)) ∧ ((¬ x3 ≤ (p x5_1.toNatClampNeg)) → vp_in x5_1 n0 ∧ ∀ p6 : (Nat → Int32), p6 = (upd p x5_1.toNatClampNeg x3) → ∀ x4_7 : Int32, x4_7 = x4 + 1 → self (x1, x2, x3, x4_7, p6))))))
def wLX11_dentInto_3 (n0 : Nat) (Post : (Nat → Int32) → Prop) (KX : (Nat → Int32) → Prop) : Nat → (Int32 × Int32 × Int32 × Int32 × (Nat → Int32)) → Prop := itN (fun self x => wlX11_dentInto_3 n0 Post KX self x.1 x.2.1 x.2.2.1 x.2.2.2.1 x.2.2.2.2)
def wpX11_dentInto (x1 : Int32) (x2 : Int32) (x3 : Int32) (p : (Nat → Int32)) (n0 : Nat) (Post : (Nat → Int32) → Prop) : Prop := ∃ n, wLX11_dentInto_3 n0 Post (fun (p8 : (Nat → Int32)) => Post p8) n (x1, x2, x3, 0, p)
def wlX2_look_3 (q : St) (Post : St → Prop) (KX : Int32 → Int32 → St → Prop) (self : (Int32 × Int32 × Int32 × St) → Prop) (x2 : Int32) (x3 : Int32) (x4 : Int32) (p : St) : Prop := ((12 ≤ x4) → KX x2 x3 p) ∧ ((¬ 12 ≤ x4) → wpX4_dentOf x2 x4 q (fun (r1 : Int32) => vp_in x4 12 ∧ ∀ p2 : St, p2 = p.sA 0 (upd (p.A 0) x4.toNatClampNeg r1) → vp_in x4 12 ∧ ∀ p3 : St, p3 = p2.sA 1 (upd (p2.A 1) x4.toNatClampNeg 0) → ∀ x4_4 : Int32, x4_4 = x4 + 1 → self (x2, x3, x4_4, p3)))
def wLX2_look_3 (q : St) (Post : St → Prop) (KX : Int32 → Int32 → St → Prop) : Nat → (Int32 × Int32 × Int32 × St) → Prop := itN (fun self x => wlX2_look_3 q Post KX self x.1 x.2.1 x.2.2.1 x.2.2.2)
def wlX2_look_41 (q : St) (Post : St → Prop) (KX : St → Prop) (self : (Int32 × Int32 × Int32 × St) → Prop) (x2 : Int32) (x3 : Int32) (x4 : Int32) (p : St) : Prop := wpX4_noteCount q (fun (r8 : Int32) => ((r8 ≤ x4) → KX p) ∧ ((¬ r8 ≤ x4) → ((((x3 >>> (x4 &&& 31)) &&& 1) = 0) → ∀ x4_9 : Int32, x4_9 = x4 + 1 → self (x2, x3, x4_9, p)) ∧ ((¬ ((x3 >>> (x4 &&& 31)) &&& 1) = 0) → vp_in x4 10 ∧ wpX4_forceOn x4 x2 q (fun (r10 : Int32) => wpX11_dentInto 0 ((q.A 7) x4.toNatClampNeg) r10 (p.A 1) 12 (fun (p11 : (Nat → Int32)) => ∀ x4_12 : Int32, x4_12 = x4 + 1 → self (x2, x3, x4_12, (p.sA 1 p11)))))))
def wLX2_look_41 (q : St) (Post : St → Prop) (KX : St → Prop) : Nat → (Int32 × Int32 × Int32 × St) → Prop := itN (fun self x => wlX2_look_41 q Post KX self x.1 x.2.1 x.2.2.1 x.2.2.2)
def wpX2_look (x2 : Int32) (x3 : Int32) (p : St) (q : St)  (Post : St → Prop) : Prop := ∃ n, wLX2_look_3 q Post (fun (y5 : Int32) (y6 : Int32) (p7 : St) => ∃ n, wLX2_look_41 q Post (fun (p13 : St) => Post p13) n (y5, y6, 0, p7)) n (x2, x3, 0, p)
def wjX2_guess_91  (Post : Int32 → St → Prop) (self : (Int32 × Int32 × St) → Prop) (KX : St → Prop) (x1 : Int32) (x2 : Int32) (p : St) : Prop := ∀ p3 : St, p3 = p.sI 3 ((p.I 3) ||| ((1 : Int32) <<< (x2 &&& 31))) → ∀ x2_4 : Int32, x2_4 = x2 + 1 → self (x1, x2_4, p3)
def wjX2_guess_77  (Post : Int32 → St → Prop) (self : (Int32 × Int32 × St) → Prop) (KX : St → Prop) (x1 : Int32) (x2 : Int32) (x3 : Int32) (p : St) : Prop := ((¬ x3 = 0) → wjX2_guess_91 Post self KX x1 x2 p) ∧ ((x3 = 0) → vp_in x2 12 ∧ ((((p.A 1) x2.toNatClampNeg) < x1) → ∀ x2_5 : Int32, x2_5 = x2 + 1 → self (x1, x2_5, p)) ∧ ((¬ ((p.A 1) x2.toNatClampNeg) < x1) → wjX2_guess_91 Post self KX x1 x2 p))
def wjX2_guess_61  (Post : Int32 → St → Prop) (self : (Int32 × Int32 × St) → Prop) (KX : St → Prop) (x1 : Int32) (x2 : Int32) (x3 : Int32) (p : St) : Prop := ((x3 = 0) → wjX2_guess_77 Post self KX x1 x2 x3 p) ∧ ((¬ x3 = 0) → ∀ p6 : St, p6 = p.sI 2 ((p.I 2) ||| ((1 : Int32) <<< (x2 &&& 31))) → wjX2_guess_77 Post self KX x1 x2 x3 p6)
def wjX2_guess_44  (Post : Int32 → St → Prop) (self : (Int32 × Int32 × St) → Prop) (KX : St → Prop) (x1 : Int32) (x2 : Int32) (z0 : Int32) (p : St) : Prop := ((z0 = 0) → wjX2_guess_61 Post self KX x1 x2 z0 p) ∧ ((¬ z0 = 0) → vp_in x2 12 ∧ ((((p.A 0) x2.toNatClampNeg) = x1) → wjX2_guess_61 Post self KX x1 x2 z0 p) ∧ ((¬ ((p.A 0) x2.toNatClampNeg) = x1) → Post 0 p))
def wlX2_guess_18  (Post : Int32 → St → Prop) (KX : St → Prop) (self : (Int32 × Int32 × St) → Prop) (x1 : Int32) (x2 : Int32) (p : St) : Prop := ((12 ≤ x2) → KX p) ∧ ((¬ 12 ≤ x2) → vp_in x2 12 ∧ vp_in x2 12 ∧ ((((p.A 0) x2.toNatClampNeg) = ((p.A 1) x2.toNatClampNeg)) → wjX2_guess_44 Post self KX x1 x2 0 p) ∧ ((¬ ((p.A 0) x2.toNatClampNeg) = ((p.A 1) x2.toNatClampNeg)) → wjX2_guess_44 Post self KX x1 x2 1 p))
def wLX2_guess_18  (Post : Int32 → St → Prop) (KX : St → Prop) : Nat → (Int32 × Int32 × St) → Prop := itN (fun self x => wlX2_guess_18  Post KX self x.1 x.2.1 x.2.2)
def wpX2_guess (x1 : Int32) (p : St)  (Post : Int32 → St → Prop) : Prop := ∀ p1 : St, p1 = p.sI 2 0 → ∀ p2 : St, p2 = p1.sI 3 0 → ((0 < x1) → ∃ n, wLX2_guess_18 Post (fun (p7 : St) => Post 1 p7) n (x1, 0, p2)) ∧ ((¬ 0 < x1) → Post 0 p2)
def wpX2_isFit (x1 : Int32) (p : St)  (Post : Int32 → Prop) : Prop := ((¬ (x1 &&& (p.I 2)) = (p.I 2)) → Post 0) ∧ (((x1 &&& (p.I 2)) = (p.I 2)) → ((¬ (x1 &&& ((p.I 3) ^^^ (-1))) = 0) → Post 0) ∧ (((x1 &&& ((p.I 3) ^^^ (-1))) = 0) → Post 1))
def wlX4_beginAnew_22  (Post : St → Prop) (KX : St → Prop) (self : (Int32 × St) → Prop) (x2 : Int32) (p : St) : Prop := ((86 ≤ x2) → KX p) ∧ ((¬ 86 ≤ x2) → vp_in x2 86 ∧ ∀ p5 : St, p5 = p.sA 0 (upd (p.A 0) x2.toNatClampNeg 0) → ∀ x2_6 : Int32, x2_6 = x2 + 1 → self (x2_6, p5))
def wLX4_beginAnew_22  (Post : St → Prop) (KX : St → Prop) : Nat → (Int32 × St) → Prop := itN (fun self x => wlX4_beginAnew_22  Post KX self x.1 x.2)
def wpX4_beginAnew (x1 : Int32) (p : St)  (Post : St → Prop) : Prop := ∀ p1 : St, p1 = p.sI 3 x1 → ∀ p2 : St, p2 = p1.sI 4 0 → ∀ p3 : St, p3 = p2.sI 2 0 → ∀ p4 : St, p4 = p3.sI 11 0 → ∃ n, wLX4_beginAnew_22 Post (fun (p7 : St) => Post p7) n (0, p4)
def wpX4_copyFrom  (p : St) (q : St)  (Post : St → Prop) : Prop := ∀ p1 : St, p1 = p.sI 3 (q.I 3) → ∀ p2 : St, p2 = p1.sI 4 (q.I 4) → ∀ p3 : St, p3 = p2.sI 2 (q.I 2) → ∀ p4 : St, p4 = p3.sI 11 (q.I 11) → ∀ p5 : St, p5 = p4.sA 0 (va_cpy (q.A 0) (p4.A 0) 0 0 86) → ¬ ((p5.I 2) * 86) < 0 ∧ 0 + ((p5.I 2) * 86).toNatClampNeg ≤ 688 ∧ 0 + ((p5.I 2) * 86).toNatClampNeg ≤ 688 ∧ ∀ p6 : St, p6 = p5.sA 1 (va_cpy (q.A 1) (p5.A 1) 0 0 ((p5.I 2) * 86).toNatClampNeg) → ∀ p7 : St, p7 = p6.sA 5 (va_cpy (q.A 5) (p6.A 5) 0 0 10) → ∀ p8 : St, p8 = p7.sA 6 (va_cpy (q.A 6) (p7.A 6) 0 0 10) → ∀ p9 : St, p9 = p8.sA 7 (va_cpy (q.A 7) (p8.A 7) 0 0 10) → ∀ p10 : St, p10 = p9.sA 8 (va_cpy (q.A 8) (p9.A 8) 0 0 10) → ∀ p11 : St, p11 = p10.sA 9 (va_cpy (q.A 9) (p10.A 9) 0 0 60) → ∀ p12 : St, p12 = p11.sA 10 (va_cpy (q.A 10) (p11.A 10) 0 0 8) → Post p12
def wjX4_keepForUndo_32  (Post : St → Prop) (p : St) : Prop := ¬ ((p.I 2) * 86) < 0 ∧ ((p.I 2) * 86).toNatClampNeg + 86 ≤ 688 ∧ ∀ p1 : St, p1 = p.sA 1 (va_cpy (p.A 0) (p.A 1) 0 ((p.I 2) * 86).toNatClampNeg 86) → ∀ p2 : St, p2 = p1.sI 2 ((p1.I 2) + 1) → Post p2
def wpX4_keepForUndo  (p : St)  (Post : St → Prop) : Prop := (((p.I 2) < 8) → wjX4_keepForUndo_32 Post p) ∧ ((¬ (p.I 2) < 8) → ∀ p3 : St, p3 = p.sA 1 (va_cpy (p.A 1) (p.A 1) 86 0 602) → ∀ p4 : St, p4 = p3.sI 2 7 → wjX4_keepForUndo_32 Post p4)
def wpX4_goBack  (p : St)  (Post : St → Prop) : Prop := (((p.I 2) ≤ 0) → Post p) ∧ ((¬ (p.I 2) ≤ 0) → ∀ p1 : St, p1 = p.sI 2 ((p.I 2) - 1) → ¬ ((p1.I 2) * 86) < 0 ∧ ((p1.I 2) * 86).toNatClampNeg + 86 ≤ 688 ∧ ∀ p2 : St, p2 = p1.sA 0 (va_cpy (p1.A 1) (p1.A 0) ((p1.I 2) * 86).toNatClampNeg 0 86) → Post p2)
def wpX4_top  (p : St)  (Post : Int32 → Prop) : Prop := Post ((p.A 0) 0)
def wpX4_isUsedUp  (p : St)  (Post : Int32 → Prop) : Prop := ((((p.A 0) 0) < (p.I 3)) → Post 0) ∧ ((¬ ((p.A 0) 0) < (p.I 3)) → Post 1)
def wpX4_hasSheet (x1 : Int32) (p : St)  (Post : Int32 → Prop) : Prop := ((x1 < 0) → Post 0) ∧ ((¬ x1 < 0) → (((p.I 3) ≤ x1) → Post 0) ∧ ((¬ (p.I 3) ≤ x1) → Post 1))
def wpX4_hasSheets (x1 : Int32) (p : St)  (Post : Int32 → Prop) : Prop := ((x1 < 0) → Post 0) ∧ ((¬ x1 < 0) → ((((1 : Int32) <<< ((p.I 3) &&& 31)) ≤ x1) → Post 0) ∧ ((¬ ((1 : Int32) <<< ((p.I 3) &&& 31)) ≤ x1) → Post 1))
def wpX4_hasNote (x1 : Int32) (p : St)  (Post : Int32 → Prop) : Prop := ((x1 < 0) → Post 0) ∧ ((¬ x1 < 0) → ((((p.A 0) 1) ≤ x1) → Post 0) ∧ ((¬ ((p.A 0) 1) ≤ x1) → Post 1))
def wpX4_hasNotes (x1 : Int32) (p : St)  (Post : Int32 → Prop) : Prop := ((x1 < 0) → Post 0) ∧ ((¬ x1 < 0) → ((((1 : Int32) <<< (((p.A 0) 1) &&& 31)) ≤ x1) → Post 0) ∧ ((¬ ((1 : Int32) <<< (((p.A 0) 1) &&& 31)) ≤ x1) → Post 1))
def wpX4_inkOf (x1 : Int32) (p : St)  (Post : Int32 → Prop) : Prop := wpX4_placeOf x1 0 (fun (r1 : Int32) => vp_in r1 86 ∧ Post ((p.A 0) r1.toNatClampNeg))
def wpX4_copyOf (x1 : Int32) (p : St)  (Post : Int32 → Prop) : Prop := wpX4_placeOf x1 1 (fun (r1 : Int32) => vp_in r1 86 ∧ Post ((p.A 0) r1.toNatClampNeg))
def wpX4_tearTop  (p : St)  (Post : Int32 → St → Prop) : Prop := ∀ p1 : St, p1 = p.sA 0 (upd (p.A 0) 0 (((p.A 0) 0) + 1)) → Post (((p1.A 0) 0) - 1) p1
def wjX4_pressInto_42  (Post : St → Prop) (x1 : Int32) (x2 : Int32) (x3 : Int32) (z0 : Int32) (p : St) : Prop := ((z0 = 0) → Post p) ∧ ((¬ z0 = 0) → ((x3 < 2) → Post p) ∧ ((¬ x3 < 2) → wpX4_placeOf x1 1 (fun (r3 : Int32) => vp_in r3 86 ∧ vp_in r3 86 ∧ ∀ p4 : St, p4 = p.sA 0 (upd (p.A 0) r3.toNatClampNeg (((p.A 0) r3.toNatClampNeg) ||| x2)) → Post p4)))
def wpX4_pressInto (x1 : Int32) (x2 : Int32) (x3 : Int32) (p : St)  (Post : St → Prop) : Prop := wpX4_placeOf x1 2 (fun (r1 : Int32) => wpX11_dentInto r1 x2 x3 (p.A 0) 86 (fun (p2 : (Nat → Int32)) => ((x1 ≤ (((p.sA 0 p2).A 0) 0)) → wjX4_pressInto_42 Post x1 x2 x3 0 (p.sA 0 p2)) ∧ ((¬ x1 ≤ (((p.sA 0 p2).A 0) 0)) → ((((((p.sA 0 p2).I 4) >>> ((x1 - 1) &&& 31)) &&& 1) = 0) → wjX4_pressInto_42 Post x1 x2 x3 0 (p.sA 0 p2)) ∧ ((¬ ((((p.sA 0 p2).I 4) >>> ((x1 - 1) &&& 31)) &&& 1) = 0) → wjX4_pressInto_42 Post x1 x2 x3 1 (p.sA 0 p2)))))
def wlX4_putNote_71  (Post : Int32 → St → Prop) (KX : Int32 → Int32 → Int32 → Int32 → St → Prop) (self : (Int32 × Int32 × Int32 × Int32 × Int32 × Int32 × St) → Prop) (x2 : Int32) (x3 : Int32) (x4 : Int32) (x5 : Int32) (x6 : Int32) (x7 : Int32) (p : St) : Prop := ((6 ≤ x7) → KX x2 x4 x5 x6 p) ∧ ((¬ 6 ≤ x7) → wpX5_forceOf x2 x3 x7 (fun (r7 : Int32) => vp_in ((x5 * 6) + x7) 60 ∧ ∀ p8 : St, p8 = p.sA 9 (upd (p.A 9) ((x5 * 6) + x7).toNatClampNeg r7) → ∀ x7_9 : Int32, x7_9 = x7 + 1 → self (x2, x3, x4, x5, x6, x7_9, p8)))
def wLX4_putNote_71  (Post : Int32 → St → Prop) (KX : Int32 → Int32 → Int32 → Int32 → St → Prop) : Nat → (Int32 × Int32 × Int32 × Int32 × Int32 × Int32 × St) → Prop := itN (fun self x => wlX4_putNote_71  Post KX self x.1 x.2.1 x.2.2.1 x.2.2.2.1 x.2.2.2.2.1 x.2.2.2.2.2.1 x.2.2.2.2.2.2)
def wlX4_putNote_143  (Post : Int32 → St → Prop) (KX : Int32 → St → Prop) (self : (Int32 × Int32 × Int32 × St) → Prop) (x4 : Int32) (x5 : Int32) (x7 : Int32) (p : St) : Prop := (((p.I 3) ≤ x7) → KX x5 p) ∧ ((¬ (p.I 3) ≤ x7) → wpX4_forceOn x5 x7 p (fun (r17 : Int32) => wpX4_pressInto x7 x4 r17 p (fun (p18 : St) => ∀ x7_19 : Int32, x7_19 = x7 + 1 → self (x4, x5, x7_19, p18))))
def wLX4_putNote_143  (Post : Int32 → St → Prop) (KX : Int32 → St → Prop) : Nat → (Int32 × Int32 × Int32 × St) → Prop := itN (fun self x => wlX4_putNote_143  Post KX self x.1 x.2.1 x.2.2.1 x.2.2.2)
def wpX4_putNote (x2 : Int32) (x3 : Int32) (x4 : Int32) (p : St)  (Post : Int32 → St → Prop) : Prop := ∀ x5_1 : Int32, x5_1 = ((p.A 0) 1) → ∀ x6_2 : Int32, x6_2 = ((p.A 0) 0) → ((10 ≤ x5_1) → Post (-1) p) ∧ ((¬ 10 ≤ x5_1) → ((x6_2 < (p.I 3)) → vp_in x5_1 10 ∧ ∀ p3 : St, p3 = p.sA 5 (upd (p.A 5) x5_1.toNatClampNeg x2) → vp_in x5_1 10 ∧ ∀ p4 : St, p4 = p3.sA 6 (upd (p3.A 6) x5_1.toNatClampNeg x3) → vp_in x5_1 10 ∧ ∀ p5 : St, p5 = p4.sA 7 (upd (p4.A 7) x5_1.toNatClampNeg x4) → vp_in x5_1 10 ∧ ∀ p6 : St, p6 = p5.sA 8 (upd (p5.A 8) x5_1.toNatClampNeg x6_2) → ∃ n, wLX4_putNote_71 Post (fun (y10 : Int32) (y11 : Int32) (y12 : Int32) (y13 : Int32) (p14 : St) => ∀ p15 : St, p15 = p14.sA 0 (upd (p14.A 0) 1 (y12 + 1)) → wpX5_hasInk y10 (fun (r16 : Int32) => ((r16 = 0) → ∃ n, wLX4_putNote_143 Post (fun (y20 : Int32) (p21 : St) => Post y20 p21) n (y11, y12, y13, p15)) ∧ ((¬ r16 = 0) → wpX4_placeOf y13 0 (fun (r22 : Int32) => vp_in r22 86 ∧ vp_in r22 86 ∧ ∀ p23 : St, p23 = p15.sA 0 (upd (p15.A 0) r22.toNatClampNeg (((p15.A 0) r22.toNatClampNeg) ||| y11)) → ∃ n, wLX4_putNote_143 Post (fun (y24 : Int32) (p25 : St) => Post y24 p25) n (y11, y12, y13, p23))))) n (x2, x3, x4, x5_1, x6_2, 0, p6)) ∧ ((¬ x6_2 < (p.I 3)) → Post (-1) p))
def wlX4_writtenOn_4 (p : St) (Post : Int32 → Prop) (KX : Int32 → Prop) (self : (Int32 × Int32 × Int32) → Prop) (x1 : Int32) (x2 : Int32) (x3 : Int32) : Prop := ((((p.A 0) 1) ≤ x3) → KX x2) ∧ ((¬ ((p.A 0) 1) ≤ x3) → vp_in x3 10 ∧ ((¬ ((p.A 8) x3.toNatClampNeg) = x1) → ∀ x3_1 : Int32, x3_1 = x3 + 1 → self (x1, x2, x3_1)) ∧ ((((p.A 8) x3.toNatClampNeg) = x1) → ∀ x2_2 : Int32, x2_2 = (x2 ||| ((1 : Int32) <<< (x3 &&& 31))) → ∀ x3_3 : Int32, x3_3 = x3 + 1 → self (x1, x2_2, x3_3)))
def wLX4_writtenOn_4 (p : St) (Post : Int32 → Prop) (KX : Int32 → Prop) : Nat → (Int32 × Int32 × Int32) → Prop := itN (fun self x => wlX4_writtenOn_4 p Post KX self x.1 x.2.1 x.2.2)
def wpX4_writtenOn (x1 : Int32) (p : St)  (Post : Int32 → Prop) : Prop := ∃ n, wLX4_writtenOn_4 p Post (fun (y4 : Int32) => Post y4) n (x1, 0, 0)
def wpX4_cellsDented (x1 : Int32) (x2 : Int32) (p : St)  (Post : Int32 → Prop) : Prop := wpX4_forceOn x1 x2 p (fun (r1 : Int32) => ((r1 ≤ 0) → Post 0) ∧ ((¬ r1 ≤ 0) → vp_in x1 10 ∧ Post ((p.A 7) x1.toNatClampNeg)))
def wlX4_dentedBy_4 (p : St) (Post : Int32 → Prop) (KX : Int32 → Prop) (self : (Int32 × Int32 × Int32) → Prop) (x1 : Int32) (x2 : Int32) (x3 : Int32) : Prop := ((((p.A 0) 1) ≤ x3) → KX x2) ∧ ((¬ ((p.A 0) 1) ≤ x3) → wpX4_cellsDented x3 x1 p (fun (r1 : Int32) => ((r1 = 0) → ∀ x3_2 : Int32, x3_2 = x3 + 1 → self (x1, x2, x3_2)) ∧ ((¬ r1 = 0) → ∀ x2_3 : Int32, x2_3 = (x2 ||| ((1 : Int32) <<< (x3 &&& 31))) → ∀ x3_4 : Int32, x3_4 = x3 + 1 → self (x1, x2_3, x3_4))))
def wLX4_dentedBy_4 (p : St) (Post : Int32 → Prop) (KX : Int32 → Prop) : Nat → (Int32 × Int32 × Int32) → Prop := itN (fun self x => wlX4_dentedBy_4 p Post KX self x.1 x.2.1 x.2.2)
def wpX4_dentedBy (x1 : Int32) (p : St)  (Post : Int32 → Prop) : Prop := ∃ n, wLX4_dentedBy_4 p Post (fun (y5 : Int32) => Post y5) n (x1, 0, 0)
def wlX4_dentedAtLeast_5 (p : St) (Post : Int32 → Prop) (KX : Int32 → Prop) (self : (Int32 × Int32 × Int32 × Int32) → Prop) (x1 : Int32) (x2 : Int32) (x3 : Int32) (x4 : Int32) : Prop := ((12 ≤ x4) → KX x3) ∧ ((¬ 12 ≤ x4) → wpX4_dentOf x1 x4 p (fun (r1 : Int32) => ((r1 < x2) → ∀ x4_2 : Int32, x4_2 = x4 + 1 → self (x1, x2, x3, x4_2)) ∧ ((¬ r1 < x2) → ∀ x3_3 : Int32, x3_3 = (x3 ||| ((1 : Int32) <<< (x4 &&& 31))) → ∀ x4_4 : Int32, x4_4 = x4 + 1 → self (x1, x2, x3_3, x4_4))))
def wLX4_dentedAtLeast_5 (p : St) (Post : Int32 → Prop) (KX : Int32 → Prop) : Nat → (Int32 × Int32 × Int32 × Int32) → Prop := itN (fun self x => wlX4_dentedAtLeast_5 p Post KX self x.1 x.2.1 x.2.2.1 x.2.2.2)
def wpX4_dentedAtLeast (x1 : Int32) (x2 : Int32) (p : St)  (Post : Int32 → Prop) : Prop := ∃ n, wLX4_dentedAtLeast_5 p Post (fun (y5 : Int32) => Post y5) n (x1, x2, 0, 0)
def wlX4_digestFrom_15 (p : St) (Post : Int64 → Prop) (KX : Int64 → Prop) (self : (Int64 × Int32 × Int32) → Prop) (x3 : Int64) (x5 : Int32) (x6 : Int32) : Prop := ((x5 ≤ x6) → KX x3) ∧ ((¬ x5 ≤ x6) → ((86 ≤ x6) → KX x3) ∧ ((¬ 86 ≤ x6) → vp_in x6 86 ∧ ∀ x3_2 : Int64, x3_2 = ((31 * x3) + ((((p.A 0) x6.toNatClampNeg)).toInt64)) → ∀ x6_3 : Int32, x6_3 = x6 + 1 → self (x3_2, x5, x6_3)))
def wLX4_digestFrom_15 (p : St) (Post : Int64 → Prop) (KX : Int64 → Prop) : Nat → (Int64 × Int32 × Int32) → Prop := itN (fun self x => wlX4_digestFrom_15 p Post KX self x.1 x.2.1 x.2.2)
def wlX4_digestFrom_53 (p : St) (Post : Int64 → Prop) (KX : Int64 → Prop) (self : (Int64 × Int32) → Prop) (x3 : Int64) (x6 : Int32) : Prop := ((((p.A 0) 1) ≤ x6) → KX x3) ∧ ((¬ ((p.A 0) 1) ≤ x6) → vp_in x6 10 ∧ ∀ x3_5 : Int64, x3_5 = ((31 * x3) + ((((p.A 5) x6.toNatClampNeg)).toInt64)) → vp_in x6 10 ∧ ∀ x3_6 : Int64, x3_6 = ((31 * x3_5) + ((((p.A 6) x6.toNatClampNeg)).toInt64)) → vp_in x6 10 ∧ ∀ x3_7 : Int64, x3_7 = ((31 * x3_6) + ((((p.A 7) x6.toNatClampNeg)).toInt64)) → vp_in x6 10 ∧ ∀ x3_8 : Int64, x3_8 = ((31 * x3_7) + ((((p.A 8) x6.toNatClampNeg)).toInt64)) → ∀ x6_9 : Int32, x6_9 = x6 + 1 → self (x3_8, x6_9))
def wLX4_digestFrom_53 (p : St) (Post : Int64 → Prop) (KX : Int64 → Prop) : Nat → (Int64 × Int32) → Prop := itN (fun self x => wlX4_digestFrom_53 p Post KX self x.1 x.2)
def wlX4_digestFrom_133 (p : St) (Post : Int64 → Prop) (KX : Int64 → Prop) (self : (Int64 × Int32) → Prop) (x3 : Int64) (x6 : Int32) : Prop := (((p.I 11) ≤ x6) → KX x3) ∧ ((¬ (p.I 11) ≤ x6) → vp_in x6 8 ∧ ∀ x3_11 : Int64, x3_11 = ((31 * x3) + ((((p.A 10) x6.toNatClampNeg)).toInt64)) → ∀ x6_12 : Int32, x6_12 = x6 + 1 → self (x3_11, x6_12))
def wLX4_digestFrom_133 (p : St) (Post : Int64 → Prop) (KX : Int64 → Prop) : Nat → (Int64 × Int32) → Prop := itN (fun self x => wlX4_digestFrom_133 p Post KX self x.1 x.2)
def wpX4_digestFrom (x1 : Int64) (p : St)  (Post : Int64 → Prop) : Prop := wpX4_placeOf (p.I 3) 0 (fun (r1 : Int32) => ∃ n, wLX4_digestFrom_15 p Post (fun (y4 : Int64) => ∃ n, wLX4_digestFrom_53 p Post (fun (y10 : Int64) => ∃ n, wLX4_digestFrom_133 p Post (fun (y13 : Int64) => Post y13) n (y10, 0)) n (y4, 0)) n (x1, r1, 2))
def wpX7_fault  (p : St)  (Post : Int32 → Prop) : Prop := Post (p.I 4)
def wpX7_isWithin (x1 : Int32) (x2 : Int32) (x3 : Int32) (p : St)  (Post : Int32 → Prop) : Prop := ((x1 < 0) → Post 0) ∧ ((¬ x1 < 0) → (((p.I 1) ≤ x1) → Post 0) ∧ ((¬ (p.I 1) ≤ x1) → vp_in x1 150 ∧ ((((p.A 0) x1.toNatClampNeg) < x2) → Post 0) ∧ ((¬ ((p.A 0) x1.toNatClampNeg) < x2) → vp_in x1 150 ∧ ((x3 < ((p.A 0) x1.toNatClampNeg)) → Post 0) ∧ ((¬ x3 < ((p.A 0) x1.toNatClampNeg)) → Post 1))))
def wlX7_passWord_5  (Post : St → Prop) (KX : St → Prop) (self : (St) → Prop) (p : St) : Prop := (((p.I 1) ≤ (p.I 2)) → KX p) ∧ ((¬ (p.I 1) ≤ (p.I 2)) → wpX7_isWithin (p.I 2) 97 122 p (fun (r2 : Int32) => ((r2 = 0) → KX p) ∧ ((¬ r2 = 0) → ∀ p3 : St, p3 = p.sI 2 ((p.I 2) + 1) → self p3)))
def wLX7_passWord_5  (Post : St → Prop) (KX : St → Prop) : Nat → (St) → Prop := itN (fun self x => wlX7_passWord_5  Post KX self x)
def wpX7_passWord  (p : St)  (Post : St → Prop) : Prop := ∀ p1 : St, p1 = p.sI 3 1 → ∃ n, wLX7_passWord_5 Post (fun (p4 : St) => Post p4) n p1
def wjX7_passFigures_72  (Post : St → Prop) (self : (St) → Prop) (KX : St → Prop) (z0 : Int32) (p : St) : Prop := ∀ p3 : St, p3 = p.sI 5 z0 → ∀ p4 : St, p4 = p3.sI 2 ((p3.I 2) + 1) → self p4
def wlX7_passFigures_5  (Post : St → Prop) (KX : St → Prop) (self : (St) → Prop) (p : St) : Prop := (((p.I 1) ≤ (p.I 2)) → KX p) ∧ ((¬ (p.I 1) ≤ (p.I 2)) → wpX7_isWithin (p.I 2) 48 57 p (fun (r2 : Int32) => ((r2 = 0) → KX p) ∧ ((¬ r2 = 0) → ((2 ≤ ((p.I 2) - (p.I 4))) → wjX7_passFigures_72 Post self KX (p.I 5) p) ∧ ((¬ 2 ≤ ((p.I 2) - (p.I 4))) → vp_in (p.I 2) 150 ∧ wjX7_passFigures_72 Post self KX ((((10 : Int32) * (p.I 5)) + ((p.A 0) (p.I 2).toNatClampNeg)) - 48) p))))
def wLX7_passFigures_5  (Post : St → Prop) (KX : St → Prop) : Nat → (St) → Prop := itN (fun self x => wlX7_passFigures_5  Post KX self x)
def wjX7_passFigures_107  (Post : St → Prop) (z0 : Int32) (p : St) : Prop := ∀ p6 : St, p6 = p.sI 3 z0 → Post p6
def wjX7_passFigures_88  (Post : St → Prop) (p : St) : Prop := ((((p.I 2) - (p.I 4)) ≤ 2) → wjX7_passFigures_107 Post 2 p) ∧ ((¬ ((p.I 2) - (p.I 4)) ≤ 2) → wjX7_passFigures_107 Post 4 p)
def wpX7_passFigures  (p : St)  (Post : St → Prop) : Prop := ∀ p1 : St, p1 = p.sI 5 0 → ∃ n, wLX7_passFigures_5 Post (fun (p5 : St) => wjX7_passFigures_88 Post p5) n p1
def wlX7_step_0  (Post : St → Prop) (KX : St → Prop) (self : (St) → Prop) (p : St) : Prop := (((p.I 1) ≤ (p.I 2)) → KX p) ∧ ((¬ (p.I 1) ≤ (p.I 2)) → vp_in (p.I 2) 150 ∧ ((¬ ((p.A 0) (p.I 2).toNatClampNeg) = 32) → KX p) ∧ ((((p.A 0) (p.I 2).toNatClampNeg) = 32) → ∀ p1 : St, p1 = p.sI 2 ((p.I 2) + 1) → self p1))
def wLX7_step_0  (Post : St → Prop) (KX : St → Prop) : Nat → (St) → Prop := itN (fun self x => wlX7_step_0  Post KX self x)
def wjX7_step_129  (Post : St → Prop) (z0 : Int32) (p : St) : Prop := ∀ p6 : St, p6 = p.sI 3 z0 → ∀ p7 : St, p7 = p6.sI 2 ((p6.I 2) + 1) → Post p7
def wjX7_step_38  (Post : St → Prop) (p : St) : Prop := ∀ p3 : St, p3 = p.sI 4 (p.I 2) → (((p3.I 2) < (p3.I 1)) → wpX7_isWithin (p3.I 2) 97 122 p3 (fun (r4 : Int32) => ((r4 = 0) → wpX7_isWithin (p3.I 2) 48 57 p3 (fun (r5 : Int32) => ((r5 = 0) → vp_in (p3.I 2) 150 ∧ ((¬ ((p3.A 0) (p3.I 2).toNatClampNeg) = 59) → wjX7_step_129 Post 4 p3) ∧ ((((p3.A 0) (p3.I 2).toNatClampNeg) = 59) → wjX7_step_129 Post 3 p3)) ∧ ((¬ r5 = 0) → wpX7_passFigures p3 (fun (p8 : St) => Post p8)))) ∧ ((¬ r4 = 0) → wpX7_passWord p3 (fun (p9 : St) => Post p9)))) ∧ ((¬ (p3.I 2) < (p3.I 1)) → ∀ p10 : St, p10 = p3.sI 3 0 → Post p10)
def wpX7_step  (p : St)  (Post : St → Prop) : Prop := ∃ n, wLX7_step_0 Post (fun (p2 : St) => wjX7_step_38 Post p2) n p
def wlX7_isWord_28 (x1 : Nat) (p : St) (Post : Int32 → Prop) (KX : Prop) (self : (Int32) → Prop) (x2 : Int32) : Prop := x1 < 4 ∧ (((nI (lenS.getD x1 0)) ≤ x2) → KX) ∧ ((¬ (nI (lenS.getD x1 0)) ≤ x2) → vp_in ((p.I 4) + x2) 150 ∧ x1 < 4 ∧ vp_in x2 (lenS.getD x1 0) ∧ ((((p.A 0) ((p.I 4) + x2).toNatClampNeg) = ((bytS.getD x1 []).getD x2.toNatClampNeg 0)) → ∀ x2_1 : Int32, x2_1 = x2 + 1 → self x2_1) ∧ ((¬ ((p.A 0) ((p.I 4) + x2).toNatClampNeg) = ((bytS.getD x1 []).getD x2.toNatClampNeg 0)) → Post 0))
def wLX7_isWord_28 (x1 : Nat) (p : St) (Post : Int32 → Prop) (KX : Prop) : Nat → (Int32) → Prop := itN (fun self x => wlX7_isWord_28 x1 p Post KX self x)
def wpX7_isWord (x1 : Nat) (p : St)  (Post : Int32 → Prop) : Prop := ((¬ (p.I 3) = 1) → Post 0) ∧ (((p.I 3) = 1) → x1 < 4 ∧ ((((p.I 2) - (p.I 4)) = (nI (lenS.getD x1 0))) → ∃ n, wLX7_isWord_28 x1 p Post (Post 1) n 0) ∧ ((¬ ((p.I 2) - (p.I 4)) = (nI (lenS.getD x1 0))) → Post 0))
def wpX7_isNumber (x1 : Int32) (x2 : Int32) (p : St)  (Post : Int32 → Prop) : Prop := ((¬ (p.I 3) = 2) → Post 0) ∧ (((p.I 3) = 2) → (((p.I 5) < x1) → Post 0) ∧ ((¬ (p.I 5) < x1) → ((x2 < (p.I 5)) → Post 0) ∧ ((¬ x2 < (p.I 5)) → Post 1)))
def wpX7_passStop  (p : St)  (Post : Int32 → St → Prop) : Prop := (((p.I 3) = 3) → wpX7_step p (fun (p1 : St) => Post 1 p1)) ∧ ((¬ (p.I 3) = 3) → Post 0 p)
def wpX7_readFirst  (p : St) (q : St)  (Post : Int32 → (St × St) → Prop) : Prop := wpX7_isWord 0 p (fun (r1 : Int32) => ((¬ r1 = 0) → wpX7_step p (fun (p2 : St) => wpX7_isNumber 1 6 p2 (fun (r3 : Int32) => ((¬ r3 = 0) → wpX4_beginAnew (p2.I 5) q (fun (p4 : St) => wpX7_step p2 (fun (p5 : St) => wpX7_passStop p5 (fun (r6 : Int32) (p7 : St) => vb r6 ∧ Post r6 (p7, p4))))) ∧ ((r3 = 0) → Post 0 (p2, q))))) ∧ ((r1 = 0) → Post 0 (p, q)))
def wpX7_readCarbon  (p : St) (q : St)  (Post : Int32 → (St × St) → Prop) : Prop := wpX7_step p (fun (p1 : St) => wpX7_isNumber 0 ((q.I 3) - 1) p1 (fun (r2 : Int32) => ((¬ r2 = 0) → ∀ p3 : St, p3 = q.sI 4 ((q.I 4) ||| ((1 : Int32) <<< ((p1.I 5) &&& 31))) → wpX7_step p1 (fun (p4 : St) => wpX7_passStop p4 (fun (r5 : Int32) (p6 : St) => vb r5 ∧ Post r5 (p6, p3)))) ∧ ((r2 = 0) → Post 0 (p1, q))))
def wpX7_readPen  (p : St)  (Post : Int32 → St → Prop) : Prop := wpX7_isNumber 0 5 p (fun (r1 : Int32) => ((¬ r1 = 0) → ∀ p2 : St, p2 = p.sI 6 (p.I 5) → wpX7_step p2 (fun (p3 : St) => wpX7_isNumber 1 9 p3 (fun (r4 : Int32) => ((¬ r4 = 0) → ∀ p5 : St, p5 = p3.sI 7 (p3.I 5) → wpX7_step p5 (fun (p6 : St) => Post 1 p6)) ∧ ((r4 = 0) → Post 0 p3)))) ∧ ((r1 = 0) → Post 0 p))
def wlX7_readCells_6  (Post : Int32 → St → Prop) (KX : Int32 → St → Prop) (self : (Int32 × Int32 × Int32 × St) → Prop) (x1 : Int32) (x2 : Int32) (x3 : Int32) (p : St) : Prop := ((12 ≤ x3) → KX x1 p) ∧ ((¬ 12 ≤ x3) → wpX7_isNumber x2 11 p (fun (r1 : Int32) => ((r1 = 0) → KX x1 p) ∧ ((¬ r1 = 0) → ∀ x1_2 : Int32, x1_2 = (x1 ||| ((1 : Int32) <<< ((p.I 5) &&& 31))) → ∀ x2_3 : Int32, x2_3 = ((p.I 5) + 1) → wpX7_step p (fun (p4 : St) => ∀ x3_5 : Int32, x3_5 = x3 + 1 → self (x1_2, x2_3, x3_5, p4)))))
def wLX7_readCells_6  (Post : Int32 → St → Prop) (KX : Int32 → St → Prop) : Nat → (Int32 × Int32 × Int32 × St) → Prop := itN (fun self x => wlX7_readCells_6  Post KX self x.1 x.2.1 x.2.2.1 x.2.2.2)
def wpX7_readCells  (p : St)  (Post : Int32 → St → Prop) : Prop := ∃ n, wLX7_readCells_6 Post (fun (y6 : Int32) (p7 : St) => Post y6 p7) n (0, 0, 0, p)
def wjX7_readItem_115  (Post : Int32 → (St × St) → Prop) (p : St) (q : St) : Prop := wpX7_passStop p (fun (r12 : Int32) (p13 : St) => vb r12 ∧ Post r12 (p13, q))
def wjX7_readItem_56  (Post : Int32 → (St × St) → Prop) (x3 : Int32) (p : St) (q : St) : Prop := wpX4_isUsedUp q (fun (r4 : Int32) => ((r4 = 0) → wpX7_step p (fun (p5 : St) => ((x3 = 0) → wpX7_readPen p5 (fun (r6 : Int32) (p7 : St) => ((r6 = 0) → Post 0 (p7, q)) ∧ ((¬ r6 = 0) → wpX7_readCells p7 (fun (r8 : Int32) (p9 : St) => wpX4_putNote (p9.I 6) (p9.I 7) r8 q (fun (r10 : Int32) (p11 : St) => wjX7_readItem_115 Post p9 p11))))) ∧ ((¬ x3 = 0) → wpX4_tearTop q (fun (r14 : Int32) (p15 : St) => wjX7_readItem_115 Post p5 p15)))) ∧ ((¬ r4 = 0) → Post 0 (p, q)))
def wjX7_readItem_45  (Post : Int32 → (St × St) → Prop) (x3 : Int32) (z0 : Int32) (p : St) (q : St) : Prop := ((¬ x3 = 0) → wjX7_readItem_56 Post x3 p q) ∧ ((x3 = 0) → ((z0 = 0) → Post 0 (p, q)) ∧ ((¬ z0 = 0) → wjX7_readItem_56 Post x3 p q))
def wpX7_readItem  (p : St) (q : St)  (Post : Int32 → (St × St) → Prop) : Prop := wpX7_isWord 1 p (fun (r1 : Int32) => ((r1 = 0) → wpX7_isWord 2 p (fun (r2 : Int32) => wpX7_isWord 3 p (fun (r3 : Int32) => ((r3 = 0) → wjX7_readItem_45 Post r2 0 p q) ∧ ((¬ r3 = 0) → wpX4_noteCount q (fun (r16 : Int32) => ((10 ≤ r16) → wjX7_readItem_45 Post r2 0 p q) ∧ ((¬ 10 ≤ r16) → wjX7_readItem_45 Post r2 1 p q)))))) ∧ ((¬ r1 = 0) → wpX7_readCarbon p q (fun (r17 : Int32) (u : (St × St)) => ∀ (p18 : St) (p19 : St), u = (p18, p19) → vb r17 ∧ Post r17 (p18, p19))))
def wlX7_readInto_24  (Post : Int32 → (St × St) → Prop) (KX : Int32 → St → St → Prop) (self : (Int32 × Int32 × St × St) → Prop) (x3 : Int32) (x4 : Int32) (p : St) (q : St) : Prop := ((150 < x4) → KX x3 p q) ∧ ((¬ 150 < x4) → (((p.I 3) = 0) → KX x3 p q) ∧ ((¬ (p.I 3) = 0) → wpX7_readItem p q (fun (r6 : Int32) (u : (St × St)) => ∀ (p7 : St) (p8 : St), u = (p7, p8) → ((¬ r6 = 0) → ∀ x3_9 : Int32, x3_9 = x3 + 1 → ∀ x4_10 : Int32, x4_10 = x4 + 1 → self (x3_9, x4_10, p7, p8)) ∧ ((r6 = 0) → Post (-1) (p7, p8)))))
def wLX7_readInto_24  (Post : Int32 → (St × St) → Prop) (KX : Int32 → St → St → Prop) : Nat → (Int32 × Int32 × St × St) → Prop := itN (fun self x => wlX7_readInto_24  Post KX self x.1 x.2.1 x.2.2.1 x.2.2.2)
def wpX7_readInto  (p : St) (q : St)  (Post : Int32 → (St × St) → Prop) : Prop := ∀ p1 : St, p1 = p.sI 2 0 → wpX7_step p1 (fun (p2 : St) => wpX7_readFirst p2 q (fun (r3 : Int32) (u : (St × St)) => ∀ (p4 : St) (p5 : St), u = (p4, p5) → ((¬ r3 = 0) → ∃ n, wLX7_readInto_24 Post (fun (y11 : Int32) (p12 : St) (p13 : St) => Post y11 (p12, p13)) n (1, 0, p4, p5)) ∧ ((r3 = 0) → Post (-1) (p4, p5))))
def wpX8_sheetAt (x1 : Int32) (p : St)  (Post : Int32 → Prop) : Prop := ((x1 < 0) → Post (-1)) ∧ ((¬ x1 < 0) → ((6 ≤ x1) → Post (-1)) ∧ ((¬ 6 ≤ x1) → vp_in x1 6 ∧ Post ((p.A 0) x1.toNatClampNeg)))
def wlX8_mayLie_3 (q : St) (Post : Int32 → St → Prop) (KX : Int32 → Int32 → Int32 → St → Prop) (self : (Int32 × Int32 × Int32 × Int32 × St) → Prop) (x2 : Int32) (x3 : Int32) (x4 : Int32) (x5 : Int32) (p : St) : Prop := ((10 ≤ x5) → KX x2 x3 x4 p) ∧ ((¬ 10 ≤ x5) → vp_in x5 10 ∧ ∀ p1 : St, p1 = p.sA 3 (upd (p.A 3) x5.toNatClampNeg 0) → ∀ x5_2 : Int32, x5_2 = x5 + 1 → self (x2, x3, x4, x5_2, p1))
def wLX8_mayLie_3 (q : St) (Post : Int32 → St → Prop) (KX : Int32 → Int32 → Int32 → St → Prop) : Nat → (Int32 × Int32 × Int32 × Int32 × St) → Prop := itN (fun self x => wlX8_mayLie_3 q Post KX self x.1 x.2.1 x.2.2.1 x.2.2.2.1 x.2.2.2.2)
def wlX8_mayLie_27 (q : St) (Post : Int32 → St → Prop) (KX : Int32 → St → Prop) (self : (Int32 × Int32 × Int32 × Int32 × St) → Prop) (x2 : Int32) (x3 : Int32) (x4 : Int32) (x5 : Int32) (p : St) : Prop := wpX4_noteCount q (fun (r7 : Int32) => ((r7 ≤ x5) → KX x2 p) ∧ ((¬ r7 ≤ x5) → vp_in x5 10 ∧ ∀ x6_8 : Int32, x6_8 = ((q.A 8) x5.toNatClampNeg) → ((((x4 >>> (x6_8 &&& 31)) &&& 1) = 0) → ∀ x5_9 : Int32, x5_9 = x5 + 1 → self (x2, x3, x4, x5_9, p)) ∧ ((¬ ((x4 >>> (x6_8 &&& 31)) &&& 1) = 0) → vp_in x6_8 6 ∧ wpX4_forceDown x5 (x3 - ((p.A 1) x6_8.toNatClampNeg)) q (fun (r10 : Int32) => vp_in r10 10 ∧ vp_in x5 10 ∧ vp_in r10 10 ∧ ∀ p11 : St, p11 = p.sA 3 (upd (p.A 3) r10.toNatClampNeg (((p.A 3) r10.toNatClampNeg) ||| ((q.A 7) x5.toNatClampNeg))) → ∀ x5_12 : Int32, x5_12 = x5 + 1 → self (x2, x3, x4, x5_12, p11)))))
def wLX8_mayLie_27 (q : St) (Post : Int32 → St → Prop) (KX : Int32 → St → Prop) : Nat → (Int32 × Int32 × Int32 × Int32 × St) → Prop := itN (fun self x => wlX8_mayLie_27 q Post KX self x.1 x.2.1 x.2.2.1 x.2.2.2.1 x.2.2.2.2)
def wlX8_mayLie_98 (q : St) (Post : Int32 → St → Prop) (KX : St → Prop) (self : (Int32 × Int32 × Int32 × St) → Prop) (x2 : Int32) (x5 : Int32) (x6 : Int32) (p : St) : Prop := ((x6 < 1) → KX p) ∧ ((¬ x6 < 1) → vp_in x6 10 ∧ ∀ x5_15 : Int32, x5_15 = (x5 ||| ((p.A 3) x6.toNatClampNeg)) → vp_in ((x2 * 10) + x6) 60 ∧ ((x5_15 = ((p.A 2) ((x2 * 10) + x6).toNatClampNeg)) → ∀ x6_16 : Int32, x6_16 = x6 + (-1) → self (x2, x5_15, x6_16, p)) ∧ ((¬ x5_15 = ((p.A 2) ((x2 * 10) + x6).toNatClampNeg)) → Post 0 p))
def wLX8_mayLie_98 (q : St) (Post : Int32 → St → Prop) (KX : St → Prop) : Nat → (Int32 × Int32 × Int32 × St) → Prop := itN (fun self x => wlX8_mayLie_98 q Post KX self x.1 x.2.1 x.2.2.1 x.2.2.2)
def wpX8_mayLie (x2 : Int32) (x3 : Int32) (x4 : Int32) (p : St) (q : St)  (Post : Int32 → St → Prop) : Prop := ∃ n, wLX8_mayLie_3 q Post (fun (y3 : Int32) (y4 : Int32) (y5 : Int32) (p6 : St) => ∃ n, wLX8_mayLie_27 q Post (fun (y13 : Int32) (p14 : St) => ∃ n, wLX8_mayLie_98 q Post (fun (p17 : St) => Post 1 p17) n (y13, 0, 9, p14)) n (y3, y4, y5, 0, p6)) n (x2, x3, x4, 1, p)
def wjX8_layFrom_14 (rec : Int32 → Int32 → Int32 → St → St → (St → Prop) → Prop) (q : St) (Post : St → Prop) (p : St) : Prop := ∀ p1 : St, p1 = p.sI 4 ((p.I 4) + 1) → Post p1
def wlX8_layFrom_28 (rec : Int32 → Int32 → Int32 → St → St → (St → Prop) → Prop) (q : St) (Post : St → Prop) (KX : St → Prop) (self : (Int32 × Int32 × Int32 × Int32 × St) → Prop) (x2 : Int32) (x3 : Int32) (x4 : Int32) (x5 : Int32) (p : St) : Prop := (((q.I 3) ≤ x5) → KX p) ∧ ((¬ (q.I 3) ≤ x5) → ((x4 ≤ (p.I 4)) → KX p) ∧ ((¬ x4 ≤ (p.I 4)) → ((¬ ((x3 >>> (x5 &&& 31)) &&& 1) = 0) → ∀ x5_2 : Int32, x5_2 = x5 + 1 → self (x2, x3, x4, x5_2, p)) ∧ ((((x3 >>> (x5 &&& 31)) &&& 1) = 0) → vp_in x2 6 ∧ ∀ p3 : St, p3 = p.sA 0 (upd (p.A 0) x2.toNatClampNeg x5) → vp_in x5 6 ∧ ∀ p4 : St, p4 = p3.sA 1 (upd (p3.A 1) x5.toNatClampNeg x2) → wpX8_mayLie x5 x2 (x3 ||| ((1 : Int32) <<< (x5 &&& 31))) p4 q (fun (r5 : Int32) (p6 : St) => ((r5 = 0) → ∀ x5_7 : Int32, x5_7 = x5 + 1 → self (x2, x3, x4, x5_7, p6)) ∧ ((¬ r5 = 0) → rec (x2 + 1) (x3 ||| ((1 : Int32) <<< (x5 &&& 31))) x4 p6 q (fun (p8 : St) => ∀ x5_9 : Int32, x5_9 = x5 + 1 → self (x2, x3, x4, x5_9, p8)))))))
def wLX8_layFrom_28 (rec : Int32 → Int32 → Int32 → St → St → (St → Prop) → Prop) (q : St) (Post : St → Prop) (KX : St → Prop) : Nat → (Int32 × Int32 × Int32 × Int32 × St) → Prop := itN (fun self x => wlX8_layFrom_28 rec q Post KX self x.1 x.2.1 x.2.2.1 x.2.2.2.1 x.2.2.2.2)
def wbX8_layFrom (rec : Int32 → Int32 → Int32 → St → St → (St → Prop) → Prop) (x2 : Int32) (x3 : Int32) (x4 : Int32) (p : St) (q : St) (Post : St → Prop) : Prop := (((q.I 3) ≤ x2) → wjX8_layFrom_14 rec q Post p) ∧ ((¬ (q.I 3) ≤ x2) → ((x2 < 6) → ∃ n, wLX8_layFrom_28 rec q Post (fun (p10 : St) => Post p10) n (x2, x3, x4, 0, p)) ∧ ((¬ x2 < 6) → wjX8_layFrom_14 rec q Post p))
def wpX8_layFrom : Nat → Int32 → Int32 → Int32 → St → St → (St → Prop) → Prop
  | 0 => fun _ _ _ _ _ _ => False
  | d + 1 => wbX8_layFrom (wpX8_layFrom d)
def wlX8_search_13 (q : St) (Post : Int32 → St → Prop) (KX : Int32 → Int32 → St → Prop) (self : (Int32 × Int32 × Int32 × St) → Prop) (x2 : Int32) (x3 : Int32) (x4 : Int32) (p : St) : Prop := ((10 ≤ x4) → KX x2 x3 p) ∧ ((¬ 10 ≤ x4) → wpX4_dentedAtLeast x3 x4 q (fun (r1 : Int32) => vp_in ((x3 * 10) + x4) 60 ∧ ∀ p2 : St, p2 = p.sA 2 (upd (p.A 2) ((x3 * 10) + x4).toNatClampNeg r1) → ∀ x4_3 : Int32, x4_3 = x4 + 1 → self (x2, x3, x4_3, p2)))
def wLX8_search_13 (q : St) (Post : Int32 → St → Prop) (KX : Int32 → Int32 → St → Prop) : Nat → (Int32 × Int32 × Int32 × St) → Prop := itN (fun self x => wlX8_search_13 q Post KX self x.1 x.2.1 x.2.2.1 x.2.2.2)
def wlX8_search_2 (q : St) (Post : Int32 → St → Prop) (KX : Int32 → St → Prop) (self : (Int32 × Int32 × St) → Prop) (x2 : Int32) (x3 : Int32) (p : St) : Prop := (((q.I 3) ≤ x3) → KX x2 p) ∧ ((¬ (q.I 3) ≤ x3) → ∃ n, wLX8_search_13 q Post (fun (y4 : Int32) (y5 : Int32) (p6 : St) => ∀ x3_7 : Int32, x3_7 = y5 + 1 → self (y4, x3_7, p6)) n (x2, x3, 1, p))
def wLX8_search_2 (q : St) (Post : Int32 → St → Prop) (KX : Int32 → St → Prop) : Nat → (Int32 × Int32 × St) → Prop := itN (fun self x => wlX8_search_2 q Post KX self x.1 x.2.1 x.2.2)
def wpX8_search (x2 : Int32) (p : St) (q : St)  (Post : Int32 → St → Prop) : Prop := ∃ n, wLX8_search_2 q Post (fun (y8 : Int32) (p9 : St) => ∀ p10 : St, p10 = p9.sI 4 0 → wpX8_layFrom 7 0 0 y8 p10 q (fun (p11 : St) => Post (p11.I 4) p11)) n (x2, 0, p)
def wpX11_bad (x1 : Int32) (t : Nat → St)  (Post : Int32 → (Nat → St) → Prop) : Prop := ∀ t1 : Nat → St, t1 = upS t 0 ((t 0).sI 12 (((t 0).I 12) + 1)) → Post x1 t1
def wjX11_pad_11  (Post : Int32 → (Nat → St) → Prop) (t : Nat → St) : Prop := wpX11_bad (-2) t (fun (r1 : Int32) (t2 : Nat → St) => Post r1 t2)
def wpX11_pad (x1 : Int32) (t : Nat → St)  (Post : Int32 → (Nat → St) → Prop) : Prop := ((x1 < 1) → wjX11_pad_11 Post t) ∧ ((¬ x1 < 1) → ((x1 ≤ 6) → ∀ x2_3 : Int32, x2_3 = ((t 2).I 3) → wpX4_beginAnew x1 (t 2) (fun (p4 : St) => ∀ t5 : Nat → St, t5 = upS t 2 p4 → Post x2_3 t5)) ∧ ((¬ x1 ≤ 6) → wjX11_pad_11 Post t))
def wpX11_carbons (x1 : Int32) (t : Nat → St)  (Post : Int32 → (Nat → St) → Prop) : Prop := wpX4_hasSheets x1 (t 2) (fun (r1 : Int32) => ((¬ r1 = 0) → ∀ x2_2 : Int32, x2_2 = ((t 2).I 4) → ∀ t3 : Nat → St, t3 = upS t 2 ((t 2).sI 4 x1) → Post x2_2 t3) ∧ ((r1 = 0) → wpX11_bad (-2) t (fun (r4 : Int32) (t5 : Nat → St) => Post r4 t5)))
def wpX11_isPen (x0 : Int32) (x1 : Int32)   (Post : Int32 → Prop) : Prop := ((x0 < 0) → Post 0) ∧ ((¬ x0 < 0) → ((6 ≤ x0) → Post 0) ∧ ((¬ 6 ≤ x0) → ((x1 < 1) → Post 0) ∧ ((¬ x1 < 1) → ((9 < x1) → Post 0) ∧ ((¬ 9 < x1) → Post 1))))
def wpX11_isCells (x0 : Int32)   (Post : Int32 → Prop) : Prop := ((x0 < 0) → Post 0) ∧ ((¬ x0 < 0) → ((4096 ≤ x0) → Post 0) ∧ ((¬ 4096 ≤ x0) → Post 1))
def wpX11_no  (t : Nat → St)  (Post : Int32 → (Nat → St) → Prop) : Prop := ∀ t1 : Nat → St, t1 = upS t 0 ((t 0).sI 13 (((t 0).I 13) + 1)) → Post (-3) t1
def wpX11_full  (t : Nat → St)  (Post : Int32 → (Nat → St) → Prop) : Prop := ∀ t1 : Nat → St, t1 = upS t 0 ((t 0).sI 14 (((t 0).I 14) + 1)) → Post (-4) t1
def wjX11_write_15  (Post : Int32 → (Nat → St) → Prop) (t : Nat → St) : Prop := wpX11_bad (-2) t (fun (r2 : Int32) (t3 : Nat → St) => Post r2 t3)
def wpX11_write (x1 : Int32) (x2 : Int32) (x3 : Int32) (t : Nat → St)  (Post : Int32 → (Nat → St) → Prop) : Prop := wpX11_isPen x1 x2 (fun (r1 : Int32) => ((r1 = 0) → wjX11_write_15 Post t) ∧ ((¬ r1 = 0) → wpX11_isCells x3 (fun (r4 : Int32) => ((¬ r4 = 0) → wpX4_isUsedUp (t 2) (fun (r5 : Int32) => ((r5 = 0) → wpX4_noteCount (t 2) (fun (r6 : Int32) => ((r6 < 10) → wpX4_keepForUndo (t 2) (fun (p7 : St) => ∀ t8 : Nat → St, t8 = upS t 2 p7 → wpX4_putNote x1 x2 x3 (t8 2) (fun (r9 : Int32) (p10 : St) => ∀ t11 : Nat → St, t11 = upS t8 2 p10 → Post r9 t11))) ∧ ((¬ r6 < 10) → wpX11_full t (fun (r12 : Int32) (t13 : Nat → St) => Post r12 t13)))) ∧ ((¬ r5 = 0) → wpX11_no t (fun (r14 : Int32) (t15 : Nat → St) => Post r14 t15)))) ∧ ((r4 = 0) → wjX11_write_15 Post t))))
def wpX11_tear  (t : Nat → St)  (Post : Int32 → (Nat → St) → Prop) : Prop := wpX4_isUsedUp (t 2) (fun (r1 : Int32) => ((r1 = 0) → wpX4_keepForUndo (t 2) (fun (p2 : St) => ∀ t3 : Nat → St, t3 = upS t 2 p2 → wpX4_tearTop (t3 2) (fun (r4 : Int32) (p5 : St) => ∀ t6 : Nat → St, t6 = upS t3 2 p5 → Post r4 t6))) ∧ ((¬ r1 = 0) → wpX11_no t (fun (r7 : Int32) (t8 : Nat → St) => Post r7 t8)))
def wpX11_undo  (t : Nat → St)  (Post : Int32 → (Nat → St) → Prop) : Prop := ((0 < ((t 2).I 2)) → wpX4_goBack (t 2) (fun (p1 : St) => ∀ t2 : Nat → St, t2 = upS t 2 p1 → wpX4_noteCount (t2 2) (fun (r3 : Int32) => Post r3 t2))) ∧ ((¬ 0 < ((t 2).I 2)) → wpX11_no t (fun (r4 : Int32) (t5 : Nat → St) => Post r4 t5))
def wpX11_word (x1 : Int32) (t : Nat → St)  (Post : Int32 → (Nat → St) → Prop) : Prop := wpX11_isCells x1 (fun (r1 : Int32) => ((¬ r1 = 0) → ((((t 2).I 11) < 8) → vp_in ((t 2).I 11) 8 ∧ ∀ t2 : Nat → St, t2 = upS t 2 ((t 2).sA 10 (upd ((t 2).A 10) ((t 2).I 11).toNatClampNeg x1)) → ∀ t3 : Nat → St, t3 = upS t2 2 ((t2 2).sI 11 (((t2 2).I 11) + 1)) → Post (((t3 2).I 11) - 1) t3) ∧ ((¬ ((t 2).I 11) < 8) → wpX11_full t (fun (r4 : Int32) (t5 : Nat → St) => Post r4 t5))) ∧ ((r1 = 0) → wpX11_bad (-2) t (fun (r6 : Int32) (t7 : Nat → St) => Post r6 t7)))
def wpX11_forget  (t : Nat → St)  (Post : Int32 → (Nat → St) → Prop) : Prop := ∀ x1_1 : Int32, x1_1 = ((t 2).I 11) → ∀ t2 : Nat → St, t2 = upS t 2 ((t 2).sI 11 0) → Post x1_1 t2
def wjX11_type_10  (Post : Int32 → (Nat → St) → Prop) (t : Nat → St) : Prop := wpX11_bad (-2) t (fun (r1 : Int32) (t2 : Nat → St) => Post r1 t2)
def wpX11_type (x1 : Int32) (t : Nat → St)  (Post : Int32 → (Nat → St) → Prop) : Prop := ((x1 < 0) → wjX11_type_10 Post t) ∧ ((¬ x1 < 0) → ((x1 ≤ 127) → ((((t 8).I 1) < 150) → vp_in ((t 8).I 1) 150 ∧ ∀ t3 : Nat → St, t3 = upS t 8 ((t 8).sA 0 (upd ((t 8).A 0) ((t 8).I 1).toNatClampNeg x1)) → ∀ t4 : Nat → St, t4 = upS t3 8 ((t3 8).sI 1 (((t3 8).I 1) + 1)) → Post ((t4 8).I 1) t4) ∧ ((¬ ((t 8).I 1) < 150) → wpX11_full t (fun (r5 : Int32) (t6 : Nat → St) => Post r5 t6))) ∧ ((¬ x1 ≤ 127) → wjX11_type_10 Post t))
def wpX11_clear  (t : Nat → St)  (Post : Int32 → (Nat → St) → Prop) : Prop := ∀ x1_1 : Int32, x1_1 = ((t 8).I 1) → ∀ t2 : Nat → St, t2 = upS t 8 ((t 8).sI 1 0) → Post x1_1 t2
def wpX11_read  (t : Nat → St)  (Post : Int32 → (Nat → St) → Prop) : Prop := wpX7_readInto (t 8) (t 3) (fun (r1 : Int32) (u : (St × St)) => ∀ (p2 : St) (p3 : St), u = (p2, p3) → ∀ t4 : Nat → St, t4 = upS (upS t 8 p2) 3 p3 → ((0 ≤ r1) → wpX4_copyFrom (t4 2) (t4 3) (fun (p5 : St) => ∀ t6 : Nat → St, t6 = upS t4 2 p5 → Post r1 t6)) ∧ ((¬ 0 ≤ r1) → wpX7_fault (t4 8) (fun (r7 : Int32) => Post (((-10) : Int32) - r7) t4)))
def wpX11_of (x1 : Int32) (x2 : Int32) (t : Nat → St)  (Post : Int32 → (Nat → St) → Prop) : Prop := wpX4_hasSheet x1 (t 2) (fun (r1 : Int32) => ((¬ r1 = 0) → (x2 = 0 → wpX4_inkOf x1 (t 2) (fun (r2 : Int32) => Post r2 t)) ∧ (x2 = 1 → wpX4_copyOf x1 (t 2) (fun (r3 : Int32) => Post r3 t)) ∧ (x2 = 2 → wpX4_top (t 2) (fun (r4 : Int32) => ((r4 ≤ x1) → wpX4_top (t 2) (fun (r5 : Int32) => Post (x1 - r5) t)) ∧ ((¬ r4 ≤ x1) → Post (-1) t))) ∧ (x2 = 3 → wpX4_writtenOn x1 (t 2) (fun (r6 : Int32) => Post r6 t)) ∧ (¬ x2 = 0 → ¬ x2 = 1 → ¬ x2 = 2 → ¬ x2 = 3 → wpX11_bad (-10) t (fun (r7 : Int32) (t8 : Nat → St) => Post r7 t8))) ∧ ((r1 = 0) → wpX11_bad (-10) t (fun (r9 : Int32) (t10 : Nat → St) => Post r9 t10)))
def wjX11_dent_21  (Post : Int32 → (Nat → St) → Prop) (t : Nat → St) : Prop := wpX11_bad (-2) t (fun (r2 : Int32) (t3 : Nat → St) => Post r2 t3)
def wpX11_dent (x1 : Int32) (x2 : Int32) (t : Nat → St)  (Post : Int32 → (Nat → St) → Prop) : Prop := wpX4_hasSheet x1 (t 2) (fun (r1 : Int32) => ((r1 = 0) → wjX11_dent_21 Post t) ∧ ((¬ r1 = 0) → ((x2 < 0) → wjX11_dent_21 Post t) ∧ ((¬ x2 < 0) → ((x2 < 12) → wpX4_dentOf x1 x2 (t 2) (fun (r4 : Int32) => Post r4 t)) ∧ ((¬ x2 < 12) → wjX11_dent_21 Post t))))
def wpX11_about (x1 : Int32) (x2 : Int32) (t : Nat → St)  (Post : Int32 → (Nat → St) → Prop) : Prop := wpX4_hasNote x1 (t 2) (fun (r1 : Int32) => ((¬ r1 = 0) → (x2 = 0 → vp_in x1 10 ∧ Post (((t 2).A 5) x1.toNatClampNeg) t) ∧ (x2 = 1 → vp_in x1 10 ∧ Post (((t 2).A 6) x1.toNatClampNeg) t) ∧ (x2 = 2 → vp_in x1 10 ∧ Post (((t 2).A 7) x1.toNatClampNeg) t) ∧ (x2 = 3 → vp_in x1 10 ∧ Post (((t 2).A 8) x1.toNatClampNeg) t) ∧ (x2 = 4 → vp_in x1 10 ∧ wpX4_forceOn x1 (((t 2).A 8) x1.toNatClampNeg) (t 2) (fun (r2 : Int32) => Post r2 t)) ∧ (x2 = 5 → vp_in x1 10 ∧ wpX5_hasInk (((t 2).A 5) x1.toNatClampNeg) (fun (r3 : Int32) => ((r3 = 0) → Post 0 t) ∧ ((¬ r3 = 0) → Post 1 t))) ∧ (¬ x2 = 0 → ¬ x2 = 1 → ¬ x2 = 2 → ¬ x2 = 3 → ¬ x2 = 4 → ¬ x2 = 5 → wpX11_bad (-2) t (fun (r4 : Int32) (t5 : Nat → St) => Post r4 t5))) ∧ ((r1 = 0) → wpX11_bad (-2) t (fun (r6 : Int32) (t7 : Nat → St) => Post r6 t7)))
def wpX11_isDepth (x0 : Int32)   (Post : Int32 → Prop) : Prop := ((x0 < 0) → Post 0) ∧ ((¬ x0 < 0) → ((6 ≤ x0) → Post 0) ∧ ((¬ 6 ≤ x0) → Post 1))
def wjX11_force_15  (Post : Int32 → (Nat → St) → Prop) (t : Nat → St) : Prop := wpX11_bad (-2) t (fun (r2 : Int32) (t3 : Nat → St) => Post r2 t3)
def wpX11_force (x1 : Int32) (x2 : Int32) (x3 : Int32) (t : Nat → St)  (Post : Int32 → (Nat → St) → Prop) : Prop := wpX11_isPen x1 x2 (fun (r1 : Int32) => ((r1 = 0) → wjX11_force_15 Post t) ∧ ((¬ r1 = 0) → wpX11_isDepth x3 (fun (r4 : Int32) => ((¬ r4 = 0) → wpX5_forceOf x1 x2 x3 (fun (r5 : Int32) => Post r5 t)) ∧ ((r4 = 0) → wjX11_force_15 Post t))))
def wpX11_whose (x1 : Int32) (t : Nat → St)  (Post : Int32 → (Nat → St) → Prop) : Prop := wpX4_hasSheet x1 (t 2) (fun (r1 : Int32) => ((r1 = 0) → wpX11_bad (-2) t (fun (r2 : Int32) (t3 : Nat → St) => Post r2 t3)) ∧ ((¬ r1 = 0) → wpX4_dentedBy x1 (t 2) (fun (r4 : Int32) => Post r4 t)))
def wjX11_own_22  (Post : Int32 → (Nat → St) → Prop) (t : Nat → St) : Prop := wpX11_bad (-2) t (fun (r2 : Int32) (t3 : Nat → St) => Post r2 t3)
def wlX11_own_34  (Post : Int32 → (Nat → St) → Prop) (KX : Int32 → Int32 → Int32 → (Nat → St) → Prop) (self : (Int32 × Int32 × Int32 × Int32 × (Nat → St)) → Prop) (x1 : Int32) (x2 : Int32) (x3 : Int32) (x4 : Int32) (t : Nat → St) : Prop := wpX4_noteCount (t 2) (fun (r5 : Int32) => ((r5 ≤ x4) → KX x1 x2 x3 t) ∧ ((¬ r5 ≤ x4) → ((x4 = x1) → ∀ x4_6 : Int32, x4_6 = x4 + 1 → self (x1, x2, x3, x4_6, t)) ∧ ((¬ x4 = x1) → wpX4_cellsDented x4 x2 (t 2) (fun (r7 : Int32) => ∀ x3_8 : Int32, x3_8 = (x3 ||| r7) → ∀ x4_9 : Int32, x4_9 = x4 + 1 → self (x1, x2, x3_8, x4_9, t)))))
def wLX11_own_34  (Post : Int32 → (Nat → St) → Prop) (KX : Int32 → Int32 → Int32 → (Nat → St) → Prop) : Nat → (Int32 × Int32 × Int32 × Int32 × (Nat → St)) → Prop := itN (fun self x => wlX11_own_34  Post KX self x.1 x.2.1 x.2.2.1 x.2.2.2.1 x.2.2.2.2)
def wpX11_own (x1 : Int32) (x2 : Int32) (t : Nat → St)  (Post : Int32 → (Nat → St) → Prop) : Prop := wpX4_hasNote x1 (t 2) (fun (r1 : Int32) => ((r1 = 0) → wjX11_own_22 Post t) ∧ ((¬ r1 = 0) → wpX4_hasSheet x2 (t 2) (fun (r4 : Int32) => ((¬ r4 = 0) → ∃ n, wLX11_own_34 Post (fun (y10 : Int32) (y11 : Int32) (y12 : Int32) (t13 : Nat → St) => wpX4_cellsDented y10 y11 (t13 2) (fun (r14 : Int32) => Post (r14 &&& (y12 ^^^ (-1))) t13)) n (x1, x2, 0, 0, t)) ∧ ((r4 = 0) → wjX11_own_22 Post t))))
def wjX11_shown_22  (Post : Int32 → (Nat → St) → Prop) (t : Nat → St) : Prop := wpX11_bad (-2) t (fun (r2 : Int32) (t3 : Nat → St) => Post r2 t3)
def wpX11_shown (x1 : Int32) (x2 : Int32) (t : Nat → St)  (Post : Int32 → (Nat → St) → Prop) : Prop := wpX4_hasSheet x1 (t 2) (fun (r1 : Int32) => ((r1 = 0) → wjX11_shown_22 Post t) ∧ ((¬ r1 = 0) → ((x2 < 1) → wjX11_shown_22 Post t) ∧ ((¬ x2 < 1) → ((x2 ≤ 9) → wpX4_dentedAtLeast x1 x2 (t 2) (fun (r4 : Int32) => Post r4 t)) ∧ ((¬ x2 ≤ 9) → wjX11_shown_22 Post t))))
def wpJ6_bitCount_0f7a4 (x0 : Int32)   (Post : Int32 → Prop) : Prop := ∀ x0_1 : Int32, x0_1 = (x0 - (((x0.toUInt32 >>> ((1 : Int32).toUInt32 &&& Int32.toUInt32 31)).toInt32) &&& 1431655765)) → ∀ x0_2 : Int32, x0_2 = ((x0_1 &&& 858993459) + (((x0_1.toUInt32 >>> ((2 : Int32).toUInt32 &&& Int32.toUInt32 31)).toInt32) &&& 858993459)) → ∀ x0_3 : Int32, x0_3 = ((x0_2 + ((x0_2.toUInt32 >>> ((4 : Int32).toUInt32 &&& Int32.toUInt32 31)).toInt32)) &&& 252645135) → ∀ x0_4 : Int32, x0_4 = (x0_3 + ((x0_3.toUInt32 >>> ((8 : Int32).toUInt32 &&& Int32.toUInt32 31)).toInt32)) → ∀ x0_5 : Int32, x0_5 = (x0_4 + ((x0_4.toUInt32 >>> ((16 : Int32).toUInt32 &&& Int32.toUInt32 31)).toInt32)) → Post (x0_5 &&& 63)
def wlX11_wordsThatFit_4 (t : Nat → St) (Post : Int32 → Prop) (KX : Int32 → Prop) (self : (Int32 × Int32) → Prop) (x1 : Int32) (x2 : Int32) : Prop := ((((t 2).I 11) ≤ x2) → KX x1) ∧ ((¬ ((t 2).I 11) ≤ x2) → vp_in x2 8 ∧ wpX2_isFit (((t 2).A 10) x2.toNatClampNeg) (t 6) (fun (r1 : Int32) => ((r1 = 0) → ∀ x2_2 : Int32, x2_2 = x2 + 1 → self (x1, x2_2)) ∧ ((¬ r1 = 0) → ∀ x1_3 : Int32, x1_3 = (x1 ||| ((1 : Int32) <<< (x2 &&& 31))) → ∀ x2_4 : Int32, x2_4 = x2 + 1 → self (x1_3, x2_4))))
def wLX11_wordsThatFit_4 (t : Nat → St) (Post : Int32 → Prop) (KX : Int32 → Prop) : Nat → (Int32 × Int32) → Prop := itN (fun self x => wlX11_wordsThatFit_4 t Post KX self x.1 x.2)
def wpX11_wordsThatFit  (t : Nat → St)  (Post : Int32 → Prop) : Prop := ∃ n, wLX11_wordsThatFit_4 t Post (fun (y5 : Int32) => Post y5) n (0, 0)
def wjX11_lost_62  (Post : Int32 → (Nat → St) → Prop) (t : Nat → St) : Prop := wpX11_bad (-10) t (fun (r2 : Int32) (t3 : Nat → St) => Post r2 t3)
def wjX11_lost_36  (Post : Int32 → (Nat → St) → Prop) (x1 : Int32) (x2 : Int32) (x3 : Int32) (x4 : Int32) (x5 : Int32) (x6 : Int32) (z0 : Int32) (t : Nat → St) : Prop := ((z0 = 0) → wjX11_lost_62 Post t) ∧ ((¬ z0 = 0) → wpX11_isDepth x5 (fun (r4 : Int32) => ((r4 = 0) → wjX11_lost_62 Post t) ∧ ((¬ r4 = 0) → ((x6 < 0) → wjX11_lost_62 Post t) ∧ ((¬ x6 < 0) → ((x6 ≤ 3) → wpX2_look x1 x2 (t 6) (t 2) (fun (p5 : St) => ∀ t6 : Nat → St, t6 = upS t 6 p5 → wpX5_forceOf x3 x4 x5 (fun (r7 : Int32) => wpX2_guess r7 (t6 6) (fun (r8 : Int32) (p9 : St) => ∀ t10 : Nat → St, t10 = upS t6 6 p9 → ((¬ r8 = 0) → (x6 = 0 → Post ((t10 6).I 2) t10) ∧ (x6 = 1 → Post ((t10 6).I 3) t10) ∧ (x6 = 2 → wpJ6_bitCount_0f7a4 (((t10 6).I 3) &&& (((t10 6).I 2) ^^^ (-1))) (fun (r11 : Int32) => Post ((1 : Int32) <<< (r11 &&& 31)) t10)) ∧ (¬ x6 = 0 → ¬ x6 = 1 → ¬ x6 = 2 → wpX11_wordsThatFit t10 (fun (r12 : Int32) => Post r12 t10))) ∧ ((r8 = 0) → ((2 ≤ x6) → Post 0 t10) ∧ ((¬ 2 ≤ x6) → Post (-1) t10)))))) ∧ ((¬ x6 ≤ 3) → wjX11_lost_62 Post t)))))
def wpX11_lost (x1 : Int32) (x2 : Int32) (x3 : Int32) (x4 : Int32) (x5 : Int32) (x6 : Int32) (t : Nat → St)  (Post : Int32 → (Nat → St) → Prop) : Prop := wpX4_hasSheet x1 (t 2) (fun (r1 : Int32) => ((r1 = 0) → wjX11_lost_36 Post x1 x2 x3 x4 x5 x6 0 t) ∧ ((¬ r1 = 0) → wpX4_hasNotes x2 (t 2) (fun (r13 : Int32) => ((r13 = 0) → wjX11_lost_36 Post x1 x2 x3 x4 x5 x6 0 t) ∧ ((¬ r13 = 0) → wpX11_isPen x3 x4 (fun (r14 : Int32) => ((r14 = 0) → wjX11_lost_36 Post x1 x2 x3 x4 x5 x6 0 t) ∧ ((¬ r14 = 0) → wjX11_lost_36 Post x1 x2 x3 x4 x5 x6 1 t))))))
def wjX11_pen_65  (Post : Int32 → (Nat → St) → Prop) (t : Nat → St) : Prop := wpX11_bad (-10) t (fun (r2 : Int32) (t3 : Nat → St) => Post r2 t3)
def wlX11_pen_104  (Post : Int32 → (Nat → St) → Prop) (KX : Int32 → Int32 → Int32 → Int32 → Int32 → Int32 → (Nat → St) → Prop) (self : (Int32 × Int32 × Int32 × Int32 × Int32 × Int32 × Int32 × (Nat → St)) → Prop) (x3 : Int32) (x4 : Int32) (x5 : Int32) (x7 : Int32) (x8 : Int32) (x9 : Int32) (x10 : Int32) (t : Nat → St) : Prop := ((9 < x10) → KX x3 x4 x5 x7 x8 x9 t) ∧ ((¬ 9 < x10) → wpX5_forceOf x9 x10 x3 (fun (r8 : Int32) => wpX2_guess r8 (t 6) (fun (r9 : Int32) (p10 : St) => ∀ t11 : Nat → St, t11 = upS t 6 p10 → ((r9 = 0) → ∀ x10_12 : Int32, x10_12 = x10 + 1 → self (x3, x4, x5, x7, x8, x9, x10_12, t11)) ∧ ((¬ r9 = 0) → wpX2_isFit x4 (t11 6) (fun (r13 : Int32) => ((r13 = 0) → ∀ x10_14 : Int32, x10_14 = x10 + 1 → self (x3, x4, x5, x7, x8, x9, x10_14, t11)) ∧ ((¬ r13 = 0) → ∀ x7_15 : Int32, x7_15 = x7 + 1 → ((¬ x8 = (-1)) → ∀ x10_16 : Int32, x10_16 = x10 + 1 → self (x3, x4, x5, x7_15, x8, x9, x10_16, t11)) ∧ ((x8 = (-1)) → ∀ x8_17 : Int32, x8_17 = (((10 : Int32) * x9) + x10) → ∀ x10_18 : Int32, x10_18 = x10 + 1 → self (x3, x4, x5, x7_15, x8_17, x9, x10_18, t11))))))))
def wLX11_pen_104  (Post : Int32 → (Nat → St) → Prop) (KX : Int32 → Int32 → Int32 → Int32 → Int32 → Int32 → (Nat → St) → Prop) : Nat → (Int32 × Int32 × Int32 × Int32 × Int32 × Int32 × Int32 × (Nat → St)) → Prop := itN (fun self x => wlX11_pen_104  Post KX self x.1 x.2.1 x.2.2.1 x.2.2.2.1 x.2.2.2.2.1 x.2.2.2.2.2.1 x.2.2.2.2.2.2.1 x.2.2.2.2.2.2.2)
def wlX11_pen_94  (Post : Int32 → (Nat → St) → Prop) (KX : Int32 → Int32 → Int32 → (Nat → St) → Prop) (self : (Int32 × Int32 × Int32 × Int32 × Int32 × Int32 × (Nat → St)) → Prop) (x3 : Int32) (x4 : Int32) (x5 : Int32) (x7 : Int32) (x8 : Int32) (x9 : Int32) (t : Nat → St) : Prop := ((6 ≤ x9) → KX x5 x7 x8 t) ∧ ((¬ 6 ≤ x9) → ∃ n, wLX11_pen_104 Post (fun (y19 : Int32) (y20 : Int32) (y21 : Int32) (y22 : Int32) (y23 : Int32) (y24 : Int32) (t25 : Nat → St) => ∀ x9_26 : Int32, x9_26 = y24 + 1 → self (y19, y20, y21, y22, y23, x9_26, t25)) n (x3, x4, x5, x7, x8, x9, 1, t))
def wLX11_pen_94  (Post : Int32 → (Nat → St) → Prop) (KX : Int32 → Int32 → Int32 → (Nat → St) → Prop) : Nat → (Int32 × Int32 × Int32 × Int32 × Int32 × Int32 × (Nat → St)) → Prop := itN (fun self x => wlX11_pen_94  Post KX self x.1 x.2.1 x.2.2.1 x.2.2.2.1 x.2.2.2.2.1 x.2.2.2.2.2.1 x.2.2.2.2.2.2)
def wjX11_pen_34  (Post : Int32 → (Nat → St) → Prop) (x1 : Int32) (x2 : Int32) (x3 : Int32) (x4 : Int32) (x5 : Int32) (z0 : Int32) (t : Nat → St) : Prop := ((z0 = 0) → wjX11_pen_65 Post t) ∧ ((¬ z0 = 0) → wpX11_isCells x4 (fun (r4 : Int32) => ((r4 = 0) → wjX11_pen_65 Post t) ∧ ((¬ r4 = 0) → ((x4 = 0) → wjX11_pen_65 Post t) ∧ ((¬ x4 = 0) → ((x5 < 0) → wjX11_pen_65 Post t) ∧ ((¬ x5 < 0) → ((x5 ≤ 1) → wpX2_look x1 x2 (t 6) (t 2) (fun (p5 : St) => ∀ t6 : Nat → St, t6 = upS t 6 p5 → ∀ x8_7 : Int32, x8_7 = (-1) → ∃ n, wLX11_pen_94 Post (fun (y27 : Int32) (y28 : Int32) (y29 : Int32) (t30 : Nat → St) => ((¬ y27 = 0) → Post y29 t30) ∧ ((y27 = 0) → Post y28 t30)) n (x3, x4, x5, 0, x8_7, 0, t6))) ∧ ((¬ x5 ≤ 1) → wjX11_pen_65 Post t))))))
def wpX11_pen (x1 : Int32) (x2 : Int32) (x3 : Int32) (x4 : Int32) (x5 : Int32) (t : Nat → St)  (Post : Int32 → (Nat → St) → Prop) : Prop := wpX4_hasSheet x1 (t 2) (fun (r1 : Int32) => ((r1 = 0) → wjX11_pen_34 Post x1 x2 x3 x4 x5 0 t) ∧ ((¬ r1 = 0) → wpX4_hasNotes x2 (t 2) (fun (r31 : Int32) => ((r31 = 0) → wjX11_pen_34 Post x1 x2 x3 x4 x5 0 t) ∧ ((¬ r31 = 0) → wpX11_isDepth x3 (fun (r32 : Int32) => ((r32 = 0) → wjX11_pen_34 Post x1 x2 x3 x4 x5 0 t) ∧ ((¬ r32 = 0) → wjX11_pen_34 Post x1 x2 x3 x4 x5 1 t))))))
def wpX11_orders (x1 : Int32) (t : Nat → St)  (Post : Int32 → (Nat → St) → Prop) : Prop := (((-1) ≤ x1) → ((¬ x1 = (-1)) → ((x1 < ((t 2).I 3)) → wpX8_search 1 (t 7) (t 2) (fun (r1 : Int32) (p2 : St) => ∀ t3 : Nat → St, t3 = upS t 7 p2 → ((¬ r1 = 0) → wpX8_sheetAt x1 (t3 7) (fun (r4 : Int32) => Post r4 t3)) ∧ ((r1 = 0) → Post (-1) t3))) ∧ ((¬ x1 < ((t 2).I 3)) → Post (-5) t)) ∧ ((x1 = (-1)) → wpX8_search 720 (t 7) (t 2) (fun (r5 : Int32) (p6 : St) => ∀ t7 : Nat → St, t7 = upS t 7 p6 → Post r5 t7))) ∧ ((¬ (-1) ≤ x1) → wpX11_bad (-10) t (fun (r8 : Int32) (t9 : Nat → St) => Post r8 t9))
def wjX11_press_22  (Post : Int32 → (Nat → St) → Prop) (t : Nat → St) : Prop := wpX11_bad (-2) t (fun (r1 : Int32) (t2 : Nat → St) => Post r1 t2)
def wlX11_press_31  (Post : Int32 → (Nat → St) → Prop) (KX : (Nat → St) → Prop) (self : (Int32 × Int32 × Int32 × (Nat → St)) → Prop) (x1 : Int32) (x2 : Int32) (x3 : Int32) (t : Nat → St) : Prop := ((9 < x3) → KX t) ∧ ((¬ 9 < x3) → wpX5_forceOf x1 x3 x2 (fun (r4 : Int32) => ((r4 < 2) → ∀ x3_5 : Int32, x3_5 = x3 + 1 → self (x1, x2, x3_5, t)) ∧ ((¬ r4 < 2) → Post x3 t)))
def wLX11_press_31  (Post : Int32 → (Nat → St) → Prop) (KX : (Nat → St) → Prop) : Nat → (Int32 × Int32 × Int32 × (Nat → St)) → Prop := itN (fun self x => wlX11_press_31  Post KX self x.1 x.2.1 x.2.2.1 x.2.2.2)
def wpX11_press (x1 : Int32) (x2 : Int32) (t : Nat → St)  (Post : Int32 → (Nat → St) → Prop) : Prop := ((x1 < 0) → wjX11_press_22 Post t) ∧ ((¬ x1 < 0) → ((6 ≤ x1) → wjX11_press_22 Post t) ∧ ((¬ 6 ≤ x1) → ((x2 < 1) → wjX11_press_22 Post t) ∧ ((¬ x2 < 1) → wpX11_isDepth x2 (fun (r3 : Int32) => ((¬ r3 = 0) → ∃ n, wLX11_press_31 Post (fun (t6 : Nat → St) => Post (-1) t6) n (x1, x2, 1, t)) ∧ ((r3 = 0) → wjX11_press_22 Post t)))))
def wjX11_copies_62  (Post : Int32 → (Nat → St) → Prop) (t : Nat → St) : Prop := wpX11_bad (-10) t (fun (r4 : Int32) (t5 : Nat → St) => Post r4 t5)
def wlX11_copies_81  (Post : Int32 → (Nat → St) → Prop) (KX : Int32 → Int32 → (Nat → St) → Prop) (self : (Int32 × Int32 × Int32 × Int32 × Int32 × Int32 × (Nat → St)) → Prop) (x1 : Int32) (x2 : Int32) (x3 : Int32) (x4 : Int32) (x7 : Int32) (x8 : Int32) (t : Nat → St) : Prop := ((((t 2).I 3) ≤ x8) → KX x4 x7 t) ∧ ((¬ ((t 2).I 3) ≤ x8) → ((((x1 >>> (x8 &&& 31)) &&& 1) = 0) → ∀ x8_7 : Int32, x8_7 = x8 + 1 → self (x1, x2, x3, x4, x7, x8_7, t)) ∧ ((¬ ((x1 >>> (x8 &&& 31)) &&& 1) = 0) → wpX4_top (t 2) (fun (r8 : Int32) => ∀ x9_9 : Int32, x9_9 = (x8 - r8) → ((x9_9 = 0) → Post (-1) t) ∧ ((¬ x9_9 = 0) → wpX5_forceOf x2 x3 x9_9 (fun (r10 : Int32) => ((2 ≤ r10) → ∀ x7_11 : Int32, x7_11 = (x7 ||| ((1 : Int32) <<< ((x8 - 1) &&& 31))) → ∀ x8_12 : Int32, x8_12 = x8 + 1 → self (x1, x2, x3, x4, x7_11, x8_12, t)) ∧ ((¬ 2 ≤ r10) → Post (-1) t))))))
def wLX11_copies_81  (Post : Int32 → (Nat → St) → Prop) (KX : Int32 → Int32 → (Nat → St) → Prop) : Nat → (Int32 × Int32 × Int32 × Int32 × Int32 × Int32 × (Nat → St)) → Prop := itN (fun self x => wlX11_copies_81  Post KX self x.1 x.2.1 x.2.2.1 x.2.2.2.1 x.2.2.2.2.1 x.2.2.2.2.2.1 x.2.2.2.2.2.2)
def wjX11_copies_44  (Post : Int32 → (Nat → St) → Prop) (x1 : Int32) (x2 : Int32) (x3 : Int32) (x4 : Int32) (z0 : Int32) (t : Nat → St) : Prop := ((z0 = 0) → wjX11_copies_62 Post t) ∧ ((¬ z0 = 0) → ((x4 < 0) → wjX11_copies_62 Post t) ∧ ((¬ x4 < 0) → ((x4 ≤ 1) → wpX4_top (t 2) (fun (r6 : Int32) => ∃ n, wLX11_copies_81 Post (fun (y13 : Int32) (y14 : Int32) (t15 : Nat → St) => ∀ x8_16 : Int32, x8_16 = (y14 &&& (((t15 2).I 4) ^^^ (-1))) → ((¬ y13 = 0) → Post x8_16 t15) ∧ ((y13 = 0) → wpJ6_bitCount_0f7a4 x8_16 (fun (r17 : Int32) => Post r17 t15))) n (x1, x2, x3, x4, 0, r6, t))) ∧ ((¬ x4 ≤ 1) → wjX11_copies_62 Post t)))
def wpX11_copies (x1 : Int32) (x2 : Int32) (x3 : Int32) (x4 : Int32) (t : Nat → St)  (Post : Int32 → (Nat → St) → Prop) : Prop := wpX4_top (t 2) (fun (r1 : Int32) => ∀ x5_2 : Int32, x5_2 = (((1 : Int32) <<< (r1 &&& 31)) - 1) → wpX4_hasSheets x1 (t 2) (fun (r3 : Int32) => ((r3 = 0) → wjX11_copies_44 Post x1 x2 x3 x4 0 t) ∧ ((¬ r3 = 0) → ((¬ (x1 &&& x5_2) = 0) → wjX11_copies_44 Post x1 x2 x3 x4 0 t) ∧ (((x1 &&& x5_2) = 0) → wpX11_isPen x2 x3 (fun (r18 : Int32) => ((r18 = 0) → wjX11_copies_44 Post x1 x2 x3 x4 0 t) ∧ ((¬ r18 = 0) → wjX11_copies_44 Post x1 x2 x3 x4 1 t))))))
def wlX11_keepFraction_9  (Post : (Nat → St) → Prop) (KX : Int64 → Int64 → Int64 → (Nat → St) → Prop) (self : (Int64 × Int64 × Int64 × Int64 × Int32 × (Nat → St)) → Prop) (x1 : Int64) (x3 : Int64) (x5 : Int64) (x7 : Int64) (x9 : Int32) (t : Nat → St) : Prop := ((128 ≤ x9) → KX x1 x3 x5 t) ∧ ((¬ 128 ≤ x9) → (((lg_cmp x7 0) = 0) → KX x1 x3 x5 t) ∧ ((¬ (lg_cmp x7 0) = 0) → ¬ x7 = 0 ∧ ∀ x10_1 : Int64, x10_1 = (x5 - x5 / x7 * x7) → ∀ x9_2 : Int32, x9_2 = x9 + 1 → self (x1, x3, x7, x10_1, x9_2, t)))
def wLX11_keepFraction_9  (Post : (Nat → St) → Prop) (KX : Int64 → Int64 → Int64 → (Nat → St) → Prop) : Nat → (Int64 × Int64 × Int64 × Int64 × Int32 × (Nat → St)) → Prop := itN (fun self x => wlX11_keepFraction_9  Post KX self x.1 x.2.1 x.2.2.1 x.2.2.2.1 x.2.2.2.2.1 x.2.2.2.2.2)
def wjX11_keepFraction_45  (Post : (Nat → St) → Prop) (x1 : Int64) (x3 : Int64) (x5 : Int64) (t : Nat → St) : Prop := (((lg_cmp x5 0) ≤ 0) → Post t) ∧ ((¬ (lg_cmp x5 0) ≤ 0) → ¬ x5 = 0 ∧ ∀ t7 : Nat → St, t7 = upS t 0 ((t 0).sL 10 (x1 / x5)) → ¬ x5 = 0 ∧ ∀ t8 : Nat → St, t8 = upS t7 0 ((t7 0).sL 11 (x3 / x5)) → Post t8)
def wpX11_keepFraction (x1 : Int64) (x3 : Int64) (t : Nat → St)  (Post : (Nat → St) → Prop) : Prop := ∃ n, wLX11_keepFraction_9 Post (fun (y3 : Int64) (y4 : Int64) (y5 : Int64) (t6 : Nat → St) => wjX11_keepFraction_45 Post y3 y4 y5 t6) n (x1, x3, x1, x3, 0, t)
def wjX11_rub_27  (Post : Int32 → (Nat → St) → Prop) (t : Nat → St) : Prop := wpX11_bad (-2) t (fun (r2 : Int32) (t3 : Nat → St) => Post r2 t3)
def wjX11_rub_106  (Post : Int32 → (Nat → St) → Prop) (self : (Int32 × Int32 × Int32 × Int64 × Int64 × Int32 × (Nat → St)) → Prop) (KX : Int64 → Int64 → (Nat → St) → Prop) (x1 : Int32) (x2 : Int32) (x3 : Int32) (x6 : Int64) (x8 : Int32) (z0 : Int64) (z1 : Int64) (t : Nat → St) : Prop := ∀ x4_6 : Int64, x4_6 = (z1 * z0) → ∀ x6_7 : Int64, x6_7 = (x6 * 10) → ∀ x8_8 : Int32, x8_8 = x8 + 1 → self (x1, x2, x3, x4_6, x6_7, x8_8, t)
def wjX11_rub_87  (Post : Int32 → (Nat → St) → Prop) (self : (Int32 × Int32 × Int32 × Int64 × Int64 × Int32 × (Nat → St)) → Prop) (KX : Int64 → Int64 → (Nat → St) → Prop) (x1 : Int32) (x2 : Int32) (x3 : Int32) (x4 : Int64) (x6 : Int64) (x8 : Int32) (x9 : Int32) (x10 : Int32) (t : Nat → St) : Prop := ((x10 = 0) → wjX11_rub_106 Post self KX x1 x2 x3 x6 x8 ((((10 : Int32) - x9)).toInt64) x4 t) ∧ ((¬ x10 = 0) → wjX11_rub_106 Post self KX x1 x2 x3 x6 x8 (x9.toInt64) x4 t)
def wjX11_rub_76  (Post : Int32 → (Nat → St) → Prop) (self : (Int32 × Int32 × Int32 × Int64 × Int64 × Int32 × (Nat → St)) → Prop) (KX : Int64 → Int64 → (Nat → St) → Prop) (x1 : Int32) (x2 : Int32) (x3 : Int32) (x4 : Int64) (x6 : Int64) (x8 : Int32) (x9 : Int32) (z0 : Int32) (t : Nat → St) : Prop := ((¬ z0 = 0) → wjX11_rub_87 Post self KX x1 x2 x3 x4 x6 x8 x9 z0 t) ∧ ((z0 = 0) → ((¬ x3 = 0) → ∀ x8_9 : Int32, x8_9 = x8 + 1 → self (x1, x2, x3, x4, x6, x8_9, t)) ∧ ((x3 = 0) → wjX11_rub_87 Post self KX x1 x2 x3 x4 x6 x8 x9 z0 t))
def wlX11_rub_43  (Post : Int32 → (Nat → St) → Prop) (KX : Int64 → Int64 → (Nat → St) → Prop) (self : (Int32 × Int32 × Int32 × Int64 × Int64 × Int32 × (Nat → St)) → Prop) (x1 : Int32) (x2 : Int32) (x3 : Int32) (x4 : Int64) (x6 : Int64) (x8 : Int32) (t : Nat → St) : Prop := ((12 ≤ x8) → KX x4 x6 t) ∧ ((¬ 12 ≤ x8) → wpX4_dentOf x1 x8 (t 2) (fun (r5 : Int32) => ((((x2 >>> (x8 &&& 31)) &&& 1) = 0) → wjX11_rub_76 Post self KX x1 x2 x3 x4 x6 x8 r5 0 t) ∧ ((¬ ((x2 >>> (x8 &&& 31)) &&& 1) = 0) → wjX11_rub_76 Post self KX x1 x2 x3 x4 x6 x8 r5 1 t)))
def wLX11_rub_43  (Post : Int32 → (Nat → St) → Prop) (KX : Int64 → Int64 → (Nat → St) → Prop) : Nat → (Int32 × Int32 × Int32 × Int64 × Int64 × Int32 × (Nat → St)) → Prop := itN (fun self x => wlX11_rub_43  Post KX self x.1 x.2.1 x.2.2.1 x.2.2.2.1 x.2.2.2.2.1 x.2.2.2.2.2.1 x.2.2.2.2.2.2)
def wpX11_rub (x1 : Int32) (x2 : Int32) (x3 : Int32) (t : Nat → St)  (Post : Int32 → (Nat → St) → Prop) : Prop := wpX4_hasSheet x1 (t 2) (fun (r1 : Int32) => ((r1 = 0) → wjX11_rub_27 Post t) ∧ ((¬ r1 = 0) → wpX11_isCells x2 (fun (r4 : Int32) => ((r4 = 0) → wjX11_rub_27 Post t) ∧ ((¬ r4 = 0) → ((x3 < 0) → wjX11_rub_27 Post t) ∧ ((¬ x3 < 0) → ((x3 ≤ 1) → ∃ n, wLX11_rub_43 Post (fun (y10 : Int64) (y11 : Int64) (t12 : Nat → St) => wpX11_keepFraction y10 y11 t12 (fun (t13 : Nat → St) => Post 1 t13)) n (x1, x2, x3, 1, 1, 0, t)) ∧ ((¬ x3 ≤ 1) → wjX11_rub_27 Post t))))))
def wlX11_torn_26  (Post : Int32 → (Nat → St) → Prop) (KX : (Nat → St) → Prop) (self : (Int32 × Int32 × (Nat → St)) → Prop) (x1 : Int32) (x2 : Int32) (t : Nat → St) : Prop := ((((t 2).I 3) ≤ x2) → KX t) ∧ ((¬ ((t 2).I 3) ≤ x2) → wpX4_dentedBy x2 (t 2) (fun (r3 : Int32) => ((¬ (r3 &&& x1) = 0) → ∀ x2_4 : Int32, x2_4 = x2 + 1 → self (x1, x2_4, t)) ∧ (((r3 &&& x1) = 0) → wpX4_top (t 2) (fun (r5 : Int32) => Post (x2 - r5) t))))
def wLX11_torn_26  (Post : Int32 → (Nat → St) → Prop) (KX : (Nat → St) → Prop) : Nat → (Int32 × Int32 × (Nat → St)) → Prop := itN (fun self x => wlX11_torn_26  Post KX self x.1 x.2.1 x.2.2)
def wpX11_torn (x1 : Int32) (t : Nat → St)  (Post : Int32 → (Nat → St) → Prop) : Prop := wpX4_hasNotes x1 (t 2) (fun (r1 : Int32) => ((¬ r1 = 0) → wpX4_top (t 2) (fun (r2 : Int32) => ∃ n, wLX11_torn_26 Post (fun (t6 : Nat → St) => Post (-1) t6) n (x1, r2, t))) ∧ ((r1 = 0) → wpX11_bad (-2) t (fun (r7 : Int32) (t8 : Nat → St) => Post r7 t8)))
def wpX11_nextDraw (x0 : Int64)   (Post : Int64 → Prop) : Prop := Post (((x0 * 1103515245) + 12345) - ((x0 * 1103515245) + 12345) / 2147483648 * 2147483648)
def wpX11_drawOf (x0 : Int64) (x2 : Int32)   (Post : Int32 → Prop) : Prop := ((0 < x2) → ¬ (x2.toInt64) = 0 ∧ Post (((x0 / 65536) - (x0 / 65536) / (x2.toInt64) * (x2.toInt64)).toInt32)) ∧ ((¬ 0 < x2) → Post 0)
def wlX11_sumOfLast_4 (t : Nat → St) (Post : Int32 → Prop) (KX : Int32 → Prop) (self : (Int32 × Int32) → Prop) (x1 : Int32) (x2 : Int32) : Prop := ((12 ≤ x2) → KX x1) ∧ ((¬ 12 ≤ x2) → vp_in x2 12 ∧ ∀ x1_1 : Int32, x1_1 = (x1 + (((t 0).A 8) x2.toNatClampNeg)) → ∀ x2_2 : Int32, x2_2 = x2 + 1 → self (x1_1, x2_2))
def wLX11_sumOfLast_4 (t : Nat → St) (Post : Int32 → Prop) (KX : Int32 → Prop) : Nat → (Int32 × Int32) → Prop := itN (fun self x => wlX11_sumOfLast_4 t Post KX self x.1 x.2)
def wpX11_sumOfLast  (t : Nat → St)  (Post : Int32 → Prop) : Prop := ∃ n, wLX11_sumOfLast_4 t Post (fun (y3 : Int32) => Post y3) n (0, 0)
def wjX11_drawn_20  (Post : Int32 → (Nat → St) → Prop) (t : Nat → St) : Prop := wpX11_bad (-2) t (fun (r1 : Int32) (t2 : Nat → St) => Post r1 t2)
def wlX11_drawn_61  (Post : Int32 → (Nat → St) → Prop) (KX : Int32 → Int32 → Int32 → Int32 → (Nat → St) → Prop) (self : (Int32 × Int32 × Int32 × Int32 × Int32 × (Nat → St)) → Prop) (x1 : Int32) (x2 : Int32) (x3 : Int32) (x4 : Int32) (x5 : Int32) (t : Nat → St) : Prop := ((12 ≤ x5) → KX x1 x2 x3 x4 t) ∧ ((¬ 12 ≤ x5) → wpX4_dentOf x3 x5 (t 2) (fun (r6 : Int32) => vp_in x5 12 ∧ ∀ t7 : Nat → St, t7 = upS t 0 ((t 0).sA 8 (upd ((t 0).A 8) x5.toNatClampNeg r6)) → ∀ x5_8 : Int32, x5_8 = x5 + 1 → self (x1, x2, x3, x4, x5_8, t7)))
def wLX11_drawn_61  (Post : Int32 → (Nat → St) → Prop) (KX : Int32 → Int32 → Int32 → Int32 → (Nat → St) → Prop) : Nat → (Int32 × Int32 × Int32 × Int32 × Int32 × (Nat → St)) → Prop := itN (fun self x => wlX11_drawn_61  Post KX self x.1 x.2.1 x.2.2.1 x.2.2.2.1 x.2.2.2.2.1 x.2.2.2.2.2)
def wlX11_drawn_98  (Post : Int32 → (Nat → St) → Prop) (KX : (Nat → St) → Prop) (self : (Int32 × Int32 × Int32 × Int64 × Int32 × (Nat → St)) → Prop) (x2 : Int32) (x3 : Int32) (x4 : Int32) (x5 : Int64) (x7 : Int32) (t : Nat → St) : Prop := ((x2 < x7) → KX t) ∧ ((¬ x2 < x7) → wpX11_nextDraw x5 (fun (r15 : Int64) => wpX11_drawOf r15 6 (fun (r16 : Int32) => wpX11_nextDraw r15 (fun (r17 : Int64) => wpX11_drawOf r17 9 (fun (r18 : Int32) => ∀ x9_19 : Int32, x9_19 = ((1 : Int32) + r18) → wpX11_nextDraw r17 (fun (r20 : Int64) => wpX11_drawOf r20 4096 (fun (r21 : Int32) => wpX5_forceOf r16 x9_19 (x3 - x4) (fun (r22 : Int32) => wpX11_dentInto 0 r21 r22 ((t 0).A 8) 12 (fun (p23 : (Nat → Int32)) => ∀ t24 : Nat → St, t24 = upS t 0 ((t 0).sA 8 p23) → ((¬ (x7 - x7 / 3 * 3) = 0) → ∀ x7_25 : Int32, x7_25 = x7 + 1 → self (x2, x3, x4, r20, x7_25, t24)) ∧ (((x7 - x7 / 3 * 3) = 0) → ((x3 ≤ x4) → ∀ x7_26 : Int32, x7_26 = x7 + 1 → self (x2, x3, x4, r20, x7_26, t24)) ∧ ((¬ x3 ≤ x4) → ∀ x4_27 : Int32, x4_27 = x4 + 1 → ∀ x7_28 : Int32, x7_28 = x7 + 1 → self (x2, x3, x4_27, r20, x7_28, t24))))))))))))
def wLX11_drawn_98  (Post : Int32 → (Nat → St) → Prop) (KX : (Nat → St) → Prop) : Nat → (Int32 × Int32 × Int32 × Int64 × Int32 × (Nat → St)) → Prop := itN (fun self x => wlX11_drawn_98  Post KX self x.1 x.2.1 x.2.2.1 x.2.2.2.1 x.2.2.2.2.1 x.2.2.2.2.2)
def wpX11_drawn (x1 : Int32) (x2 : Int32) (t : Nat → St)  (Post : Int32 → (Nat → St) → Prop) : Prop := ((x1 < 0) → wjX11_drawn_20 Post t) ∧ ((¬ x1 < 0) → ((999999 < x1) → wjX11_drawn_20 Post t) ∧ ((¬ 999999 < x1) → ((x2 < 0) → wjX11_drawn_20 Post t) ∧ ((¬ x2 < 0) → ((x2 ≤ 20) → wpX4_isUsedUp (t 2) (fun (r3 : Int32) => ((r3 = 0) → ∀ x3_4 : Int32, x3_4 = (((t 2).I 3) - 1) → wpX4_top (t 2) (fun (r5 : Int32) => ∃ n, wLX11_drawn_61 Post (fun (y9 : Int32) (y10 : Int32) (y11 : Int32) (y12 : Int32) (t13 : Nat → St) => ∀ x5_14 : Int64, x5_14 = (y9.toInt64) → ∃ n, wLX11_drawn_98 Post (fun (t29 : Nat → St) => wpX11_sumOfLast t29 (fun (r30 : Int32) => Post r30 t29)) n (y10, y11, y12, x5_14, 1, t13)) n (x1, x2, x3_4, r5, 0, t))) ∧ ((¬ r3 = 0) → Post (-1) t))) ∧ ((¬ x2 ≤ 20) → wjX11_drawn_20 Post t))))
def wjX11_part_9  (Post : Int64 → (Nat → St) → Prop) (t : Nat → St) : Prop := wpX11_bad (-2) t (fun (r1 : Int32) (t2 : Nat → St) => Post (r1.toInt64) t2)
def wpX11_part (x1 : Int32) (t : Nat → St)  (Post : Int64 → (Nat → St) → Prop) : Prop := ((x1 < 0) → wjX11_part_9 Post t) ∧ ((¬ x1 < 0) → ((x1 ≤ 1) → ((¬ x1 = 0) → Post ((t 0).L 11) t) ∧ ((x1 = 0) → Post ((t 0).L 10) t)) ∧ ((¬ x1 ≤ 1) → wjX11_part_9 Post t))
def wjX11_image_9  (Post : Int32 → (Nat → St) → Prop) (t : Nat → St) : Prop := wpX11_bad (-2) t (fun (r1 : Int32) (t2 : Nat → St) => Post r1 t2)
def wpX11_image (x1 : Int32) (t : Nat → St)  (Post : Int32 → (Nat → St) → Prop) : Prop := ((x1 < 0) → wjX11_image_9 Post t) ∧ ((¬ x1 < 0) → ((x1 < 2) → ((x1 = 0) → wpX4_copyFrom (t 4) (t 2) (fun (p3 : St) => ∀ t4 : Nat → St, t4 = upS t 4 p3 → ∀ t5 : Nat → St, t5 = upS t4 0 ((t4 0).sI 9 (((t4 0).I 9) ||| ((1 : Int32) <<< (x1 &&& 31)))) → Post 1 t5)) ∧ ((¬ x1 = 0) → wpX4_copyFrom (t 5) (t 2) (fun (p6 : St) => ∀ t7 : Nat → St, t7 = upS t 5 p6 → ∀ t8 : Nat → St, t8 = upS t7 0 ((t7 0).sI 9 (((t7 0).I 9) ||| ((1 : Int32) <<< (x1 &&& 31)))) → Post 1 t8))) ∧ ((¬ x1 < 2) → wjX11_image_9 Post t))
def wjX11_from_9  (Post : Int32 → (Nat → St) → Prop) (t : Nat → St) : Prop := wpX11_bad (-2) t (fun (r1 : Int32) (t2 : Nat → St) => Post r1 t2)
def wpX11_from (x1 : Int32) (t : Nat → St)  (Post : Int32 → (Nat → St) → Prop) : Prop := ((x1 < 0) → wjX11_from_9 Post t) ∧ ((¬ x1 < 0) → ((x1 < 2) → ((¬ ((((t 0).I 9) >>> (x1 &&& 31)) &&& 1) = 0) → ((x1 = 0) → wpX4_copyFrom (t 2) (t 4) (fun (p3 : St) => ∀ t4 : Nat → St, t4 = upS t 2 p3 → Post 1 t4)) ∧ ((¬ x1 = 0) → wpX4_copyFrom (t 2) (t 5) (fun (p5 : St) => ∀ t6 : Nat → St, t6 = upS t 2 p5 → Post 1 t6))) ∧ ((((((t 0).I 9) >>> (x1 &&& 31)) &&& 1) = 0) → wpX11_no t (fun (r7 : Int32) (t8 : Nat → St) => Post r7 t8))) ∧ ((¬ x1 < 2) → wjX11_from_9 Post t))
def wpX11_status (x1 : Int32) (t : Nat → St)  (Post : Int32 → (Nat → St) → Prop) : Prop := (x1 = 0 → Post ((t 0).I 12) t) ∧ (x1 = 1 → Post ((t 0).I 13) t) ∧ (x1 = 2 → Post ((t 0).I 14) t) ∧ (¬ x1 = 0 → ¬ x1 = 1 → ¬ x1 = 2 → wpX11_bad (-1) t (fun (r1 : Int32) (t2 : Nat → St) => Post r1 t2))
def wpX11_amountOf (x1 : Int32) (t : Nat → St)  (Post : Int32 → Prop) : Prop := (x1 = 0 → Post ((t 2).I 3)) ∧ (x1 = 1 → wpX4_top (t 2) (fun (r1 : Int32) => Post r1)) ∧ (x1 = 2 → wpX4_noteCount (t 2) (fun (r2 : Int32) => Post r2)) ∧ (x1 = 3 → Post ((t 2).I 11)) ∧ (x1 = 4 → Post ((t 2).I 4)) ∧ (x1 = 5 → Post ((t 2).I 2)) ∧ (¬ x1 = 0 → ¬ x1 = 1 → ¬ x1 = 2 → ¬ x1 = 3 → ¬ x1 = 4 → ¬ x1 = 5 → Post ((t 8).I 1))
def wjX11_count_10  (Post : Int32 → (Nat → St) → Prop) (t : Nat → St) : Prop := wpX11_bad (-2) t (fun (r1 : Int32) (t2 : Nat → St) => Post r1 t2)
def wpX11_count (x1 : Int32) (t : Nat → St)  (Post : Int32 → (Nat → St) → Prop) : Prop := ((x1 < 0) → wjX11_count_10 Post t) ∧ ((¬ x1 < 0) → ((x1 ≤ 6) → wpX11_amountOf x1 t (fun (r3 : Int32) => Post r3 t)) ∧ ((¬ x1 ≤ 6) → wjX11_count_10 Post t))
def wlX11_digest_6 (t : Nat → St) (Post : Int64 → Prop) (KX : Int64 → Prop) (self : (Int64 × Int32) → Prop) (x1 : Int64) (x3 : Int32) : Prop := ((6 < x3) → KX x1) ∧ ((¬ 6 < x3) → wpX11_amountOf x3 t (fun (r1 : Int32) => ∀ x1_2 : Int64, x1_2 = ((31 * x1) + (r1.toInt64)) → ∀ x3_3 : Int32, x3_3 = x3 + 1 → self (x1_2, x3_3)))
def wLX11_digest_6 (t : Nat → St) (Post : Int64 → Prop) (KX : Int64 → Prop) : Nat → (Int64 × Int32) → Prop := itN (fun self x => wlX11_digest_6 t Post KX self x.1 x.2)
def wpX11_digest  (t : Nat → St)  (Post : Int64 → Prop) : Prop := ∃ n, wLX11_digest_6 t Post (fun (y4 : Int64) => wpX4_digestFrom y4 (t 2) (fun (r5 : Int64) => ∀ x1_6 : Int64, x1_6 = ((31 * r5) + ((t 0).L 10)) → Post ((31 * x1_6) + ((t 0).L 11)))) n (919, 0)
def wpX12_in (x0 : Int64) (x2 : Int64) (x4 : Int64)   (Post : Int32 → Prop) : Prop := (((lg_cmp x0 x2) < 0) → Post 0) ∧ ((¬ (lg_cmp x0 x2) < 0) → ((0 < (lg_cmp x0 x4)) → Post 0) ∧ ((¬ 0 < (lg_cmp x0 x4)) → Post 1))
def wpX12_has (x0 : Int32) (x1 : Int32)   (Post : Int32 → Prop) : Prop := ((¬ ((x0 >>> (x1 &&& 31)) &&& 1) = 1) → Post 0) ∧ ((((x0 >>> (x1 &&& 31)) &&& 1) = 1) → Post 1)
def wlX12_ones_4  (Post : Int32 → Prop) (KX : Int32 → Prop) (self : (Int32 × Int32) → Prop) (x1 : Int32) (x2 : Int32) : Prop := ((x2 = 0) → KX x1) ∧ ((¬ x2 = 0) → ∀ x1_1 : Int32, x1_1 = x1 + 1 → ∀ x2_2 : Int32, x2_2 = (x2 &&& (x2 - 1)) → self (x1_1, x2_2))
def wLX12_ones_4  (Post : Int32 → Prop) (KX : Int32 → Prop) : Nat → (Int32 × Int32) → Prop := itN (fun self x => wlX12_ones_4  Post KX self x.1 x.2)
def wpX12_ones (x0 : Int32)   (Post : Int32 → Prop) : Prop := ∃ n, wLX12_ones_4 Post (fun (y3 : Int32) => Post y3) n (0, x0)
def wpX12_refuse (x1 : Int32) (x2 : Int32) (p : St)  (Post : Int32 → St → Prop) : Prop := vp_in x1 3 ∧ vp_in x1 3 ∧ ∀ p1 : St, p1 = p.sA 9 (upd (p.A 9) x1.toNatClampNeg (((p.A 9) x1.toNatClampNeg) + 1)) → Post x2 p1
def wpX12_bad  (p : St)  (Post : Int32 → St → Prop) : Prop := wpX12_refuse 0 (-2) p (fun (r1 : Int32) (p2 : St) => Post r1 p2)
def wpX12_badLess  (p : St)  (Post : Int32 → St → Prop) : Prop := wpX12_refuse 0 (-10) p (fun (r1 : Int32) (p2 : St) => Post r1 p2)
def wpX12_isSheet (x1 : Int32) (p : St)  (Post : Int32 → Prop) : Prop := wpX12_in (x1.toInt64) 0 ((((p.I 0) - 1)).toInt64) (fun (r1 : Int32) => vb r1 ∧ Post r1)
def wpX12_areNotes (x1 : Int32) (p : St)  (Post : Int32 → Prop) : Prop := wpX12_in (x1.toInt64) 0 (((((1 : Int32) <<< (((p.A 4) 124) &&& 31)) - 1)).toInt64) (fun (r1 : Int32) => vb r1 ∧ Post r1)
def wpX12_isPen (x0 : Int32) (x1 : Int32)   (Post : Int32 → Prop) : Prop := wpX12_in (x0.toInt64) 0 5 (fun (r1 : Int32) => ((r1 = 0) → Post 0) ∧ ((¬ r1 = 0) → wpX12_in (x1.toInt64) 1 9 (fun (r2 : Int32) => ((r2 = 0) → Post 0) ∧ ((¬ r2 = 0) → Post 1))))
def wpX12_pencil (x0 : Int32) (x1 : Int32)   (Post : Int32 → Prop) : Prop := ∀ x2_1 : Int32, x2_1 = (x0 - x1) → ((0 ≤ x2_1) → ((x2_1 ≤ 9) → Post x2_1) ∧ ((¬ x2_1 ≤ 9) → Post 9)) ∧ ((¬ 0 ≤ x2_1) → Post 0)
def wjX12_forceOf_20  (Post : Int32 → Prop) (x1 : Int32) (x2 : Int32) : Prop := wpX12_pencil (x1 + 1) x2 (fun (r1 : Int32) => Post r1)
def wjX12_forceOf_57  (Post : Int32 → Prop) (x1 : Int32) (x2 : Int32) : Prop := wpX12_pencil x1 x2 (fun (r2 : Int32) => Post (r2 / 2))
def wpX12_forceOf (x0 : Int32) (x1 : Int32) (x2 : Int32)   (Post : Int32 → Prop) : Prop := ((¬ x0 = 0) → ((x0 = 1) → wjX12_forceOf_20 Post x1 x2) ∧ ((¬ x0 = 1) → ((¬ x0 = 3) → ((¬ x0 = 5) → ((¬ x0 = 4) → wjX12_forceOf_57 Post x1 x2) ∧ ((x0 = 4) → ((x2 ≤ 1) → wjX12_forceOf_57 Post x1 x2) ∧ ((¬ x2 ≤ 1) → Post 0))) ∧ ((x0 = 5) → wpX12_pencil (x1 + 1) (x2 / 2) (fun (r3 : Int32) => Post r3))) ∧ ((x0 = 3) → wjX12_forceOf_20 Post x1 x2))) ∧ ((x0 = 0) → wpX12_pencil x1 x2 (fun (r4 : Int32) => Post r4))
def wpX12_hasInk (x0 : Int32)   (Post : Int32 → Prop) : Prop := ((x0 = 3) → Post 0) ∧ ((¬ x0 = 3) → ((x0 = 5) → Post 0) ∧ ((¬ x0 = 5) → Post 1))
def wlX12_empty_2  (Post : St → Prop) (KX : St → Prop) (self : (Int32 × St) → Prop) (x1 : Int32) (p : St) : Prop := ((126 ≤ x1) → KX p) ∧ ((¬ 126 ≤ x1) → vp_in x1 126 ∧ ∀ p1 : St, p1 = p.sA 4 (upd (p.A 4) x1.toNatClampNeg 0) → ∀ x1_2 : Int32, x1_2 = x1 + 1 → self (x1_2, p1))
def wLX12_empty_2  (Post : St → Prop) (KX : St → Prop) : Nat → (Int32 × St) → Prop := itN (fun self x => wlX12_empty_2  Post KX self x.1 x.2)
def wpX12_empty  (p : St)  (Post : St → Prop) : Prop := ∃ n, wLX12_empty_2 Post (fun (p3 : St) => ∀ p4 : St, p4 = p3.sI 1 0 → ∀ p5 : St, p5 = p4.sI 6 0 → Post p5) n (0, p)
def wpX12_pad (x1 : Int32) (p : St)  (Post : Int32 → St → Prop) : Prop := wpX12_in (x1.toInt64) 1 6 (fun (r1 : Int32) => ((¬ r1 = 0) → ∀ x2_2 : Int32, x2_2 = (p.I 0) → ∀ p3 : St, p3 = p.sI 0 x1 → ∀ p4 : St, p4 = p3.sI 3 0 → wpX12_empty p4 (fun (p5 : St) => Post x2_2 p5)) ∧ ((r1 = 0) → wpX12_bad p (fun (r6 : Int32) (p7 : St) => Post r6 p7)))
def wpX12_carbons (x1 : Int32) (p : St)  (Post : Int32 → St → Prop) : Prop := wpX12_in (x1.toInt64) 0 (((((1 : Int32) <<< ((p.I 0) &&& 31)) - 1)).toInt64) (fun (r1 : Int32) => ((¬ r1 = 0) → ∀ x2_2 : Int32, x2_2 = (p.I 1) → ∀ p3 : St, p3 = p.sI 1 x1 → Post x2_2 p3) ∧ ((r1 = 0) → wpX12_bad p (fun (r4 : Int32) (p5 : St) => Post r4 p5)))
def wlX12_note_51  (Post : St → Prop) (KX : St → Prop) (self : (Int32 × St) → Prop) (x1 : Int32) (p : St) : Prop := ((126 ≤ x1) → KX p) ∧ ((¬ 126 ≤ x1) → vp_in x1 126 ∧ vp_in (((126 : Int32) * (p.I 6)) + x1) 1008 ∧ ∀ p1 : St, p1 = p.sA 5 (upd (p.A 5) (((126 : Int32) * (p.I 6)) + x1).toNatClampNeg ((p.A 4) x1.toNatClampNeg)) → ∀ x1_2 : Int32, x1_2 = x1 + 1 → self (x1_2, p1))
def wLX12_note_51  (Post : St → Prop) (KX : St → Prop) : Nat → (Int32 × St) → Prop := itN (fun self x => wlX12_note_51  Post KX self x.1 x.2)
def wlX12_note_11  (Post : St → Prop) (KX : St → Prop) (self : (Int32 × St) → Prop) (x1 : Int32) (p : St) : Prop := ((882 ≤ x1) → KX p) ∧ ((¬ 882 ≤ x1) → vp_in (x1 + 126) 1008 ∧ vp_in x1 1008 ∧ ∀ p5 : St, p5 = p.sA 5 (upd (p.A 5) x1.toNatClampNeg ((p.A 5) (x1 + 126).toNatClampNeg)) → ∀ x1_6 : Int32, x1_6 = x1 + 1 → self (x1_6, p5))
def wLX12_note_11  (Post : St → Prop) (KX : St → Prop) : Nat → (Int32 × St) → Prop := itN (fun self x => wlX12_note_11  Post KX self x.1 x.2)
def wpX12_note  (p : St)  (Post : St → Prop) : Prop := ((¬ (p.I 6) = 8) → ∃ n, wLX12_note_51 Post (fun (p3 : St) => ∀ p4 : St, p4 = p3.sI 6 ((p3.I 6) + 1) → Post p4) n (0, p)) ∧ (((p.I 6) = 8) → ∃ n, wLX12_note_11 Post (fun (p7 : St) => ∀ p8 : St, p8 = p7.sI 6 ((p7.I 6) - 1) → ∃ n, wLX12_note_51 Post (fun (p9 : St) => ∀ p10 : St, p10 = p9.sI 6 ((p9.I 6) + 1) → Post p10) n (0, p8)) n (0, p))
def wjX12_dentAll_116  (Post : St → Prop) (self : (Int32 × Int32 × Int32 × Int32 × Int32 × Int32 × Int32 × St) → Prop) (KX : Int32 → Int32 → Int32 → Int32 → Int32 → Int32 → St → Prop) (x1 : Int32) (x2 : Int32) (x3 : Int32) (x4 : Int32) (x5 : Int32) (x6 : Int32) (x7 : Int32) (z0 : Int32) (z1 : Int32) (p : St) : Prop := vp_in z1 126 ∧ ∀ p6 : St, p6 = p.sA 4 (upd (p.A 4) z1.toNatClampNeg z0) → ∀ x7_7 : Int32, x7_7 = x7 + 1 → self (x1, x2, x3, x4, x5, x6, x7_7, p6)
def wjX12_dentAll_109  (Post : St → Prop) (self : (Int32 × Int32 × Int32 × Int32 × Int32 × Int32 × Int32 × St) → Prop) (KX : Int32 → Int32 → Int32 → Int32 → Int32 → Int32 → St → Prop) (x1 : Int32) (x2 : Int32) (x3 : Int32) (x4 : Int32) (x5 : Int32) (x6 : Int32) (x7 : Int32) (x8 : Int32) (z0 : Int32) (p : St) : Prop := vp_in x8 126 ∧ wjX12_dentAll_116 Post self KX x1 x2 x3 x4 x5 x6 x7 ((p.A 4) x8.toNatClampNeg) z0 p
def wlX12_dentAll_57  (Post : St → Prop) (KX : Int32 → Int32 → Int32 → Int32 → Int32 → Int32 → St → Prop) (self : (Int32 × Int32 × Int32 × Int32 × Int32 × Int32 × Int32 × St) → Prop) (x1 : Int32) (x2 : Int32) (x3 : Int32) (x4 : Int32) (x5 : Int32) (x6 : Int32) (x7 : Int32) (p : St) : Prop := ((12 ≤ x7) → KX x1 x2 x3 x4 x5 x6 p) ∧ ((¬ 12 ≤ x7) → ∀ x8_4 : Int32, x8_4 = (((12 : Int32) + ((12 : Int32) * x5)) + x7) → wpX12_has x3 x7 (fun (r5 : Int32) => ((r5 = 0) → wjX12_dentAll_109 Post self KX x1 x2 x3 x4 x5 x6 x7 x8_4 x8_4 p) ∧ ((¬ r5 = 0) → vp_in x8_4 126 ∧ ((x6 ≤ ((p.A 4) x8_4.toNatClampNeg)) → wjX12_dentAll_109 Post self KX x1 x2 x3 x4 x5 x6 x7 x8_4 x8_4 p) ∧ ((¬ x6 ≤ ((p.A 4) x8_4.toNatClampNeg)) → wjX12_dentAll_116 Post self KX x1 x2 x3 x4 x5 x6 x7 x6 x8_4 p))))
def wLX12_dentAll_57  (Post : St → Prop) (KX : Int32 → Int32 → Int32 → Int32 → Int32 → Int32 → St → Prop) : Nat → (Int32 × Int32 × Int32 × Int32 × Int32 × Int32 × Int32 × St) → Prop := itN (fun self x => wlX12_dentAll_57  Post KX self x.1 x.2.1 x.2.2.1 x.2.2.2.1 x.2.2.2.2.1 x.2.2.2.2.2.1 x.2.2.2.2.2.2.1 x.2.2.2.2.2.2.2)
def wlX12_dentAll_33  (Post : St → Prop) (KX : St → Prop) (self : (Int32 × Int32 × Int32 × Int32 × Int32 × St) → Prop) (x1 : Int32) (x2 : Int32) (x3 : Int32) (x4 : Int32) (x5 : Int32) (p : St) : Prop := (((p.I 0) ≤ x5) → KX p) ∧ ((¬ (p.I 0) ≤ x5) → wpX12_forceOf x1 x2 (x5 - x4) (fun (r3 : Int32) => ∃ n, wLX12_dentAll_57 Post (fun (y8 : Int32) (y9 : Int32) (y10 : Int32) (y11 : Int32) (y12 : Int32) (y13 : Int32) (p14 : St) => ((y12 ≤ y11) → ∀ x5_15 : Int32, x5_15 = y12 + 1 → self (y8, y9, y10, y11, x5_15, p14)) ∧ ((¬ y12 ≤ y11) → wpX12_has (p14.I 1) (y12 - 1) (fun (r16 : Int32) => ((r16 = 0) → ∀ x5_17 : Int32, x5_17 = y12 + 1 → self (y8, y9, y10, y11, x5_17, p14)) ∧ ((¬ r16 = 0) → ((y13 < 2) → ∀ x5_18 : Int32, x5_18 = y12 + 1 → self (y8, y9, y10, y11, x5_18, p14)) ∧ ((¬ y13 < 2) → vp_in ((6 : Int32) + y12) 126 ∧ vp_in ((6 : Int32) + y12) 126 ∧ ∀ p19 : St, p19 = p14.sA 4 (upd (p14.A 4) ((6 : Int32) + y12).toNatClampNeg (((p14.A 4) ((6 : Int32) + y12).toNatClampNeg) ||| y10)) → ∀ x5_20 : Int32, x5_20 = y12 + 1 → self (y8, y9, y10, y11, x5_20, p19)))))) n (x1, x2, x3, x4, x5, r3, 0, p)))
def wLX12_dentAll_33  (Post : St → Prop) (KX : St → Prop) : Nat → (Int32 × Int32 × Int32 × Int32 × Int32 × St) → Prop := itN (fun self x => wlX12_dentAll_33  Post KX self x.1 x.2.1 x.2.2.1 x.2.2.2.1 x.2.2.2.2.1 x.2.2.2.2.2)
def wpX12_dentAll (x1 : Int32) (x2 : Int32) (x3 : Int32) (p : St)  (Post : St → Prop) : Prop := ∀ x4_1 : Int32, x4_1 = ((p.A 4) 125) → wpX12_hasInk x1 (fun (r2 : Int32) => ((r2 = 0) → ∃ n, wLX12_dentAll_33 Post (fun (p21 : St) => Post p21) n (x1, x2, x3, x4_1, x4_1, p)) ∧ ((¬ r2 = 0) → vp_in ((0 : Int32) + x4_1) 126 ∧ vp_in ((0 : Int32) + x4_1) 126 ∧ ∀ p22 : St, p22 = p.sA 4 (upd (p.A 4) ((0 : Int32) + x4_1).toNatClampNeg (((p.A 4) ((0 : Int32) + x4_1).toNatClampNeg) ||| x3)) → ∃ n, wLX12_dentAll_33 Post (fun (p23 : St) => Post p23) n (x1, x2, x3, x4_1, x4_1, p22)))
def wpX12_writeNow (x1 : Int32) (x2 : Int32) (x3 : Int32) (p : St)  (Post : St → Prop) : Prop := wpX12_dentAll x1 x2 x3 p (fun (p1 : St) => ∀ x4_2 : Int32, x4_2 = ((84 : Int32) + ((4 : Int32) * ((p1.A 4) 124))) → vp_in x4_2 126 ∧ ∀ p3 : St, p3 = p1.sA 4 (upd (p1.A 4) x4_2.toNatClampNeg x1) → vp_in (x4_2 + 1) 126 ∧ ∀ p4 : St, p4 = p3.sA 4 (upd (p3.A 4) (x4_2 + 1).toNatClampNeg x2) → vp_in (x4_2 + 2) 126 ∧ ∀ p5 : St, p5 = p4.sA 4 (upd (p4.A 4) (x4_2 + 2).toNatClampNeg x3) → vp_in (x4_2 + 3) 126 ∧ ∀ p6 : St, p6 = p5.sA 4 (upd (p5.A 4) (x4_2 + 3).toNatClampNeg ((p5.A 4) 125)) → ∀ p7 : St, p7 = p6.sA 4 (upd (p6.A 4) 124 (((p6.A 4) 124) + 1)) → Post p7)
def wjX12_write_20  (Post : Int32 → St → Prop) (p : St) : Prop := wpX12_bad p (fun (r2 : Int32) (p3 : St) => Post r2 p3)
def wpX12_write (x1 : Int32) (x2 : Int32) (x3 : Int32) (p : St)  (Post : Int32 → St → Prop) : Prop := wpX12_isPen x1 x2 (fun (r1 : Int32) => ((r1 = 0) → wjX12_write_20 Post p) ∧ ((¬ r1 = 0) → wpX12_in (x3.toInt64) 0 4095 (fun (r4 : Int32) => ((¬ r4 = 0) → ((¬ ((p.A 4) 125) = (p.I 0)) → ((¬ ((p.A 4) 124) = 10) → wpX12_note p (fun (p5 : St) => wpX12_writeNow x1 x2 x3 p5 (fun (p6 : St) => Post (((p6.A 4) 124) - 1) p6))) ∧ ((((p.A 4) 124) = 10) → wpX12_refuse 2 (-4) p (fun (r7 : Int32) (p8 : St) => Post r7 p8))) ∧ ((((p.A 4) 125) = (p.I 0)) → wpX12_refuse 1 (-3) p (fun (r9 : Int32) (p10 : St) => Post r9 p10))) ∧ ((r4 = 0) → wjX12_write_20 Post p))))
def wpX12_tear  (p : St)  (Post : Int32 → St → Prop) : Prop := ((¬ ((p.A 4) 125) = (p.I 0)) → wpX12_note p (fun (p1 : St) => ∀ p2 : St, p2 = p1.sA 4 (upd (p1.A 4) 125 (((p1.A 4) 125) + 1)) → Post (((p2.A 4) 125) - 1) p2)) ∧ ((((p.A 4) 125) = (p.I 0)) → wpX12_refuse 1 (-3) p (fun (r3 : Int32) (p4 : St) => Post r3 p4))
def wlX12_undo_27  (Post : Int32 → St → Prop) (KX : St → Prop) (self : (Int32 × St) → Prop) (x1 : Int32) (p : St) : Prop := ((126 ≤ x1) → KX p) ∧ ((¬ 126 ≤ x1) → vp_in (((126 : Int32) * (p.I 6)) + x1) 1008 ∧ vp_in x1 126 ∧ ∀ p2 : St, p2 = p.sA 4 (upd (p.A 4) x1.toNatClampNeg ((p.A 5) (((126 : Int32) * (p.I 6)) + x1).toNatClampNeg)) → ∀ x1_3 : Int32, x1_3 = x1 + 1 → self (x1_3, p2))
def wLX12_undo_27  (Post : Int32 → St → Prop) (KX : St → Prop) : Nat → (Int32 × St) → Prop := itN (fun self x => wlX12_undo_27  Post KX self x.1 x.2)
def wpX12_undo  (p : St)  (Post : Int32 → St → Prop) : Prop := ((¬ (p.I 6) = 0) → ∀ p1 : St, p1 = p.sI 6 ((p.I 6) - 1) → ∃ n, wLX12_undo_27 Post (fun (p4 : St) => Post ((p4.A 4) 124) p4) n (0, p1)) ∧ (((p.I 6) = 0) → wpX12_refuse 1 (-3) p (fun (r5 : Int32) (p6 : St) => Post r5 p6))
def wpX12_word (x1 : Int32) (p : St)  (Post : Int32 → St → Prop) : Prop := wpX12_in (x1.toInt64) 0 4095 (fun (r1 : Int32) => ((¬ r1 = 0) → ((¬ (p.I 3) = 8) → vp_in (p.I 3) 8 ∧ ∀ p2 : St, p2 = p.sA 2 (upd (p.A 2) (p.I 3).toNatClampNeg x1) → ∀ p3 : St, p3 = p2.sI 3 ((p2.I 3) + 1) → Post ((p3.I 3) - 1) p3) ∧ (((p.I 3) = 8) → wpX12_refuse 2 (-4) p (fun (r4 : Int32) (p5 : St) => Post r4 p5))) ∧ ((r1 = 0) → wpX12_bad p (fun (r6 : Int32) (p7 : St) => Post r6 p7)))
def wpX12_forget  (p : St)  (Post : Int32 → St → Prop) : Prop := ∀ x1_1 : Int32, x1_1 = (p.I 3) → ∀ p2 : St, p2 = p.sI 3 0 → Post x1_1 p2
def wpX12_type (x1 : Int32) (p : St)  (Post : Int32 → St → Prop) : Prop := wpX12_in (x1.toInt64) 0 127 (fun (r1 : Int32) => ((¬ r1 = 0) → ((¬ (p.I 11) = 150) → vp_in (p.I 11) 150 ∧ ∀ p2 : St, p2 = p.sA 10 (upd (p.A 10) (p.I 11).toNatClampNeg x1) → ∀ p3 : St, p3 = p2.sI 11 ((p2.I 11) + 1) → Post (p3.I 11) p3) ∧ (((p.I 11) = 150) → wpX12_refuse 2 (-4) p (fun (r4 : Int32) (p5 : St) => Post r4 p5))) ∧ ((r1 = 0) → wpX12_bad p (fun (r6 : Int32) (p7 : St) => Post r6 p7)))
def wpX12_clear  (p : St)  (Post : Int32 → St → Prop) : Prop := ∀ x1_1 : Int32, x1_1 = (p.I 11) → ∀ p2 : St, p2 = p.sI 11 0 → Post x1_1 p2
def wpX12_byteAt (x1 : Int32) (p : St)  (Post : Int32 → Prop) : Prop := (((p.I 11) ≤ x1) → Post 0) ∧ ((¬ (p.I 11) ≤ x1) → vp_in x1 150 ∧ Post ((p.A 10) x1.toNatClampNeg))
def wjX12_isWord_118 (p : St) (Post : Int32 → Prop) (x5 : Int32) (x6 : Int32) (x7 : Int32) (z0 : Int32) : Prop := ((z0 = 0) → Post 0) ∧ ((¬ z0 = 0) → ((x7 < 6) → Post 1) ∧ ((¬ x7 < 6) → vp_in ((p.I 15) + 4) 150 ∧ ((¬ ((p.A 10) ((p.I 15) + 4).toNatClampNeg) = x5) → Post 0) ∧ ((((p.A 10) ((p.I 15) + 4).toNatClampNeg) = x5) → vp_in ((p.I 15) + 5) 150 ∧ ((¬ ((p.A 10) ((p.I 15) + 5).toNatClampNeg) = x6) → Post 0) ∧ ((((p.A 10) ((p.I 15) + 5).toNatClampNeg) = x6) → Post 1))))
def wjX12_isWord_84 (p : St) (Post : Int32 → Prop) (x4 : Int32) (x5 : Int32) (x6 : Int32) (x7 : Int32) (z0 : Int32) : Prop := ((z0 = 0) → wjX12_isWord_118 p Post x5 x6 x7 0) ∧ ((¬ z0 = 0) → ((x7 < 4) → wjX12_isWord_118 p Post x5 x6 x7 1) ∧ ((¬ x7 < 4) → vp_in ((p.I 15) + 3) 150 ∧ ((¬ ((p.A 10) ((p.I 15) + 3).toNatClampNeg) = x4) → wjX12_isWord_118 p Post x5 x6 x7 0) ∧ ((((p.A 10) ((p.I 15) + 3).toNatClampNeg) = x4) → wjX12_isWord_118 p Post x5 x6 x7 1)))
def wjX12_isWord_20 (p : St) (Post : Int32 → Prop) (x1 : Int32) (x2 : Int32) (x3 : Int32) (x4 : Int32) (x5 : Int32) (x6 : Int32) (z0 : Int32) : Prop := ((¬ ((p.I 12) - (p.I 15)) = z0) → wjX12_isWord_84 p Post x4 x5 x6 z0 0) ∧ ((((p.I 12) - (p.I 15)) = z0) → vp_in (p.I 15) 150 ∧ ((¬ ((p.A 10) (p.I 15).toNatClampNeg) = x1) → wjX12_isWord_84 p Post x4 x5 x6 z0 0) ∧ ((((p.A 10) (p.I 15).toNatClampNeg) = x1) → vp_in ((p.I 15) + 1) 150 ∧ ((¬ ((p.A 10) ((p.I 15) + 1).toNatClampNeg) = x2) → wjX12_isWord_84 p Post x4 x5 x6 z0 0) ∧ ((((p.A 10) ((p.I 15) + 1).toNatClampNeg) = x2) → vp_in ((p.I 15) + 2) 150 ∧ ((¬ ((p.A 10) ((p.I 15) + 2).toNatClampNeg) = x3) → wjX12_isWord_84 p Post x4 x5 x6 z0 0) ∧ ((((p.A 10) ((p.I 15) + 2).toNatClampNeg) = x3) → wjX12_isWord_84 p Post x4 x5 x6 z0 1))))
def wpX12_isWord (x1 : Int32) (x2 : Int32) (x3 : Int32) (x4 : Int32) (x5 : Int32) (x6 : Int32) (p : St)  (Post : Int32 → Prop) : Prop := ((¬ x4 = 0) → ((¬ x5 = 0) → wjX12_isWord_20 p Post x1 x2 x3 x4 x5 x6 6) ∧ ((x5 = 0) → wjX12_isWord_20 p Post x1 x2 x3 x4 x5 x6 4)) ∧ ((x4 = 0) → wjX12_isWord_20 p Post x1 x2 x3 x4 x5 x6 3)
def wlX12_nextToken_0  (Post : St → Prop) (KX : St → Prop) (self : (St) → Prop) (p : St) : Prop := wpX12_byteAt (p.I 12) p (fun (r1 : Int32) => ((¬ r1 = 32) → KX p) ∧ ((r1 = 32) → ∀ p2 : St, p2 = p.sI 12 ((p.I 12) + 1) → self p2))
def wLX12_nextToken_0  (Post : St → Prop) (KX : St → Prop) : Nat → (St) → Prop := itN (fun self x => wlX12_nextToken_0  Post KX self x)
def wjX12_nextToken_355  (Post : St → Prop) (z0 : Int32) (p : St) : Prop := ∀ p12 : St, p12 = p.sI 13 z0 → ∀ p13 : St, p13 = p12.sI 12 ((p12.I 12) + 1) → Post p13
def wjX12_nextToken_287  (Post : St → Prop) (self : (St) → Prop) (KX : St → Prop) (z0 : Int32) (p : St) : Prop := ∀ p16 : St, p16 = p.sI 14 z0 → ∀ p17 : St, p17 = p16.sI 12 ((p16.I 12) + 1) → self p17
def wlX12_nextToken_229  (Post : St → Prop) (KX : St → Prop) (self : (St) → Prop) (p : St) : Prop := wpX12_byteAt (p.I 12) p (fun (r14 : Int32) => wpX12_in (r14.toInt64) 48 57 (fun (r15 : Int32) => ((r15 = 0) → KX p) ∧ ((¬ r15 = 0) → (((p.I 14) ≤ 99) → vp_in (p.I 12) 150 ∧ wjX12_nextToken_287 Post self KX ((((10 : Int32) * (p.I 14)) + ((p.A 10) (p.I 12).toNatClampNeg)) - 48) p) ∧ ((¬ (p.I 14) ≤ 99) → wjX12_nextToken_287 Post self KX (p.I 14) p))))
def wLX12_nextToken_229  (Post : St → Prop) (KX : St → Prop) : Nat → (St) → Prop := itN (fun self x => wlX12_nextToken_229  Post KX self x)
def wjX12_nextToken_323  (Post : St → Prop) (z0 : Int32) (p : St) : Prop := ∀ p19 : St, p19 = p.sI 13 z0 → Post p19
def wlX12_nextToken_81  (Post : St → Prop) (KX : St → Prop) (self : (St) → Prop) (p : St) : Prop := wpX12_byteAt (p.I 12) p (fun (r20 : Int32) => wpX12_in (r20.toInt64) 97 122 (fun (r21 : Int32) => ((r21 = 0) → KX p) ∧ ((¬ r21 = 0) → ∀ p22 : St, p22 = p.sI 12 ((p.I 12) + 1) → self p22)))
def wLX12_nextToken_81  (Post : St → Prop) (KX : St → Prop) : Nat → (St) → Prop := itN (fun self x => wlX12_nextToken_81  Post KX self x)
def wjX12_nextToken_202  (Post : St → Prop) (z0 : Int32) (p : St) : Prop := ∀ p28 : St, p28 = p.sI 13 z0 → Post p28
def wjX12_nextToken_52  (Post : St → Prop) (z0 : Int32) (p : St) : Prop := ∀ p5 : St, p5 = p.sI 13 z0 → ∀ p6 : St, p6 = p5.sI 14 0 → wpX12_byteAt (p6.I 12) p6 (fun (r7 : Int32) => wpX12_in (r7.toInt64) 97 122 (fun (r8 : Int32) => ((r8 = 0) → wpX12_byteAt (p6.I 12) p6 (fun (r9 : Int32) => wpX12_in (r9.toInt64) 48 57 (fun (r10 : Int32) => ((r10 = 0) → ((¬ (p6.I 13) = 0) → Post p6) ∧ (((p6.I 13) = 0) → wpX12_byteAt (p6.I 12) p6 (fun (r11 : Int32) => ((¬ r11 = 59) → wjX12_nextToken_355 Post 0 p6) ∧ ((r11 = 59) → wjX12_nextToken_355 Post 5 p6)))) ∧ ((¬ r10 = 0) → ∃ n, wLX12_nextToken_229 Post (fun (p18 : St) => ((((p18.I 12) - (p18.I 15)) ≤ 2) → wjX12_nextToken_323 Post 6 p18) ∧ ((¬ ((p18.I 12) - (p18.I 15)) ≤ 2) → wjX12_nextToken_323 Post 0 p18)) n p6)))) ∧ ((¬ r8 = 0) → ∃ n, wLX12_nextToken_81 Post (fun (p23 : St) => wpX12_isWord 112 97 100 0 0 0 p23 (fun (r24 : Int32) => ((r24 = 0) → wpX12_isWord 99 97 114 98 111 110 p23 (fun (r25 : Int32) => ((r25 = 0) → wpX12_isWord 110 111 116 101 0 0 p23 (fun (r26 : Int32) => ((r26 = 0) → wpX12_isWord 116 101 97 114 0 0 p23 (fun (r27 : Int32) => ((r27 = 0) → wjX12_nextToken_202 Post 0 p23) ∧ ((¬ r27 = 0) → wjX12_nextToken_202 Post 4 p23))) ∧ ((¬ r26 = 0) → wjX12_nextToken_202 Post 3 p23))) ∧ ((¬ r25 = 0) → wjX12_nextToken_202 Post 2 p23))) ∧ ((¬ r24 = 0) → wjX12_nextToken_202 Post 1 p23))) n p6)))
def wpX12_nextToken  (p : St)  (Post : St → Prop) : Prop := ∃ n, wLX12_nextToken_0 Post (fun (p3 : St) => ∀ p4 : St, p4 = p3.sI 15 (p3.I 12) → ((¬ (p4.I 12) = (p4.I 11)) → wjX12_nextToken_52 Post 0 p4) ∧ (((p4.I 12) = (p4.I 11)) → wjX12_nextToken_52 Post 7 p4)) n p
def wpX12_number (x1 : Int32) (x2 : Int32) (p : St)  (Post : Int32 → St → Prop) : Prop := wpX12_nextToken p (fun (p1 : St) => ((¬ (p1.I 13) = 6) → Post 0 p1) ∧ (((p1.I 13) = 6) → wpX12_in (((p1.I 14)).toInt64) (x1.toInt64) (x2.toInt64) (fun (r2 : Int32) => ((r2 = 0) → Post 0 p1) ∧ ((¬ r2 = 0) → Post 1 p1))))
def wlX12_readNote_55  (Post : Int32 → St → Prop) (KX : Int32 → Int32 → St → Prop) (self : (Int32 × Int32 × Int32 × St) → Prop) (x1 : Int32) (x2 : Int32) (x3 : Int32) (p : St) : Prop := ((¬ (p.I 13) = 6) → KX x1 x2 p) ∧ (((p.I 13) = 6) → wpX12_in (((p.I 14)).toInt64) (((x3 + 1)).toInt64) 11 (fun (r9 : Int32) => ((¬ r9 = 0) → ∀ x3_10 : Int32, x3_10 = (p.I 14) → ∀ x2_11 : Int32, x2_11 = (x2 ||| ((1 : Int32) <<< ((p.I 14) &&& 31))) → wpX12_nextToken p (fun (p12 : St) => self (x1, x2_11, x3_10, p12))) ∧ ((r9 = 0) → Post 0 p)))
def wLX12_readNote_55  (Post : Int32 → St → Prop) (KX : Int32 → Int32 → St → Prop) : Nat → (Int32 × Int32 × Int32 × St) → Prop := itN (fun self x => wlX12_readNote_55  Post KX self x.1 x.2.1 x.2.2.1 x.2.2.2)
def wpX12_readNote (x1 : Int32) (p : St)  (Post : Int32 → St → Prop) : Prop := wpX12_number 0 5 p (fun (r1 : Int32) (p2 : St) => ((¬ r1 = 0) → vp_in (x1 + 1) 600 ∧ ∀ p3 : St, p3 = p2.sA 16 (upd (p2.A 16) (x1 + 1).toNatClampNeg (p2.I 14)) → wpX12_number 1 9 p3 (fun (r4 : Int32) (p5 : St) => ((¬ r4 = 0) → vp_in (x1 + 2) 600 ∧ ∀ p6 : St, p6 = p5.sA 16 (upd (p5.A 16) (x1 + 2).toNatClampNeg (p5.I 14)) → ∀ x3_7 : Int32, x3_7 = (-1) → wpX12_nextToken p6 (fun (p8 : St) => ∃ n, wLX12_readNote_55 Post (fun (y13 : Int32) (y14 : Int32) (p15 : St) => vp_in (y13 + 3) 600 ∧ ∀ p16 : St, p16 = p15.sA 16 (upd (p15.A 16) (y13 + 3).toNatClampNeg y14) → Post 1 p16) n (x1, 0, x3_7, p8))) ∧ ((r4 = 0) → Post 0 p5))) ∧ ((r1 = 0) → Post 0 p2))
def wjX12_readPad_253  (Post : Int32 → St → Prop) (self : (St) → Prop) (KX : St → Prop) (z0 : Int32) (z1 : Int32) (p : St) : Prop := ∀ p16 : St, p16 = p.sI 20 (z1 + z0) → ∀ p17 : St, p17 = p16.sI 17 ((p16.I 17) + 1) → wpX12_nextToken p17 (fun (p18 : St) => self p18)
def wjX12_readPad_235  (Post : Int32 → St → Prop) (self : (St) → Prop) (KX : St → Prop) (x2 : Int32) (z0 : Int32) (z1 : Int32) (p : St) : Prop := ∀ p15 : St, p15 = p.sI 19 (z1 + z0) → ((x2 = 0) → wjX12_readPad_253 Post self KX 0 (p15.I 20) p15) ∧ ((¬ x2 = 0) → wjX12_readPad_253 Post self KX 1 (p15.I 20) p15)
def wjX12_readPad_210  (Post : Int32 → St → Prop) (self : (St) → Prop) (KX : St → Prop) (x1 : Int32) (x2 : Int32) (p : St) : Prop := (((p.I 13) = 5) → ((¬ x1 = 4) → wjX12_readPad_235 Post self KX x2 0 (p.I 19) p) ∧ ((x1 = 4) → wjX12_readPad_235 Post self KX x2 1 (p.I 19) p)) ∧ ((¬ (p.I 13) = 5) → Post 0 p)
def wjX12_readPad_202  (Post : Int32 → St → Prop) (self : (St) → Prop) (KX : St → Prop) (x1 : Int32) (x2 : Int32) (p : St) : Prop := ((¬ x2 = 0) → wjX12_readPad_210 Post self KX x1 x2 p) ∧ ((x2 = 0) → wpX12_nextToken p (fun (p19 : St) => wjX12_readPad_210 Post self KX x1 x2 p19))
def wjX12_readPad_188  (Post : Int32 → St → Prop) (self : (St) → Prop) (KX : St → Prop) (x1 : Int32) (x2 : Int32) (x3 : Int32) (p : St) : Prop := ((x2 = 0) → wjX12_readPad_202 Post self KX x1 x2 p) ∧ ((¬ x2 = 0) → wpX12_readNote x3 p (fun (r20 : Int32) (p21 : St) => ((¬ r20 = 0) → wjX12_readPad_202 Post self KX x1 x2 p21) ∧ ((r20 = 0) → Post 0 p21)))
def wjX12_readPad_141  (Post : Int32 → St → Prop) (self : (St) → Prop) (KX : St → Prop) (x1 : Int32) (x2 : Int32) (p : St) : Prop := ∀ x3_13 : Int32, x3_13 = ((4 : Int32) * (p.I 17)) → vp_in x3_13 600 ∧ ∀ p14 : St, p14 = p.sA 16 (upd (p.A 16) x3_13.toNatClampNeg x1) → ((¬ x1 = 2) → wjX12_readPad_188 Post self KX x1 x2 x3_13 p14) ∧ ((x1 = 2) → wpX12_number 0 ((p14.I 18) - 1) p14 (fun (r22 : Int32) (p23 : St) => ((¬ r22 = 0) → vp_in (x3_13 + 1) 600 ∧ ∀ p24 : St, p24 = p23.sA 16 (upd (p23.A 16) (x3_13 + 1).toNatClampNeg (p23.I 14)) → wjX12_readPad_188 Post self KX x1 x2 x3_13 p24) ∧ ((r22 = 0) → Post 0 p23)))
def wjX12_readPad_126  (Post : Int32 → St → Prop) (self : (St) → Prop) (KX : St → Prop) (x1 : Int32) (x2 : Int32) (p : St) : Prop := ((x2 = 0) → wjX12_readPad_141 Post self KX x1 x2 p) ∧ ((¬ x2 = 0) → ((¬ (p.I 20) = 10) → wjX12_readPad_141 Post self KX x1 x2 p) ∧ (((p.I 20) = 10) → Post 0 p))
def wjX12_readPad_99  (Post : Int32 → St → Prop) (self : (St) → Prop) (KX : St → Prop) (x1 : Int32) (z0 : Int32) (p : St) : Prop := ((x1 < 2) → Post 0 p) ∧ ((¬ x1 < 2) → ((4 < x1) → Post 0 p) ∧ ((¬ 4 < x1) → ((x1 ≤ 2) → wjX12_readPad_126 Post self KX x1 z0 p) ∧ ((¬ x1 ≤ 2) → (((p.I 19) = (p.I 18)) → Post 0 p) ∧ ((¬ (p.I 19) = (p.I 18)) → wjX12_readPad_126 Post self KX x1 z0 p))))
def wlX12_readPad_75  (Post : Int32 → St → Prop) (KX : St → Prop) (self : (St) → Prop) (p : St) : Prop := (((p.I 13) = 7) → KX p) ∧ ((¬ (p.I 13) = 7) → ∀ x1_12 : Int32, x1_12 = (p.I 13) → ((¬ x1_12 = 3) → wjX12_readPad_99 Post self KX x1_12 0 p) ∧ ((x1_12 = 3) → wjX12_readPad_99 Post self KX x1_12 1 p))
def wLX12_readPad_75  (Post : Int32 → St → Prop) (KX : St → Prop) : Nat → (St) → Prop := itN (fun self x => wlX12_readPad_75  Post KX self x)
def wpX12_readPad  (p : St)  (Post : Int32 → St → Prop) : Prop := ∀ p1 : St, p1 = p.sI 12 0 → ∀ p2 : St, p2 = p1.sI 17 0 → ∀ p3 : St, p3 = p2.sI 19 0 → ∀ p4 : St, p4 = p3.sI 20 0 → wpX12_nextToken p4 (fun (p5 : St) => ((¬ (p5.I 13) = 1) → Post 0 p5) ∧ (((p5.I 13) = 1) → wpX12_number 1 6 p5 (fun (r6 : Int32) (p7 : St) => ((¬ r6 = 0) → ∀ p8 : St, p8 = p7.sI 18 (p7.I 14) → wpX12_nextToken p8 (fun (p9 : St) => (((p9.I 13) = 5) → ∀ p10 : St, p10 = p9.sI 17 1 → wpX12_nextToken p10 (fun (p11 : St) => ∃ n, wLX12_readPad_75 Post (fun (p25 : St) => Post 1 p25) n p11)) ∧ ((¬ (p9.I 13) = 5) → Post 0 p9))) ∧ ((r6 = 0) → Post 0 p7))))
def wlX12_read_34  (Post : Int32 → St → Prop) (KX : St → Prop) (self : (Int32 × St) → Prop) (x1 : Int32) (p : St) : Prop := (((p.I 17) ≤ x1) → KX p) ∧ ((¬ (p.I 17) ≤ x1) → ∀ x2_6 : Int32, x2_6 = ((4 : Int32) * x1) → vp_in x2_6 600 ∧ ((¬ ((p.A 16) x2_6.toNatClampNeg) = 2) → vp_in x2_6 600 ∧ ((¬ ((p.A 16) x2_6.toNatClampNeg) = 3) → ∀ p7 : St, p7 = p.sA 4 (upd (p.A 4) 125 (((p.A 4) 125) + 1)) → ∀ x1_8 : Int32, x1_8 = x1 + 1 → self (x1_8, p7)) ∧ ((((p.A 16) x2_6.toNatClampNeg) = 3) → vp_in (x2_6 + 1) 600 ∧ vp_in (x2_6 + 2) 600 ∧ vp_in (x2_6 + 3) 600 ∧ wpX12_writeNow ((p.A 16) (x2_6 + 1).toNatClampNeg) ((p.A 16) (x2_6 + 2).toNatClampNeg) ((p.A 16) (x2_6 + 3).toNatClampNeg) p (fun (p9 : St) => ∀ x1_10 : Int32, x1_10 = x1 + 1 → self (x1_10, p9)))) ∧ ((((p.A 16) x2_6.toNatClampNeg) = 2) → vp_in (x2_6 + 1) 600 ∧ ∀ p11 : St, p11 = p.sI 1 ((p.I 1) ||| ((1 : Int32) <<< (((p.A 16) (x2_6 + 1).toNatClampNeg) &&& 31))) → ∀ x1_12 : Int32, x1_12 = x1 + 1 → self (x1_12, p11)))
def wLX12_read_34  (Post : Int32 → St → Prop) (KX : St → Prop) : Nat → (Int32 × St) → Prop := itN (fun self x => wlX12_read_34  Post KX self x.1 x.2)
def wpX12_read  (p : St)  (Post : Int32 → St → Prop) : Prop := wpX12_readPad p (fun (r1 : Int32) (p2 : St) => ((¬ r1 = 0) → ∀ p3 : St, p3 = p2.sI 0 (p2.I 18) → wpX12_empty p3 (fun (p4 : St) => ∀ p5 : St, p5 = p4.sI 3 0 → ∃ n, wLX12_read_34 Post (fun (p13 : St) => Post (p13.I 17) p13) n (1, p5))) ∧ ((r1 = 0) → Post (((-10) : Int32) - (p2.I 15)) p2))
def wlX12_writtenOn_4 (p : St) (Post : Int32 → Prop) (KX : Int32 → Prop) (self : (Int32 × Int32 × Int32) → Prop) (x1 : Int32) (x2 : Int32) (x3 : Int32) : Prop := ((((p.A 4) 124) ≤ x3) → KX x2) ∧ ((¬ ((p.A 4) 124) ≤ x3) → vp_in (((84 : Int32) + ((4 : Int32) * x3)) + 3) 126 ∧ ((¬ ((p.A 4) (((84 : Int32) + ((4 : Int32) * x3)) + 3).toNatClampNeg) = x1) → ∀ x2_1 : Int32, x2_1 = (x2 ||| 0) → ∀ x3_2 : Int32, x3_2 = x3 + 1 → self (x1, x2_1, x3_2)) ∧ ((((p.A 4) (((84 : Int32) + ((4 : Int32) * x3)) + 3).toNatClampNeg) = x1) → ∀ x2_3 : Int32, x2_3 = (x2 ||| ((1 : Int32) <<< (x3 &&& 31))) → ∀ x3_4 : Int32, x3_4 = x3 + 1 → self (x1, x2_3, x3_4)))
def wLX12_writtenOn_4 (p : St) (Post : Int32 → Prop) (KX : Int32 → Prop) : Nat → (Int32 × Int32 × Int32) → Prop := itN (fun self x => wlX12_writtenOn_4 p Post KX self x.1 x.2.1 x.2.2)
def wpX12_writtenOn (x1 : Int32) (p : St)  (Post : Int32 → Prop) : Prop := ∃ n, wLX12_writtenOn_4 p Post (fun (y5 : Int32) => Post y5) n (x1, 0, 0)
def wpX12_of (x1 : Int32) (x2 : Int32) (p : St)  (Post : Int32 → St → Prop) : Prop := wpX12_isSheet x1 p (fun (r1 : Int32) => ((¬ r1 = 0) → (x2 = 0 → vp_in ((0 : Int32) + x1) 126 ∧ Post ((p.A 4) ((0 : Int32) + x1).toNatClampNeg) p) ∧ (x2 = 1 → vp_in ((6 : Int32) + x1) 126 ∧ Post ((p.A 4) ((6 : Int32) + x1).toNatClampNeg) p) ∧ (x2 = 2 → ((((p.A 4) 125) ≤ x1) → Post (x1 - ((p.A 4) 125)) p) ∧ ((¬ ((p.A 4) 125) ≤ x1) → Post (-1) p)) ∧ (x2 = 3 → wpX12_writtenOn x1 p (fun (r2 : Int32) => Post r2 p)) ∧ (¬ x2 = 0 → ¬ x2 = 1 → ¬ x2 = 2 → ¬ x2 = 3 → wpX12_badLess p (fun (r3 : Int32) (p4 : St) => Post r3 p4))) ∧ ((r1 = 0) → wpX12_badLess p (fun (r5 : Int32) (p6 : St) => Post r5 p6)))
def wpX12_dentOf (x1 : Int32) (x2 : Int32) (p : St)  (Post : Int32 → Prop) : Prop := vp_in (((12 : Int32) + ((12 : Int32) * x1)) + x2) 126 ∧ Post ((p.A 4) (((12 : Int32) + ((12 : Int32) * x1)) + x2).toNatClampNeg)
def wjX12_dent_29  (Post : Int32 → St → Prop) (p : St) : Prop := wpX12_bad p (fun (r2 : Int32) (p3 : St) => Post r2 p3)
def wpX12_dent (x1 : Int32) (x2 : Int32) (p : St)  (Post : Int32 → St → Prop) : Prop := wpX12_isSheet x1 p (fun (r1 : Int32) => ((r1 = 0) → wjX12_dent_29 Post p) ∧ ((¬ r1 = 0) → wpX12_in (x2.toInt64) 0 11 (fun (r4 : Int32) => ((r4 = 0) → wjX12_dent_29 Post p) ∧ ((¬ r4 = 0) → wpX12_dentOf x1 x2 p (fun (r5 : Int32) => Post r5 p)))))
def wpX12_about (x1 : Int32) (x2 : Int32) (p : St)  (Post : Int32 → St → Prop) : Prop := wpX12_in (x1.toInt64) 0 (((((p.A 4) 124) - 1)).toInt64) (fun (r1 : Int32) => ((¬ r1 = 0) → ∀ x3_2 : Int32, x3_2 = ((84 : Int32) + ((4 : Int32) * x1)) → (x2 = 0 → vp_in (x3_2 + x2) 126 ∧ Post ((p.A 4) (x3_2 + x2).toNatClampNeg) p) ∧ (x2 = 1 → vp_in (x3_2 + x2) 126 ∧ Post ((p.A 4) (x3_2 + x2).toNatClampNeg) p) ∧ (x2 = 2 → vp_in (x3_2 + x2) 126 ∧ Post ((p.A 4) (x3_2 + x2).toNatClampNeg) p) ∧ (x2 = 3 → vp_in (x3_2 + x2) 126 ∧ Post ((p.A 4) (x3_2 + x2).toNatClampNeg) p) ∧ (x2 = 4 → vp_in x3_2 126 ∧ vp_in (x3_2 + 1) 126 ∧ wpX12_forceOf ((p.A 4) x3_2.toNatClampNeg) ((p.A 4) (x3_2 + 1).toNatClampNeg) 0 (fun (r3 : Int32) => Post r3 p)) ∧ (x2 = 5 → vp_in x3_2 126 ∧ wpX12_hasInk ((p.A 4) x3_2.toNatClampNeg) (fun (r4 : Int32) => ((r4 = 0) → Post 0 p) ∧ ((¬ r4 = 0) → Post 1 p))) ∧ (¬ x2 = 0 → ¬ x2 = 1 → ¬ x2 = 2 → ¬ x2 = 3 → ¬ x2 = 4 → ¬ x2 = 5 → wpX12_bad p (fun (r5 : Int32) (p6 : St) => Post r5 p6))) ∧ ((r1 = 0) → wpX12_bad p (fun (r7 : Int32) (p8 : St) => Post r7 p8)))
def wjX12_force_29  (Post : Int32 → St → Prop) (p : St) : Prop := wpX12_bad p (fun (r2 : Int32) (p3 : St) => Post r2 p3)
def wpX12_force (x1 : Int32) (x2 : Int32) (x3 : Int32) (p : St)  (Post : Int32 → St → Prop) : Prop := wpX12_isPen x1 x2 (fun (r1 : Int32) => ((r1 = 0) → wjX12_force_29 Post p) ∧ ((¬ r1 = 0) → wpX12_in (x3.toInt64) 0 5 (fun (r4 : Int32) => ((r4 = 0) → wjX12_force_29 Post p) ∧ ((¬ r4 = 0) → wpX12_forceOf x1 x2 x3 (fun (r5 : Int32) => Post r5 p)))))
def wpX12_forceIn (x1 : Int32) (x2 : Int32) (x3 : Int32) (p : St)  (Post : Int32 → Prop) : Prop := ∀ x4_1 : Int32, x4_1 = ((84 : Int32) + ((4 : Int32) * x1)) → vp_in (x4_1 + 3) 126 ∧ ∀ x5_2 : Int32, x5_2 = (x2 - ((p.A 4) (x4_1 + 3).toNatClampNeg)) → ((x5_2 < 0) → Post 0) ∧ ((¬ x5_2 < 0) → vp_in (x4_1 + 2) 126 ∧ wpX12_has ((p.A 4) (x4_1 + 2).toNatClampNeg) x3 (fun (r3 : Int32) => ((r3 = 0) → Post 0) ∧ ((¬ r3 = 0) → vp_in x4_1 126 ∧ vp_in (x4_1 + 1) 126 ∧ wpX12_forceOf ((p.A 4) x4_1.toNatClampNeg) ((p.A 4) (x4_1 + 1).toNatClampNeg) x5_2 (fun (r4 : Int32) => Post r4))))
def wlX12_whoseOf_4 (p : St) (Post : Int32 → Prop) (KX : Int32 → Prop) (self : (Int32 × Int32 × Int32) → Prop) (x1 : Int32) (x2 : Int32) (x3 : Int32) : Prop := ((((12 : Int32) * ((p.A 4) 124)) ≤ x3) → KX x2) ∧ ((¬ ((12 : Int32) * ((p.A 4) 124)) ≤ x3) → wpX12_forceIn (x3 / 12) x1 (x3 - x3 / 12 * 12) p (fun (r1 : Int32) => ((r1 ≤ 0) → ∀ x2_2 : Int32, x2_2 = (x2 ||| 0) → ∀ x3_3 : Int32, x3_3 = x3 + 1 → self (x1, x2_2, x3_3)) ∧ ((¬ r1 ≤ 0) → ∀ x2_4 : Int32, x2_4 = (x2 ||| ((1 : Int32) <<< ((x3 / 12) &&& 31))) → ∀ x3_5 : Int32, x3_5 = x3 + 1 → self (x1, x2_4, x3_5))))
def wLX12_whoseOf_4 (p : St) (Post : Int32 → Prop) (KX : Int32 → Prop) : Nat → (Int32 × Int32 × Int32) → Prop := itN (fun self x => wlX12_whoseOf_4 p Post KX self x.1 x.2.1 x.2.2)
def wpX12_whoseOf (x1 : Int32) (p : St)  (Post : Int32 → Prop) : Prop := ∃ n, wLX12_whoseOf_4 p Post (fun (y6 : Int32) => Post y6) n (x1, 0, 0)
def wpX12_whose (x1 : Int32) (p : St)  (Post : Int32 → St → Prop) : Prop := wpX12_isSheet x1 p (fun (r1 : Int32) => ((r1 = 0) → wpX12_bad p (fun (r2 : Int32) (p3 : St) => Post r2 p3)) ∧ ((¬ r1 = 0) → wpX12_whoseOf x1 p (fun (r4 : Int32) => Post r4 p)))
def wjX12_own_27  (Post : Int32 → St → Prop) (p : St) : Prop := wpX12_bad p (fun (r2 : Int32) (p3 : St) => Post r2 p3)
def wlX12_own_65  (Post : Int32 → St → Prop) (KX : Int32 → Int32 → Int32 → Int32 → Int32 → St → Prop) (self : (Int32 × Int32 × Int32 × Int32 × Int32 × Int32 × St) → Prop) (x1 : Int32) (x2 : Int32) (x3 : Int32) (x4 : Int32) (x5 : Int32) (x6 : Int32) (p : St) : Prop := ((((p.A 4) 124) ≤ x6) → KX x1 x2 x3 x4 x5 p) ∧ ((¬ ((p.A 4) 124) ≤ x6) → ((x5 = 0) → ∀ x6_6 : Int32, x6_6 = x6 + 1 → self (x1, x2, x3, x4, 0, x6_6, p)) ∧ ((¬ x5 = 0) → ((x6 = x1) → ∀ x6_7 : Int32, x6_7 = x6 + 1 → self (x1, x2, x3, x4, 1, x6_7, p)) ∧ ((¬ x6 = x1) → wpX12_forceIn x6 x2 x4 p (fun (r8 : Int32) => ((¬ r8 = 0) → ∀ x6_9 : Int32, x6_9 = x6 + 1 → self (x1, x2, x3, x4, 0, x6_9, p)) ∧ ((r8 = 0) → ∀ x6_10 : Int32, x6_10 = x6 + 1 → self (x1, x2, x3, x4, 1, x6_10, p))))))
def wLX12_own_65  (Post : Int32 → St → Prop) (KX : Int32 → Int32 → Int32 → Int32 → Int32 → St → Prop) : Nat → (Int32 × Int32 × Int32 × Int32 × Int32 × Int32 × St) → Prop := itN (fun self x => wlX12_own_65  Post KX self x.1 x.2.1 x.2.2.1 x.2.2.2.1 x.2.2.2.2.1 x.2.2.2.2.2.1 x.2.2.2.2.2.2)
def wlX12_own_37  (Post : Int32 → St → Prop) (KX : Int32 → St → Prop) (self : (Int32 × Int32 × Int32 × Int32 × St) → Prop) (x1 : Int32) (x2 : Int32) (x3 : Int32) (x4 : Int32) (p : St) : Prop := ((12 ≤ x4) → KX x3 p) ∧ ((¬ 12 ≤ x4) → wpX12_forceIn x1 x2 x4 p (fun (r5 : Int32) => ((r5 ≤ 0) → ∃ n, wLX12_own_65 Post (fun (y11 : Int32) (y12 : Int32) (y13 : Int32) (y14 : Int32) (y15 : Int32) (p16 : St) => ((y15 = 0) → ∀ x3_17 : Int32, x3_17 = (y13 ||| 0) → ∀ x4_18 : Int32, x4_18 = y14 + 1 → self (y11, y12, x3_17, x4_18, p16)) ∧ ((¬ y15 = 0) → ∀ x3_19 : Int32, x3_19 = (y13 ||| ((1 : Int32) <<< (y14 &&& 31))) → ∀ x4_20 : Int32, x4_20 = y14 + 1 → self (y11, y12, x3_19, x4_20, p16))) n (x1, x2, x3, x4, 0, 0, p)) ∧ ((¬ r5 ≤ 0) → ∃ n, wLX12_own_65 Post (fun (y21 : Int32) (y22 : Int32) (y23 : Int32) (y24 : Int32) (y25 : Int32) (p26 : St) => ((y25 = 0) → ∀ x3_27 : Int32, x3_27 = (y23 ||| 0) → ∀ x4_28 : Int32, x4_28 = y24 + 1 → self (y21, y22, x3_27, x4_28, p26)) ∧ ((¬ y25 = 0) → ∀ x3_29 : Int32, x3_29 = (y23 ||| ((1 : Int32) <<< (y24 &&& 31))) → ∀ x4_30 : Int32, x4_30 = y24 + 1 → self (y21, y22, x3_29, x4_30, p26))) n (x1, x2, x3, x4, 1, 0, p))))
def wLX12_own_37  (Post : Int32 → St → Prop) (KX : Int32 → St → Prop) : Nat → (Int32 × Int32 × Int32 × Int32 × St) → Prop := itN (fun self x => wlX12_own_37  Post KX self x.1 x.2.1 x.2.2.1 x.2.2.2.1 x.2.2.2.2)
def wpX12_own (x1 : Int32) (x2 : Int32) (p : St)  (Post : Int32 → St → Prop) : Prop := wpX12_in (x1.toInt64) 0 (((((p.A 4) 124) - 1)).toInt64) (fun (r1 : Int32) => ((r1 = 0) → wjX12_own_27 Post p) ∧ ((¬ r1 = 0) → wpX12_isSheet x2 p (fun (r4 : Int32) => ((¬ r4 = 0) → ∃ n, wLX12_own_37 Post (fun (y31 : Int32) (p32 : St) => Post y31 p32) n (x1, x2, 0, 0, p)) ∧ ((r4 = 0) → wjX12_own_27 Post p))))
def wjX12_shown_20  (Post : Int32 → St → Prop) (p : St) : Prop := wpX12_bad p (fun (r2 : Int32) (p3 : St) => Post r2 p3)
def wlX12_shown_30  (Post : Int32 → St → Prop) (KX : Int32 → St → Prop) (self : (Int32 × Int32 × Int32 × Int32 × St) → Prop) (x1 : Int32) (x2 : Int32) (x3 : Int32) (x4 : Int32) (p : St) : Prop := ((12 ≤ x4) → KX x3 p) ∧ ((¬ 12 ≤ x4) → wpX12_dentOf x1 x4 p (fun (r5 : Int32) => ((r5 < x2) → ∀ x3_6 : Int32, x3_6 = (x3 ||| 0) → ∀ x4_7 : Int32, x4_7 = x4 + 1 → self (x1, x2, x3_6, x4_7, p)) ∧ ((¬ r5 < x2) → ∀ x3_8 : Int32, x3_8 = (x3 ||| ((1 : Int32) <<< (x4 &&& 31))) → ∀ x4_9 : Int32, x4_9 = x4 + 1 → self (x1, x2, x3_8, x4_9, p))))
def wLX12_shown_30  (Post : Int32 → St → Prop) (KX : Int32 → St → Prop) : Nat → (Int32 × Int32 × Int32 × Int32 × St) → Prop := itN (fun self x => wlX12_shown_30  Post KX self x.1 x.2.1 x.2.2.1 x.2.2.2.1 x.2.2.2.2)
def wpX12_shown (x1 : Int32) (x2 : Int32) (p : St)  (Post : Int32 → St → Prop) : Prop := wpX12_isSheet x1 p (fun (r1 : Int32) => ((r1 = 0) → wjX12_shown_20 Post p) ∧ ((¬ r1 = 0) → wpX12_in (x2.toInt64) 1 9 (fun (r4 : Int32) => ((¬ r4 = 0) → ∃ n, wLX12_shown_30 Post (fun (y10 : Int32) (p11 : St) => Post y10 p11) n (x1, x2, 0, 0, p)) ∧ ((r4 = 0) → wjX12_shown_20 Post p))))
def wjX12_explained_39 (p : St) (Post : Int32 → Prop) (self : (Int32 × Int32 × Int32 × Int32 × Int32) → Prop) (KX : Int32 → Prop) (x1 : Int32) (x2 : Int32) (x3 : Int32) (x4 : Int32) (x5 : Int32) (z0 : Int32) : Prop := ((z0 ≤ x4) → ∀ x5_2 : Int32, x5_2 = x5 + 1 → self (x1, x2, x3, x4, x5_2)) ∧ ((¬ z0 ≤ x4) → ∀ x5_3 : Int32, x5_3 = x5 + 1 → self (x1, x2, x3, z0, x5_3))
def wlX12_explained_6 (p : St) (Post : Int32 → Prop) (KX : Int32 → Prop) (self : (Int32 × Int32 × Int32 × Int32 × Int32) → Prop) (x1 : Int32) (x2 : Int32) (x3 : Int32) (x4 : Int32) (x5 : Int32) : Prop := ((((p.A 4) 124) ≤ x5) → KX x4) ∧ ((¬ ((p.A 4) 124) ≤ x5) → wpX12_has x2 x5 (fun (r1 : Int32) => ((r1 = 0) → wjX12_explained_39 p Post self KX x1 x2 x3 x4 x5 0) ∧ ((¬ r1 = 0) → wpX12_forceIn x5 x1 x3 p (fun (r4 : Int32) => wjX12_explained_39 p Post self KX x1 x2 x3 x4 x5 r4))))
def wLX12_explained_6 (p : St) (Post : Int32 → Prop) (KX : Int32 → Prop) : Nat → (Int32 × Int32 × Int32 × Int32 × Int32) → Prop := itN (fun self x => wlX12_explained_6 p Post KX self x.1 x.2.1 x.2.2.1 x.2.2.2.1 x.2.2.2.2)
def wpX12_explained (x1 : Int32) (x2 : Int32) (x3 : Int32) (p : St)  (Post : Int32 → Prop) : Prop := ∃ n, wLX12_explained_6 p Post (fun (y5 : Int32) => Post y5) n (x1, x2, x3, 0, 0)
def wjX12_isLost_125  (Post : Int32 → St → Prop) (self : (Int32 × Int32 × Int32 × Int32 × Int32 × St) → Prop) (KX : Int32 → St → Prop) (x1 : Int32) (x2 : Int32) (x3 : Int32) (x4 : Int32) (x5 : Int32) (z0 : Int32) (z1 : Int32) (p : St) : Prop := ∀ p6 : St, p6 = p.sI 22 (z1 ||| z0) → ∀ x5_7 : Int32, x5_7 = x5 + 1 → self (x1, x2, x3, x4, x5_7, p6)
def wjX12_isLost_117  (Post : Int32 → St → Prop) (self : (Int32 × Int32 × Int32 × Int32 × Int32 × St) → Prop) (KX : Int32 → St → Prop) (x1 : Int32) (x2 : Int32) (x3 : Int32) (x4 : Int32) (x5 : Int32) (z0 : Int32) (p : St) : Prop := wjX12_isLost_125 Post self KX x1 x2 x3 x4 x5 ((1 : Int32) <<< (x5 &&& 31)) z0 p
def wjX12_isLost_95  (Post : Int32 → St → Prop) (self : (Int32 × Int32 × Int32 × Int32 × Int32 × St) → Prop) (KX : Int32 → St → Prop) (x1 : Int32) (x2 : Int32) (x3 : Int32) (x4 : Int32) (x5 : Int32) (x6 : Int32) (x7 : Int32) (z0 : Int32) (z1 : Int32) (p : St) : Prop := ∀ p5 : St, p5 = p.sI 21 (z1 ||| z0) → ((x7 < x6) → wjX12_isLost_117 Post self KX x1 x2 x3 x4 x5 (p5.I 22) p5) ∧ ((¬ x7 < x6) → ((x7 < x3) → wjX12_isLost_125 Post self KX x1 x2 x3 x4 x5 0 (p5.I 22) p5) ∧ ((¬ x7 < x3) → wjX12_isLost_117 Post self KX x1 x2 x3 x4 x5 (p5.I 22) p5))
def wjX12_isLost_73  (Post : Int32 → St → Prop) (self : (Int32 × Int32 × Int32 × Int32 × Int32 × St) → Prop) (KX : Int32 → St → Prop) (x1 : Int32) (x2 : Int32) (x3 : Int32) (x5 : Int32) (x6 : Int32) (x7 : Int32) (z0 : Int32) (p : St) : Prop := ((x6 ≤ x7) → wjX12_isLost_95 Post self KX x1 x2 x3 z0 x5 x6 x7 0 (p.I 21) p) ∧ ((¬ x6 ≤ x7) → wjX12_isLost_95 Post self KX x1 x2 x3 z0 x5 x6 x7 ((1 : Int32) <<< (x5 &&& 31)) (p.I 21) p)
def wlX12_isLost_24  (Post : Int32 → St → Prop) (KX : Int32 → St → Prop) (self : (Int32 × Int32 × Int32 × Int32 × Int32 × St) → Prop) (x1 : Int32) (x2 : Int32) (x3 : Int32) (x4 : Int32) (x5 : Int32) (p : St) : Prop := ((12 ≤ x5) → KX x4 p) ∧ ((¬ 12 ≤ x5) → wpX12_dentOf x1 x5 p (fun (r3 : Int32) => wpX12_explained x1 x2 x5 p (fun (r4 : Int32) => ((x4 = 0) → wjX12_isLost_73 Post self KX x1 x2 x3 x5 r3 r4 0 p) ∧ ((¬ x4 = 0) → ((r3 = r4) → wjX12_isLost_73 Post self KX x1 x2 x3 x5 r3 r4 1 p) ∧ ((¬ r3 = r4) → ((¬ r3 = x3) → wjX12_isLost_73 Post self KX x1 x2 x3 x5 r3 r4 0 p) ∧ ((r3 = x3) → wjX12_isLost_73 Post self KX x1 x2 x3 x5 r3 r4 1 p))))))
def wLX12_isLost_24  (Post : Int32 → St → Prop) (KX : Int32 → St → Prop) : Nat → (Int32 × Int32 × Int32 × Int32 × Int32 × St) → Prop := itN (fun self x => wlX12_isLost_24  Post KX self x.1 x.2.1 x.2.2.1 x.2.2.2.1 x.2.2.2.2.1 x.2.2.2.2.2)
def wpX12_isLost (x1 : Int32) (x2 : Int32) (x3 : Int32) (p : St)  (Post : Int32 → St → Prop) : Prop := ∀ p1 : St, p1 = p.sI 21 0 → ∀ p2 : St, p2 = p1.sI 22 0 → ((x3 ≤ 0) → ∃ n, wLX12_isLost_24 Post (fun (y8 : Int32) (p9 : St) => vb y8 ∧ Post y8 p9) n (x1, x2, x3, 0, 0, p2)) ∧ ((¬ x3 ≤ 0) → ∃ n, wLX12_isLost_24 Post (fun (y10 : Int32) (p11 : St) => vb y10 ∧ Post y10 p11) n (x1, x2, x3, 1, 0, p2))
def wpX12_fits (x1 : Int32) (p : St)  (Post : Int32 → Prop) : Prop := ((¬ ((p.I 21) &&& (x1 ^^^ (-1))) = 0) → Post 0) ∧ ((((p.I 21) &&& (x1 ^^^ (-1))) = 0) → ((¬ (x1 &&& ((p.I 22) ^^^ (-1))) = 0) → Post 0) ∧ (((x1 &&& ((p.I 22) ^^^ (-1))) = 0) → Post 1))
def wjX12_lost_51  (Post : Int32 → St → Prop) (p : St) : Prop := wpX12_badLess p (fun (r2 : Int32) (p3 : St) => Post r2 p3)
def wlX12_lost_110  (Post : Int32 → St → Prop) (KX : Int32 → Int32 → Int32 → St → Prop) (self : (Int32 × Int32 × Int32 × Int32 × St) → Prop) (x6 : Int32) (x7 : Int32) (x8 : Int32) (x9 : Int32) (p : St) : Prop := (((p.I 3) ≤ x9) → KX x6 x7 x8 p) ∧ ((¬ (p.I 3) ≤ x9) → vp_in x9 8 ∧ wpX12_fits ((p.A 2) x9.toNatClampNeg) p (fun (r11 : Int32) => ((r11 = 0) → ∀ x8_12 : Int32, x8_12 = (x8 ||| 0) → ∀ x9_13 : Int32, x9_13 = x9 + 1 → self (x6, x7, x8_12, x9_13, p)) ∧ ((¬ r11 = 0) → ∀ x8_14 : Int32, x8_14 = (x8 ||| ((1 : Int32) <<< (x9 &&& 31))) → ∀ x9_15 : Int32, x9_15 = x9 + 1 → self (x6, x7, x8_14, x9_15, p))))
def wLX12_lost_110  (Post : Int32 → St → Prop) (KX : Int32 → Int32 → Int32 → St → Prop) : Nat → (Int32 × Int32 × Int32 × Int32 × St) → Prop := itN (fun self x => wlX12_lost_110  Post KX self x.1 x.2.1 x.2.2.1 x.2.2.2.1 x.2.2.2.2)
def wpX12_lost (x1 : Int32) (x2 : Int32) (x3 : Int32) (x4 : Int32) (x5 : Int32) (x6 : Int32) (p : St)  (Post : Int32 → St → Prop) : Prop := wpX12_isSheet x1 p (fun (r1 : Int32) => ((r1 = 0) → wjX12_lost_51 Post p) ∧ ((¬ r1 = 0) → wpX12_areNotes x2 p (fun (r4 : Int32) => ((r4 = 0) → wjX12_lost_51 Post p) ∧ ((¬ r4 = 0) → wpX12_isPen x3 x4 (fun (r5 : Int32) => ((r5 = 0) → wjX12_lost_51 Post p) ∧ ((¬ r5 = 0) → wpX12_in (x5.toInt64) 0 5 (fun (r6 : Int32) => ((r6 = 0) → wjX12_lost_51 Post p) ∧ ((¬ r6 = 0) → wpX12_in (x6.toInt64) 0 3 (fun (r7 : Int32) => ((¬ r7 = 0) → wpX12_forceOf x3 x4 x5 (fun (r8 : Int32) => wpX12_isLost x1 x2 r8 p (fun (r9 : Int32) (p10 : St) => ((2 ≤ x6) → ∃ n, wLX12_lost_110 Post (fun (y16 : Int32) (y17 : Int32) (y18 : Int32) (p19 : St) => ((¬ y17 = 0) → ((¬ y16 = 2) → Post y18 p19) ∧ ((y16 = 2) → wpX12_ones ((p19.I 22) &&& ((p19.I 21) ^^^ (-1))) (fun (r20 : Int32) => Post ((1 : Int32) <<< (r20 &&& 31)) p19))) ∧ ((y17 = 0) → Post 0 p19)) n (x6, r9, 0, 0, p10)) ∧ ((¬ 2 ≤ x6) → ((¬ r9 = 0) → ((¬ x6 = 0) → Post (p10.I 22) p10) ∧ ((x6 = 0) → Post (p10.I 21) p10)) ∧ ((r9 = 0) → Post (-1) p10))))) ∧ ((r7 = 0) → wjX12_lost_51 Post p))))))))))
def wjX12_pen_52  (Post : Int32 → St → Prop) (p : St) : Prop := wpX12_badLess p (fun (r2 : Int32) (p3 : St) => Post r2 p3)
def wjX12_pen_125  (Post : Int32 → St → Prop) (self : (Int32 × Int32 × Int32 × Int32 × Int32 × Int32 × Int32 × Int32 × St) → Prop) (KX : Int32 → Int32 → Int32 → St → Prop) (x1 : Int32) (x2 : Int32) (x3 : Int32) (x4 : Int32) (x5 : Int32) (x7 : Int32) (x8 : Int32) (x9 : Int32) (z0 : Int32) (z1 : Int32) (p : St) : Prop := ∀ x6_12 : Int32, x6_12 = (z1 + z0) → ((x9 = 0) → ∀ x8_13 : Int32, x8_13 = x8 + (-1) → self (x1, x2, x3, x4, x5, x6_12, x7, x8_13, p)) ∧ ((¬ x9 = 0) → ∀ x7_14 : Int32, x7_14 = ((((10 : Int32) * (x8 / 9)) + (x8 - x8 / 9 * 9)) + 1) → ∀ x8_15 : Int32, x8_15 = x8 + (-1) → self (x1, x2, x3, x4, x5, x6_12, x7_14, x8_15, p))
def wjX12_pen_111  (Post : Int32 → St → Prop) (self : (Int32 × Int32 × Int32 × Int32 × Int32 × Int32 × Int32 × Int32 × St) → Prop) (KX : Int32 → Int32 → Int32 → St → Prop) (x1 : Int32) (x2 : Int32) (x3 : Int32) (x4 : Int32) (x5 : Int32) (x6 : Int32) (x7 : Int32) (x8 : Int32) (z0 : Int32) (p : St) : Prop := ((z0 = 0) → wjX12_pen_125 Post self KX x1 x2 x3 x4 x5 x7 x8 z0 0 x6 p) ∧ ((¬ z0 = 0) → wjX12_pen_125 Post self KX x1 x2 x3 x4 x5 x7 x8 z0 1 x6 p)
def wlX12_pen_67  (Post : Int32 → St → Prop) (KX : Int32 → Int32 → Int32 → St → Prop) (self : (Int32 × Int32 × Int32 × Int32 × Int32 × Int32 × Int32 × Int32 × St) → Prop) (x1 : Int32) (x2 : Int32) (x3 : Int32) (x4 : Int32) (x5 : Int32) (x6 : Int32) (x7 : Int32) (x8 : Int32) (p : St) : Prop := ((x8 < 0) → KX x5 x6 x7 p) ∧ ((¬ x8 < 0) → wpX12_forceOf (x8 / 9) ((x8 - x8 / 9 * 9) + 1) x3 (fun (r9 : Int32) => wpX12_isLost x1 x2 r9 p (fun (r10 : Int32) (p11 : St) => ((r10 = 0) → wjX12_pen_111 Post self KX x1 x2 x3 x4 x5 x6 x7 x8 0 p11) ∧ ((¬ r10 = 0) → wpX12_fits x4 p11 (fun (r16 : Int32) => ((r16 = 0) → wjX12_pen_111 Post self KX x1 x2 x3 x4 x5 x6 x7 x8 0 p11) ∧ ((¬ r16 = 0) → wjX12_pen_111 Post self KX x1 x2 x3 x4 x5 x6 x7 x8 1 p11))))))
def wLX12_pen_67  (Post : Int32 → St → Prop) (KX : Int32 → Int32 → Int32 → St → Prop) : Nat → (Int32 × Int32 × Int32 × Int32 × Int32 × Int32 × Int32 × Int32 × St) → Prop := itN (fun self x => wlX12_pen_67  Post KX self x.1 x.2.1 x.2.2.1 x.2.2.2.1 x.2.2.2.2.1 x.2.2.2.2.2.1 x.2.2.2.2.2.2.1 x.2.2.2.2.2.2.2.1 x.2.2.2.2.2.2.2.2)
def wpX12_pen (x1 : Int32) (x2 : Int32) (x3 : Int32) (x4 : Int32) (x5 : Int32) (p : St)  (Post : Int32 → St → Prop) : Prop := wpX12_isSheet x1 p (fun (r1 : Int32) => ((r1 = 0) → wjX12_pen_52 Post p) ∧ ((¬ r1 = 0) → wpX12_areNotes x2 p (fun (r4 : Int32) => ((r4 = 0) → wjX12_pen_52 Post p) ∧ ((¬ r4 = 0) → wpX12_in (x3.toInt64) 0 5 (fun (r5 : Int32) => ((r5 = 0) → wjX12_pen_52 Post p) ∧ ((¬ r5 = 0) → wpX12_in (x4.toInt64) 1 4095 (fun (r6 : Int32) => ((r6 = 0) → wjX12_pen_52 Post p) ∧ ((¬ r6 = 0) → wpX12_in (x5.toInt64) 0 1 (fun (r7 : Int32) => ((¬ r7 = 0) → ∀ x7_8 : Int32, x7_8 = (-1) → ∃ n, wLX12_pen_67 Post (fun (y17 : Int32) (y18 : Int32) (y19 : Int32) (p20 : St) => ((¬ y17 = 0) → Post y19 p20) ∧ ((y17 = 0) → Post y18 p20)) n (x1, x2, x3, x4, x5, 0, x7_8, 53, p)) ∧ ((r7 = 0) → wjX12_pen_52 Post p))))))))))
def wpX12_exchange (x1 : Int32) (x2 : Int32) (p : St)  (Post : St → Prop) : Prop := vp_in x1 6 ∧ ∀ x3_1 : Int32, x3_1 = ((p.A 23) x1.toNatClampNeg) → vp_in x2 6 ∧ vp_in x1 6 ∧ ∀ p2 : St, p2 = p.sA 23 (upd (p.A 23) x1.toNatClampNeg ((p.A 23) x2.toNatClampNeg)) → vp_in x2 6 ∧ ∀ p3 : St, p3 = p2.sA 23 (upd (p2.A 23) x2.toNatClampNeg x3_1) → Post p3
def wlX12_nextRow_7  (Post : Int32 → St → Prop) (KX : Int32 → St → Prop) (self : (Int32 × St) → Prop) (x1 : Int32) (p : St) : Prop := ((x1 < 0) → KX x1 p) ∧ ((¬ x1 < 0) → vp_in x1 6 ∧ vp_in (x1 + 1) 6 ∧ ((((p.A 23) x1.toNatClampNeg) ≤ ((p.A 23) (x1 + 1).toNatClampNeg)) → KX x1 p) ∧ ((¬ ((p.A 23) x1.toNatClampNeg) ≤ ((p.A 23) (x1 + 1).toNatClampNeg)) → ∀ x1_2 : Int32, x1_2 = x1 + (-1) → self (x1_2, p)))
def wLX12_nextRow_7  (Post : Int32 → St → Prop) (KX : Int32 → St → Prop) : Nat → (Int32 × St) → Prop := itN (fun self x => wlX12_nextRow_7  Post KX self x.1 x.2)
def wlX12_nextRow_47  (Post : Int32 → St → Prop) (KX : Int32 → Int32 → St → Prop) (self : (Int32 × Int32 × St) → Prop) (x1 : Int32) (x2 : Int32) (p : St) : Prop := vp_in x2 6 ∧ vp_in x1 6 ∧ ((((p.A 23) x1.toNatClampNeg) ≤ ((p.A 23) x2.toNatClampNeg)) → KX x1 x2 p) ∧ ((¬ ((p.A 23) x1.toNatClampNeg) ≤ ((p.A 23) x2.toNatClampNeg)) → ∀ x2_6 : Int32, x2_6 = x2 + (-1) → self (x1, x2_6, p))
def wLX12_nextRow_47  (Post : Int32 → St → Prop) (KX : Int32 → Int32 → St → Prop) : Nat → (Int32 × Int32 × St) → Prop := itN (fun self x => wlX12_nextRow_47  Post KX self x.1 x.2.1 x.2.2)
def wlX12_nextRow_86  (Post : Int32 → St → Prop) (KX : St → Prop) (self : (Int32 × Int32 × St) → Prop) (x3 : Int32) (x4 : Int32) (p : St) : Prop := ((x3 ≤ x4) → KX p) ∧ ((¬ x3 ≤ x4) → wpX12_exchange x4 x3 p (fun (p13 : St) => ∀ x3_14 : Int32, x3_14 = x3 + (-1) → ∀ x4_15 : Int32, x4_15 = x4 + 1 → self (x3_14, x4_15, p13)))
def wLX12_nextRow_86  (Post : Int32 → St → Prop) (KX : St → Prop) : Nat → (Int32 × Int32 × St) → Prop := itN (fun self x => wlX12_nextRow_86  Post KX self x.1 x.2.1 x.2.2)
def wjX12_nextRow_34  (Post : Int32 → St → Prop) (x1 : Int32) (p : St) : Prop := ((0 ≤ x1) → ∀ x2_5 : Int32, x2_5 = ((p.I 0) - 1) → ∃ n, wLX12_nextRow_47 Post (fun (y7 : Int32) (y8 : Int32) (p9 : St) => wpX12_exchange y7 y8 p9 (fun (p10 : St) => ∀ x3_11 : Int32, x3_11 = ((p10.I 0) - 1) → ∀ x4_12 : Int32, x4_12 = (y7 + 1) → ∃ n, wLX12_nextRow_86 Post (fun (p16 : St) => Post 1 p16) n (x3_11, x4_12, p10))) n (x1, x2_5, p)) ∧ ((¬ 0 ≤ x1) → Post 0 p)
def wpX12_nextRow  (p : St)  (Post : Int32 → St → Prop) : Prop := ∀ x1_1 : Int32, x1_1 = ((p.I 0) - 2) → ∃ n, wLX12_nextRow_7 Post (fun (y3 : Int32) (p4 : St) => wjX12_nextRow_34 Post y3 p4) n (x1_1, p)
def wlX12_placeOf_2 (p : St) (Post : Int32 → Prop) (KX : Int32 → Prop) (self : (Int32 × Int32) → Prop) (x1 : Int32) (x2 : Int32) : Prop := vp_in x2 6 ∧ ((((p.A 23) x2.toNatClampNeg) = x1) → KX x2) ∧ ((¬ ((p.A 23) x2.toNatClampNeg) = x1) → ∀ x2_1 : Int32, x2_1 = x2 + 1 → self (x1, x2_1))
def wLX12_placeOf_2 (p : St) (Post : Int32 → Prop) (KX : Int32 → Prop) : Nat → (Int32 × Int32) → Prop := itN (fun self x => wlX12_placeOf_2 p Post KX self x.1 x.2)
def wpX12_placeOf (x1 : Int32) (p : St)  (Post : Int32 → Prop) : Prop := ∃ n, wLX12_placeOf_2 p Post (fun (y2 : Int32) => Post y2) n (x1, 0)
def wjX12_isRow_114 (p : St) (Post : Int32 → Prop) (self : (Int32 × Int32 × Int32 × Int32) → Prop) (KX : Int32 → Int32 → Int32 → Prop) (x1 : Int32) (x2 : Int32) (x3 : Int32) (x4 : Int32) (z0 : Int32) : Prop := ((z0 ≤ x3) → ∀ x4_6 : Int32, x4_6 = x4 + 1 → self (x1, x2, x3, x4_6)) ∧ ((¬ z0 ≤ x3) → ∀ x4_7 : Int32, x4_7 = x4 + 1 → self (x1, x2, z0, x4_7))
def wlX12_isRow_23 (p : St) (Post : Int32 → Prop) (KX : Int32 → Int32 → Int32 → Prop) (self : (Int32 × Int32 × Int32 × Int32) → Prop) (x1 : Int32) (x2 : Int32) (x3 : Int32) (x4 : Int32) : Prop := ((((p.A 4) 124) ≤ x4) → KX x1 x2 x3) ∧ ((¬ ((p.A 4) 124) ≤ x4) → ∀ x5_2 : Int32, x5_2 = ((84 : Int32) + ((4 : Int32) * x4)) → wpX12_placeOf x2 p (fun (r3 : Int32) => vp_in (x5_2 + 3) 126 ∧ wpX12_placeOf ((p.A 4) (x5_2 + 3).toNatClampNeg) p (fun (r4 : Int32) => ∀ x6_5 : Int32, x6_5 = (r3 - r4) → ((x6_5 < 0) → wjX12_isRow_114 p Post self KX x1 x2 x3 x4 0) ∧ ((¬ x6_5 < 0) → vp_in (x5_2 + 2) 126 ∧ wpX12_has ((p.A 4) (x5_2 + 2).toNatClampNeg) (x1 - x1 / 12 * 12) (fun (r8 : Int32) => ((r8 = 0) → wjX12_isRow_114 p Post self KX x1 x2 x3 x4 0) ∧ ((¬ r8 = 0) → vp_in x5_2 126 ∧ vp_in (x5_2 + 1) 126 ∧ wpX12_forceOf ((p.A 4) x5_2.toNatClampNeg) ((p.A 4) (x5_2 + 1).toNatClampNeg) x6_5 (fun (r9 : Int32) => wjX12_isRow_114 p Post self KX x1 x2 x3 x4 r9)))))))
def wLX12_isRow_23 (p : St) (Post : Int32 → Prop) (KX : Int32 → Int32 → Int32 → Prop) : Nat → (Int32 × Int32 × Int32 × Int32) → Prop := itN (fun self x => wlX12_isRow_23 p Post KX self x.1 x.2.1 x.2.2.1 x.2.2.2)
def wlX12_isRow_2 (p : St) (Post : Int32 → Prop) (KX : Prop) (self : (Int32) → Prop) (x1 : Int32) : Prop := ((((12 : Int32) * (p.I 0)) ≤ x1) → KX) ∧ ((¬ ((12 : Int32) * (p.I 0)) ≤ x1) → ∀ x2_1 : Int32, x2_1 = (x1 / 12) → ∃ n, wLX12_isRow_23 p Post (fun (y10 : Int32) (y11 : Int32) (y12 : Int32) => wpX12_dentOf y11 (y10 - y10 / 12 * 12) p (fun (r13 : Int32) => ((y12 = r13) → ∀ x1_14 : Int32, x1_14 = y10 + 1 → self x1_14) ∧ ((¬ y12 = r13) → Post 0))) n (x1, x2_1, 0, 0))
def wLX12_isRow_2 (p : St) (Post : Int32 → Prop) (KX : Prop) : Nat → (Int32) → Prop := itN (fun self x => wlX12_isRow_2 p Post KX self x)
def wpX12_isRow  (p : St)  (Post : Int32 → Prop) : Prop := ∃ n, wLX12_isRow_2 p Post (Post 1) n 0
def wlX12_orders_12  (Post : Int32 → St → Prop) (KX : Int32 → St → Prop) (self : (Int32 × Int32 × St) → Prop) (x1 : Int32) (x2 : Int32) (p : St) : Prop := (((p.I 0) ≤ x2) → KX x1 p) ∧ ((¬ (p.I 0) ≤ x2) → vp_in x2 6 ∧ ∀ p1 : St, p1 = p.sA 23 (upd (p.A 23) x2.toNatClampNeg x2) → ∀ x2_2 : Int32, x2_2 = x2 + 1 → self (x1, x2_2, p1))
def wLX12_orders_12  (Post : Int32 → St → Prop) (KX : Int32 → St → Prop) : Nat → (Int32 × Int32 × St) → Prop := itN (fun self x => wlX12_orders_12  Post KX self x.1 x.2.1 x.2.2)
def wjX12_orders_87  (Post : Int32 → St → Prop) (self : (Int32 × Int32 × Int32 × St) → Prop) (KX : Int32 → Int32 → St → Prop) (x1 : Int32) (x2 : Int32) (p : St) : Prop := wpX12_nextRow p (fun (r6 : Int32) (p7 : St) => self (x1, x2, r6, p7))
def wlX12_orders_51  (Post : Int32 → St → Prop) (KX : Int32 → Int32 → St → Prop) (self : (Int32 × Int32 × Int32 × St) → Prop) (x1 : Int32) (x2 : Int32) (x4 : Int32) (p : St) : Prop := (((p.I 0) ≤ x4) → KX x1 x2 p) ∧ ((¬ (p.I 0) ≤ x4) → ((¬ x2 = 0) → KX x1 x2 p) ∧ ((x2 = 0) → vp_in x4 6 ∧ vp_in x4 6 ∧ ∀ p8 : St, p8 = p.sA 24 (upd (p.A 24) x4.toNatClampNeg ((p.A 23) x4.toNatClampNeg)) → ∀ x4_9 : Int32, x4_9 = x4 + 1 → self (x1, x2, x4_9, p8)))
def wLX12_orders_51  (Post : Int32 → St → Prop) (KX : Int32 → Int32 → St → Prop) : Nat → (Int32 × Int32 × Int32 × St) → Prop := itN (fun self x => wlX12_orders_51  Post KX self x.1 x.2.1 x.2.2.1 x.2.2.2)
def wlX12_orders_37  (Post : Int32 → St → Prop) (KX : Int32 → Int32 → St → Prop) (self : (Int32 × Int32 × Int32 × St) → Prop) (x1 : Int32) (x2 : Int32) (x3 : Int32) (p : St) : Prop := ((x3 = 0) → KX x1 x2 p) ∧ ((¬ x3 = 0) → wpX12_isRow p (fun (r5 : Int32) => ((r5 = 0) → wjX12_orders_87 Post self KX x1 x2 p) ∧ ((¬ r5 = 0) → ∃ n, wLX12_orders_51 Post (fun (y10 : Int32) (y11 : Int32) (p12 : St) => ∀ x2_13 : Int32, x2_13 = y11 + 1 → wjX12_orders_87 Post self KX y10 x2_13 p12) n (x1, x2, 0, p))))
def wLX12_orders_37  (Post : Int32 → St → Prop) (KX : Int32 → Int32 → St → Prop) : Nat → (Int32 × Int32 × Int32 × St) → Prop := itN (fun self x => wlX12_orders_37  Post KX self x.1 x.2.1 x.2.2.1 x.2.2.2)
def wpX12_orders (x1 : Int32) (p : St)  (Post : Int32 → St → Prop) : Prop := (((-1) ≤ x1) → ∃ n, wLX12_orders_12 Post (fun (y3 : Int32) (p4 : St) => ∃ n, wLX12_orders_37 Post (fun (y14 : Int32) (y15 : Int32) (p16 : St) => ((¬ y14 = (-1)) → ((¬ y15 = 0) → ((y14 < (p16.I 0)) → vp_in y14 6 ∧ Post ((p16.A 24) y14.toNatClampNeg) p16) ∧ ((¬ y14 < (p16.I 0)) → Post (-5) p16)) ∧ ((y15 = 0) → Post (-1) p16)) ∧ ((y14 = (-1)) → Post y15 p16)) n (y3, 0, 1, p4)) n (x1, 0, p)) ∧ ((¬ (-1) ≤ x1) → wpX12_badLess p (fun (r17 : Int32) (p18 : St) => Post r17 p18))
def wjX12_press_24  (Post : Int32 → St → Prop) (p : St) : Prop := wpX12_bad p (fun (r2 : Int32) (p3 : St) => Post r2 p3)
def wlX12_press_31  (Post : Int32 → St → Prop) (KX : St → Prop) (self : (Int32 × Int32 × Int32 × St) → Prop) (x1 : Int32) (x2 : Int32) (x3 : Int32) (p : St) : Prop := ((9 < x3) → KX p) ∧ ((¬ 9 < x3) → wpX12_forceOf x1 x3 x2 (fun (r5 : Int32) => ((r5 < 2) → ∀ x3_6 : Int32, x3_6 = x3 + 1 → self (x1, x2, x3_6, p)) ∧ ((¬ r5 < 2) → Post x3 p)))
def wLX12_press_31  (Post : Int32 → St → Prop) (KX : St → Prop) : Nat → (Int32 × Int32 × Int32 × St) → Prop := itN (fun self x => wlX12_press_31  Post KX self x.1 x.2.1 x.2.2.1 x.2.2.2)
def wpX12_press (x1 : Int32) (x2 : Int32) (p : St)  (Post : Int32 → St → Prop) : Prop := wpX12_in (x1.toInt64) 0 5 (fun (r1 : Int32) => ((r1 = 0) → wjX12_press_24 Post p) ∧ ((¬ r1 = 0) → wpX12_in (x2.toInt64) 1 5 (fun (r4 : Int32) => ((¬ r4 = 0) → ∃ n, wLX12_press_31 Post (fun (p7 : St) => Post (-1) p7) n (x1, x2, 1, p)) ∧ ((r4 = 0) → wjX12_press_24 Post p))))
def wjX12_copies_56  (Post : Int32 → St → Prop) (p : St) : Prop := wpX12_badLess p (fun (r2 : Int32) (p3 : St) => Post r2 p3)
def wlX12_copies_67  (Post : Int32 → St → Prop) (KX : Int32 → Int32 → St → Prop) (self : (Int32 × Int32 × Int32 × Int32 × Int32 × Int32 × St) → Prop) (x1 : Int32) (x2 : Int32) (x3 : Int32) (x4 : Int32) (x6 : Int32) (x7 : Int32) (p : St) : Prop := (((p.I 0) ≤ x7) → KX x4 x6 p) ∧ ((¬ (p.I 0) ≤ x7) → wpX12_has x1 x7 (fun (r6 : Int32) => ((r6 = 0) → ∀ x7_7 : Int32, x7_7 = x7 + 1 → self (x1, x2, x3, x4, x6, x7_7, p)) ∧ ((¬ r6 = 0) → ∀ x8_8 : Int32, x8_8 = (x7 - ((p.A 4) 125)) → ((x8_8 = 0) → Post (-1) p) ∧ ((¬ x8_8 = 0) → wpX12_forceOf x2 x3 x8_8 (fun (r9 : Int32) => ((2 ≤ r9) → ∀ x6_10 : Int32, x6_10 = (x6 ||| (((1 : Int32) <<< ((x7 - 1) &&& 31)) &&& ((p.I 1) ^^^ (-1)))) → ∀ x7_11 : Int32, x7_11 = x7 + 1 → self (x1, x2, x3, x4, x6_10, x7_11, p)) ∧ ((¬ 2 ≤ r9) → Post (-1) p))))))
def wLX12_copies_67  (Post : Int32 → St → Prop) (KX : Int32 → Int32 → St → Prop) : Nat → (Int32 × Int32 × Int32 × Int32 × Int32 × Int32 × St) → Prop := itN (fun self x => wlX12_copies_67  Post KX self x.1 x.2.1 x.2.2.1 x.2.2.2.1 x.2.2.2.2.1 x.2.2.2.2.2.1 x.2.2.2.2.2.2)
def wpX12_copies (x1 : Int32) (x2 : Int32) (x3 : Int32) (x4 : Int32) (p : St)  (Post : Int32 → St → Prop) : Prop := ∀ x5_1 : Int32, x5_1 = ((((1 : Int32) <<< ((p.I 0) &&& 31)) - 1) &&& ((((1 : Int32) <<< (((p.A 4) 125) &&& 31)) - 1) ^^^ (-1))) → ((x1 < 0) → wjX12_copies_56 Post p) ∧ ((¬ x1 < 0) → ((¬ (x1 &&& (x5_1 ^^^ (-1))) = 0) → wjX12_copies_56 Post p) ∧ (((x1 &&& (x5_1 ^^^ (-1))) = 0) → wpX12_isPen x2 x3 (fun (r4 : Int32) => ((r4 = 0) → wjX12_copies_56 Post p) ∧ ((¬ r4 = 0) → wpX12_in (x4.toInt64) 0 1 (fun (r5 : Int32) => ((¬ r5 = 0) → ∃ n, wLX12_copies_67 Post (fun (y12 : Int32) (y13 : Int32) (p14 : St) => ((¬ y12 = 0) → Post y13 p14) ∧ ((y12 = 0) → wpX12_ones y13 (fun (r15 : Int32) => Post r15 p14))) n (x1, x2, x3, x4, 0, 0, p)) ∧ ((r5 = 0) → wjX12_copies_56 Post p))))))
def wlX12_common_6  (Post : Int64 → Prop) (KX : Int64 → Prop) (self : (Int64 × Int64) → Prop) (x4 : Int64) (x6 : Int64) : Prop := (((lg_cmp x6 0) = 0) → KX x4) ∧ ((¬ (lg_cmp x6 0) = 0) → ¬ x6 = 0 ∧ ∀ x8_1 : Int64, x8_1 = (x4 - x4 / x6 * x6) → self (x6, x8_1))
def wLX12_common_6  (Post : Int64 → Prop) (KX : Int64 → Prop) : Nat → (Int64 × Int64) → Prop := itN (fun self x => wlX12_common_6  Post KX self x.1 x.2)
def wpX12_common (x0 : Int64) (x2 : Int64)   (Post : Int64 → Prop) : Prop := ∃ n, wLX12_common_6 Post (fun (y2 : Int64) => Post y2) n (x0, x2)
def wjX12_rub_30  (Post : Int32 → St → Prop) (p : St) : Prop := wpX12_bad p (fun (r2 : Int32) (p3 : St) => Post r2 p3)
def wjX12_rub_103  (Post : Int32 → St → Prop) (self : (Int32 × Int32 × Int32 × Int32 × St) → Prop) (KX : St → Prop) (x1 : Int32) (x2 : Int32) (x3 : Int32) (x4 : Int32) (z0 : Int64) (z1 : Int64) (p : St) : Prop := ∀ p11 : St, p11 = p.sL 7 (z1 * z0) → ∀ p12 : St, p12 = p11.sL 8 ((p11.L 8) * 10) → ∀ x4_13 : Int32, x4_13 = x4 + 1 → self (x1, x2, x3, x4_13, p12)
def wjX12_rub_77  (Post : Int32 → St → Prop) (self : (Int32 × Int32 × Int32 × Int32 × St) → Prop) (KX : St → Prop) (x1 : Int32) (x2 : Int32) (x3 : Int32) (x4 : Int32) (x5 : Int32) (p : St) : Prop := wpX12_has x2 x4 (fun (r10 : Int32) => ((r10 = 0) → wjX12_rub_103 Post self KX x1 x2 x3 x4 ((((10 : Int32) - x5)).toInt64) (p.L 7) p) ∧ ((¬ r10 = 0) → wjX12_rub_103 Post self KX x1 x2 x3 x4 (x5.toInt64) (p.L 7) p))
def wlX12_rub_48  (Post : Int32 → St → Prop) (KX : St → Prop) (self : (Int32 × Int32 × Int32 × Int32 × St) → Prop) (x1 : Int32) (x2 : Int32) (x3 : Int32) (x4 : Int32) (p : St) : Prop := ((12 ≤ x4) → KX p) ∧ ((¬ 12 ≤ x4) → wpX12_dentOf x1 x4 p (fun (r8 : Int32) => wpX12_has x2 x4 (fun (r9 : Int32) => ((¬ r9 = 0) → wjX12_rub_77 Post self KX x1 x2 x3 x4 r8 p) ∧ ((r9 = 0) → ((¬ x3 = 0) → ∀ x4_14 : Int32, x4_14 = x4 + 1 → self (x1, x2, x3, x4_14, p)) ∧ ((x3 = 0) → wjX12_rub_77 Post self KX x1 x2 x3 x4 r8 p)))))
def wLX12_rub_48  (Post : Int32 → St → Prop) (KX : St → Prop) : Nat → (Int32 × Int32 × Int32 × Int32 × St) → Prop := itN (fun self x => wlX12_rub_48  Post KX self x.1 x.2.1 x.2.2.1 x.2.2.2.1 x.2.2.2.2)
def wpX12_rub (x1 : Int32) (x2 : Int32) (x3 : Int32) (p : St)  (Post : Int32 → St → Prop) : Prop := wpX12_isSheet x1 p (fun (r1 : Int32) => ((r1 = 0) → wjX12_rub_30 Post p) ∧ ((¬ r1 = 0) → wpX12_in (x2.toInt64) 0 4095 (fun (r4 : Int32) => ((r4 = 0) → wjX12_rub_30 Post p) ∧ ((¬ r4 = 0) → wpX12_in (x3.toInt64) 0 1 (fun (r5 : Int32) => ((¬ r5 = 0) → ∀ p6 : St, p6 = p.sL 7 1 → ∀ p7 : St, p7 = p6.sL 8 1 → ∃ n, wLX12_rub_48 Post (fun (p15 : St) => wpX12_common (p15.L 7) (p15.L 8) (fun (r16 : Int64) => ¬ r16 = 0 ∧ ∀ p17 : St, p17 = p15.sL 7 ((p15.L 7) / r16) → ¬ r16 = 0 ∧ ∀ p18 : St, p18 = p17.sL 8 ((p17.L 8) / r16) → Post 1 p18)) n (x1, x2, x3, 0, p7)) ∧ ((r5 = 0) → wjX12_rub_30 Post p))))))
def wlX12_torn_21  (Post : Int32 → St → Prop) (KX : St → Prop) (self : (Int32 × Int32 × St) → Prop) (x1 : Int32) (x2 : Int32) (p : St) : Prop := (((p.I 0) ≤ x2) → KX p) ∧ ((¬ (p.I 0) ≤ x2) → wpX12_whoseOf x2 p (fun (r3 : Int32) => ((¬ (r3 &&& x1) = 0) → ∀ x2_4 : Int32, x2_4 = x2 + 1 → self (x1, x2_4, p)) ∧ (((r3 &&& x1) = 0) → Post (x2 - ((p.A 4) 125)) p)))
def wLX12_torn_21  (Post : Int32 → St → Prop) (KX : St → Prop) : Nat → (Int32 × Int32 × St) → Prop := itN (fun self x => wlX12_torn_21  Post KX self x.1 x.2.1 x.2.2)
def wpX12_torn (x1 : Int32) (p : St)  (Post : Int32 → St → Prop) : Prop := wpX12_areNotes x1 p (fun (r1 : Int32) => ((¬ r1 = 0) → ∀ x2_2 : Int32, x2_2 = ((p.A 4) 125) → ∃ n, wLX12_torn_21 Post (fun (p5 : St) => Post (-1) p5) n (x1, x2_2, p)) ∧ ((r1 = 0) → wpX12_bad p (fun (r6 : Int32) (p7 : St) => Post r6 p7)))
def wpX12_draw (x1 : Int32) (p : St)  (Post : Int32 → St → Prop) : Prop := ∀ p1 : St, p1 = p.sL 26 ((((p.L 26) * 1103515245) + 12345) - (((p.L 26) * 1103515245) + 12345) / 2147483648 * 2147483648) → ¬ (x1.toInt64) = 0 ∧ Post ((((p1.L 26) / 65536) - ((p1.L 26) / 65536) / (x1.toInt64) * (x1.toInt64)).toInt32) p1
def wjX12_drawn_24  (Post : Int32 → St → Prop) (p : St) : Prop := wpX12_bad p (fun (r2 : Int32) (p3 : St) => Post r2 p3)
def wlX12_drawn_47  (Post : Int32 → St → Prop) (KX : Int32 → Int32 → St → Prop) (self : (Int32 × Int32 × Int32 × St) → Prop) (x1 : Int32) (x2 : Int32) (x3 : Int32) (p : St) : Prop := ((126 ≤ x3) → KX x1 x2 p) ∧ ((¬ 126 ≤ x3) → vp_in x3 126 ∧ vp_in x3 126 ∧ ∀ p5 : St, p5 = p.sA 25 (upd (p.A 25) x3.toNatClampNeg ((p.A 4) x3.toNatClampNeg)) → ∀ x3_6 : Int32, x3_6 = x3 + 1 → self (x1, x2, x3_6, p5))
def wLX12_drawn_47  (Post : Int32 → St → Prop) (KX : Int32 → Int32 → St → Prop) : Nat → (Int32 × Int32 × Int32 × St) → Prop := itN (fun self x => wlX12_drawn_47  Post KX self x.1 x.2.1 x.2.2.1 x.2.2.2)
def wjX12_drawn_153  (Post : Int32 → St → Prop) (self : (Int32 × Int32 × St) → Prop) (KX : St → Prop) (x2 : Int32) (x3 : Int32) (z0 : Int32) (z1 : Int32) (z2 : Int32) (p : St) : Prop := vp_in z2 126 ∧ ∀ p19 : St, p19 = p.sA 4 (upd (p.A 4) z2.toNatClampNeg (z1 + z0)) → ∀ x3_20 : Int32, x3_20 = x3 + 1 → self (x2, x3_20, p19)
def wlX12_drawn_79  (Post : Int32 → St → Prop) (KX : St → Prop) (self : (Int32 × Int32 × St) → Prop) (x2 : Int32) (x3 : Int32) (p : St) : Prop := ((x2 ≤ x3) → KX p) ∧ ((¬ x2 ≤ x3) → wpX12_draw 6 p (fun (r11 : Int32) (p12 : St) => wpX12_draw 9 p12 (fun (r13 : Int32) (p14 : St) => ∀ x5_15 : Int32, x5_15 = (r13 + 1) → wpX12_draw 4096 p14 (fun (r16 : Int32) (p17 : St) => wpX12_dentAll r11 x5_15 r16 p17 (fun (p18 : St) => ((¬ (x3 - x3 / 3 * 3) = 2) → wjX12_drawn_153 Post self KX x2 x3 0 ((p18.A 4) 125) 125 p18) ∧ (((x3 - x3 / 3 * 3) = 2) → (((p18.I 0) ≤ (((p18.A 4) 125) + 1)) → wjX12_drawn_153 Post self KX x2 x3 0 ((p18.A 4) 125) 125 p18) ∧ ((¬ (p18.I 0) ≤ (((p18.A 4) 125) + 1)) → wjX12_drawn_153 Post self KX x2 x3 1 ((p18.A 4) 125) 125 p18)))))))
def wLX12_drawn_79  (Post : Int32 → St → Prop) (KX : St → Prop) : Nat → (Int32 × Int32 × St) → Prop := itN (fun self x => wlX12_drawn_79  Post KX self x.1 x.2.1 x.2.2)
def wlX12_drawn_166  (Post : Int32 → St → Prop) (KX : Int32 → St → Prop) (self : (Int32 × Int32 × St) → Prop) (x3 : Int32) (x4 : Int32) (p : St) : Prop := ((12 ≤ x4) → KX x3 p) ∧ ((¬ 12 ≤ x4) → wpX12_dentOf ((p.I 0) - 1) x4 p (fun (r22 : Int32) => ∀ x3_23 : Int32, x3_23 = (x3 + r22) → ∀ x4_24 : Int32, x4_24 = x4 + 1 → self (x3_23, x4_24, p)))
def wLX12_drawn_166  (Post : Int32 → St → Prop) (KX : Int32 → St → Prop) : Nat → (Int32 × Int32 × St) → Prop := itN (fun self x => wlX12_drawn_166  Post KX self x.1 x.2.1 x.2.2)
def wlX12_drawn_197  (Post : Int32 → St → Prop) (KX : Int32 → St → Prop) (self : (Int32 × Int32 × St) → Prop) (x3 : Int32) (x4 : Int32) (p : St) : Prop := ((126 ≤ x4) → KX x3 p) ∧ ((¬ 126 ≤ x4) → vp_in x4 126 ∧ vp_in x4 126 ∧ ∀ p27 : St, p27 = p.sA 4 (upd (p.A 4) x4.toNatClampNeg ((p.A 25) x4.toNatClampNeg)) → ∀ x4_28 : Int32, x4_28 = x4 + 1 → self (x3, x4_28, p27))
def wLX12_drawn_197  (Post : Int32 → St → Prop) (KX : Int32 → St → Prop) : Nat → (Int32 × Int32 × St) → Prop := itN (fun self x => wlX12_drawn_197  Post KX self x.1 x.2.1 x.2.2)
def wpX12_drawn (x1 : Int32) (x2 : Int32) (p : St)  (Post : Int32 → St → Prop) : Prop := wpX12_in (x1.toInt64) 0 999999 (fun (r1 : Int32) => ((r1 = 0) → wjX12_drawn_24 Post p) ∧ ((¬ r1 = 0) → wpX12_in (x2.toInt64) 0 20 (fun (r4 : Int32) => ((¬ r4 = 0) → ((¬ ((p.A 4) 125) = (p.I 0)) → ∃ n, wLX12_drawn_47 Post (fun (y7 : Int32) (y8 : Int32) (p9 : St) => ∀ p10 : St, p10 = p9.sL 26 (y7.toInt64) → ∃ n, wLX12_drawn_79 Post (fun (p21 : St) => ∃ n, wLX12_drawn_166 Post (fun (y25 : Int32) (p26 : St) => ∃ n, wLX12_drawn_197 Post (fun (y29 : Int32) (p30 : St) => Post y29 p30) n (y25, 0, p26)) n (0, 0, p21)) n (y8, 0, p10)) n (x1, x2, 0, p)) ∧ ((((p.A 4) 125) = (p.I 0)) → Post (-1) p)) ∧ ((r4 = 0) → wjX12_drawn_24 Post p))))
def wpX12_part (x1 : Int32) (p : St)  (Post : Int64 → St → Prop) : Prop := ((¬ x1 = 0) → ((¬ x1 = 1) → wpX12_bad p (fun (r1 : Int32) (p2 : St) => Post (r1.toInt64) p2)) ∧ ((x1 = 1) → Post (p.L 8) p)) ∧ ((x1 = 0) → Post (p.L 7) p)
def wlX12_carry_3 (q : (Nat → Int32)) (n0 : Nat) (n1 : Nat) (Post : (Nat → Int32) → Prop) (KX : (Nat → Int32) → Prop) (self : (Int32 × Int32 × Int32 × Int32 × (Nat → Int32)) → Prop) (x2 : Int32) (x4 : Int32) (x5 : Int32) (x6 : Int32) (p : (Nat → Int32)) : Prop := ((x5 ≤ x6) → KX p) ∧ ((¬ x5 ≤ x6) → vp_in (x4 + x6) n1 ∧ vp_in (x2 + x6) n0 ∧ ∀ p1 : (Nat → Int32), p1 = (upd p (x2 + x6).toNatClampNeg (q (x4 + x6).toNatClampNeg)) → ∀ x6_2 : Int32, x6_2 = x6 + 1 → self (x2, x4, x5, x6_2, p1))
def wLX12_carry_3 (q : (Nat → Int32)) (n0 : Nat) (n1 : Nat) (Post : (Nat → Int32) → Prop) (KX : (Nat → Int32) → Prop) : Nat → (Int32 × Int32 × Int32 × Int32 × (Nat → Int32)) → Prop := itN (fun self x => wlX12_carry_3 q n0 n1 Post KX self x.1 x.2.1 x.2.2.1 x.2.2.2.1 x.2.2.2.2)
def wpX12_carry (x2 : Int32) (x4 : Int32) (x5 : Int32) (p : (Nat → Int32)) (q : (Nat → Int32)) (n0 : Nat) (n1 : Nat) (Post : (Nat → Int32) → Prop) : Prop := ∃ n, wLX12_carry_3 q n0 n1 Post (fun (p3 : (Nat → Int32)) => Post p3) n (x2, x4, x5, 0, p)
def wpX12_image (x1 : Int32) (p : St)  (Post : Int32 → St → Prop) : Prop := wpX12_in (x1.toInt64) 0 1 (fun (r1 : Int32) => ((¬ r1 = 0) → ∀ x2_2 : Int32, x2_2 = ((1154 : Int32) * x1) → wpX12_carry x2_2 0 126 (p.A 28) (p.A 4) 2308 126 (fun (p3 : (Nat → Int32)) => wpX12_carry (x2_2 + 126) 0 1008 ((p.sA 28 p3).A 28) ((p.sA 28 p3).A 5) 2308 1008 (fun (p4 : (Nat → Int32)) => wpX12_carry (x2_2 + 1134) 0 8 (((p.sA 28 p3).sA 28 p4).A 28) (((p.sA 28 p3).sA 28 p4).A 2) 2308 8 (fun (p5 : (Nat → Int32)) => vp_in (x2_2 + 1142) 2308 ∧ ∀ p6 : St, p6 = (((p.sA 28 p3).sA 28 p4).sA 28 p5).sA 28 (upd ((((p.sA 28 p3).sA 28 p4).sA 28 p5).A 28) (x2_2 + 1142).toNatClampNeg ((((p.sA 28 p3).sA 28 p4).sA 28 p5).I 0)) → vp_in (x2_2 + 1143) 2308 ∧ ∀ p7 : St, p7 = p6.sA 28 (upd (p6.A 28) (x2_2 + 1143).toNatClampNeg (p6.I 1)) → vp_in (x2_2 + 1144) 2308 ∧ ∀ p8 : St, p8 = p7.sA 28 (upd (p7.A 28) (x2_2 + 1144).toNatClampNeg (p7.I 3)) → vp_in (x2_2 + 1145) 2308 ∧ ∀ p9 : St, p9 = p8.sA 28 (upd (p8.A 28) (x2_2 + 1145).toNatClampNeg (p8.I 6)) → vp_in x1 2 ∧ ∀ p10 : St, p10 = p9.sA 27 (upd (p9.A 27) x1.toNatClampNeg (vp_nar .boolean 1)) → Post 1 p10)))) ∧ ((r1 = 0) → wpX12_bad p (fun (r11 : Int32) (p12 : St) => Post r11 p12)))
def wpX12_from (x1 : Int32) (p : St)  (Post : Int32 → St → Prop) : Prop := wpX12_in (x1.toInt64) 0 1 (fun (r1 : Int32) => ((¬ r1 = 0) → vp_in x1 2 ∧ ((¬ ((p.A 27) x1.toNatClampNeg) = 0) → ∀ x2_2 : Int32, x2_2 = ((1154 : Int32) * x1) → wpX12_carry 0 x2_2 126 (p.A 4) (p.A 28) 126 2308 (fun (p3 : (Nat → Int32)) => wpX12_carry 0 (x2_2 + 126) 1008 ((p.sA 4 p3).A 5) ((p.sA 4 p3).A 28) 1008 2308 (fun (p4 : (Nat → Int32)) => wpX12_carry 0 (x2_2 + 1134) 8 (((p.sA 4 p3).sA 5 p4).A 2) (((p.sA 4 p3).sA 5 p4).A 28) 8 2308 (fun (p5 : (Nat → Int32)) => vp_in (x2_2 + 1142) 2308 ∧ ∀ p6 : St, p6 = (((p.sA 4 p3).sA 5 p4).sA 2 p5).sI 0 (((((p.sA 4 p3).sA 5 p4).sA 2 p5).A 28) (x2_2 + 1142).toNatClampNeg) → vp_in (x2_2 + 1143) 2308 ∧ ∀ p7 : St, p7 = p6.sI 1 ((p6.A 28) (x2_2 + 1143).toNatClampNeg) → vp_in (x2_2 + 1144) 2308 ∧ ∀ p8 : St, p8 = p7.sI 3 ((p7.A 28) (x2_2 + 1144).toNatClampNeg) → vp_in (x2_2 + 1145) 2308 ∧ ∀ p9 : St, p9 = p8.sI 6 ((p8.A 28) (x2_2 + 1145).toNatClampNeg) → Post 1 p9)))) ∧ ((((p.A 27) x1.toNatClampNeg) = 0) → wpX12_refuse 1 (-3) p (fun (r10 : Int32) (p11 : St) => Post r10 p11))) ∧ ((r1 = 0) → wpX12_bad p (fun (r12 : Int32) (p13 : St) => Post r12 p13)))
def wpX12_status (x1 : Int32) (p : St)  (Post : Int32 → St → Prop) : Prop := wpX12_in (x1.toInt64) 0 2 (fun (r1 : Int32) => ((r1 = 0) → wpX12_refuse 0 (-1) p (fun (r2 : Int32) (p3 : St) => Post r2 p3)) ∧ ((¬ r1 = 0) → vp_in x1 3 ∧ Post ((p.A 9) x1.toNatClampNeg) p))
def wpX12_countOf (x1 : Int32) (p : St)  (Post : Int32 → Prop) : Prop := ((¬ x1 = 0) → ((¬ x1 = 1) → ((¬ x1 = 2) → ((¬ x1 = 3) → ((¬ x1 = 4) → ((¬ x1 = 5) → Post (p.I 11)) ∧ ((x1 = 5) → Post (p.I 6))) ∧ ((x1 = 4) → Post (p.I 1))) ∧ ((x1 = 3) → Post (p.I 3))) ∧ ((x1 = 2) → Post ((p.A 4) 124))) ∧ ((x1 = 1) → Post ((p.A 4) 125))) ∧ ((x1 = 0) → Post (p.I 0))
def wpX12_count (x1 : Int32) (p : St)  (Post : Int32 → St → Prop) : Prop := wpX12_in (x1.toInt64) 0 6 (fun (r1 : Int32) => ((r1 = 0) → wpX12_bad p (fun (r2 : Int32) (p3 : St) => Post r2 p3)) ∧ ((¬ r1 = 0) → wpX12_countOf x1 p (fun (r4 : Int32) => Post r4 p)))
def wpX12_mix (x1 : Int64) (p : St)  (Post : St → Prop) : Prop := ∀ p1 : St, p1 = p.sL 29 ((31 * (p.L 29)) + x1) → Post p1
def wlX12_digest_9  (Post : Int64 → St → Prop) (KX : St → Prop) (self : (Int32 × St) → Prop) (x1 : Int32) (p : St) : Prop := ((7 ≤ x1) → KX p) ∧ ((¬ 7 ≤ x1) → wpX12_countOf x1 p (fun (r2 : Int32) => wpX12_mix (r2.toInt64) p (fun (p3 : St) => ∀ x1_4 : Int32, x1_4 = x1 + 1 → self (x1_4, p3))))
def wLX12_digest_9  (Post : Int64 → St → Prop) (KX : St → Prop) : Nat → (Int32 × St) → Prop := itN (fun self x => wlX12_digest_9  Post KX self x.1 x.2)
def wlX12_digest_70  (Post : Int64 → St → Prop) (KX : Int32 → St → Prop) (self : (Int32 × Int32 × St) → Prop) (x1 : Int32) (x2 : Int32) (p : St) : Prop := ((12 ≤ x2) → KX x1 p) ∧ ((¬ 12 ≤ x2) → wpX12_dentOf x1 x2 p (fun (r8 : Int32) => wpX12_mix (r8.toInt64) p (fun (p9 : St) => ∀ x2_10 : Int32, x2_10 = x2 + 1 → self (x1, x2_10, p9))))
def wLX12_digest_70  (Post : Int64 → St → Prop) (KX : Int32 → St → Prop) : Nat → (Int32 × Int32 × St) → Prop := itN (fun self x => wlX12_digest_70  Post KX self x.1 x.2.1 x.2.2)
def wlX12_digest_33  (Post : Int64 → St → Prop) (KX : St → Prop) (self : (Int32 × St) → Prop) (x1 : Int32) (p : St) : Prop := (((p.I 0) ≤ x1) → KX p) ∧ ((¬ (p.I 0) ≤ x1) → vp_in ((0 : Int32) + x1) 126 ∧ wpX12_mix ((((p.A 4) ((0 : Int32) + x1).toNatClampNeg)).toInt64) p (fun (p6 : St) => vp_in ((6 : Int32) + x1) 126 ∧ wpX12_mix ((((p6.A 4) ((6 : Int32) + x1).toNatClampNeg)).toInt64) p6 (fun (p7 : St) => ∃ n, wLX12_digest_70 Post (fun (y11 : Int32) (p12 : St) => ∀ x1_13 : Int32, x1_13 = y11 + 1 → self (x1_13, p12)) n (x1, 0, p7))))
def wLX12_digest_33  (Post : Int64 → St → Prop) (KX : St → Prop) : Nat → (Int32 × St) → Prop := itN (fun self x => wlX12_digest_33  Post KX self x.1 x.2)
def wlX12_digest_101  (Post : Int64 → St → Prop) (KX : St → Prop) (self : (Int32 × St) → Prop) (x1 : Int32) (p : St) : Prop := ((((4 : Int32) * ((p.A 4) 124)) ≤ x1) → KX p) ∧ ((¬ ((4 : Int32) * ((p.A 4) 124)) ≤ x1) → vp_in ((84 : Int32) + x1) 126 ∧ wpX12_mix ((((p.A 4) ((84 : Int32) + x1).toNatClampNeg)).toInt64) p (fun (p15 : St) => ∀ x1_16 : Int32, x1_16 = x1 + 1 → self (x1_16, p15)))
def wLX12_digest_101  (Post : Int64 → St → Prop) (KX : St → Prop) : Nat → (Int32 × St) → Prop := itN (fun self x => wlX12_digest_101  Post KX self x.1 x.2)
def wlX12_digest_136  (Post : Int64 → St → Prop) (KX : St → Prop) (self : (Int32 × St) → Prop) (x1 : Int32) (p : St) : Prop := (((p.I 3) ≤ x1) → KX p) ∧ ((¬ (p.I 3) ≤ x1) → vp_in x1 8 ∧ wpX12_mix ((((p.A 2) x1.toNatClampNeg)).toInt64) p (fun (p18 : St) => ∀ x1_19 : Int32, x1_19 = x1 + 1 → self (x1_19, p18)))
def wLX12_digest_136  (Post : Int64 → St → Prop) (KX : St → Prop) : Nat → (Int32 × St) → Prop := itN (fun self x => wlX12_digest_136  Post KX self x.1 x.2)
def wpX12_digest  (p : St)  (Post : Int64 → St → Prop) : Prop := ∀ p1 : St, p1 = p.sL 29 919 → ∃ n, wLX12_digest_9 Post (fun (p5 : St) => ∃ n, wLX12_digest_33 Post (fun (p14 : St) => ∃ n, wLX12_digest_101 Post (fun (p17 : St) => ∃ n, wLX12_digest_136 Post (fun (p20 : St) => wpX12_mix (p20.L 7) p20 (fun (p21 : St) => wpX12_mix (p21.L 8) p21 (fun (p22 : St) => Post (p22.L 29) p22))) n (0, p17)) n (0, p14)) n (0, p5)) n (0, p1)
end
section
/-! plain facts on numbers and arrays, to paste: each family by itself; over the kit's rows on nI and upd -/
/-! ===== order of ints, in all its forms, and through longs ===== -/
theorem fa_lt (a b : Int32) : a < b ↔ a.toInt < b.toInt := Int32.lt_iff_toInt_lt
theorem fa_le (a b : Int32) : a ≤ b ↔ a.toInt ≤ b.toInt := Int32.le_iff_toInt_le
theorem fa_eq (a b : Int32) : a = b ↔ a.toInt = b.toInt := Int32.toInt_inj.symm
theorem fa_lt64 (a b : Int64) : a < b ↔ a.toInt < b.toInt := Int64.lt_iff_toInt_lt
theorem fa_le64 (a b : Int64) : a ≤ b ↔ a.toInt ≤ b.toInt := Int64.le_iff_toInt_le
theorem fa_eq64 (a b : Int64) : a = b ↔ a.toInt = b.toInt := Int64.toInt_inj.symm
/-- a comparison of two ints taken as longs -/
theorem fa_wide_lt (a b : Int32) : a.toInt64 < b.toInt64 ↔ a < b := by rw [fa_lt64, fa_lt, Int32.toInt_toInt64, Int32.toInt_toInt64]
theorem fa_wide_le (a b : Int32) : a.toInt64 ≤ b.toInt64 ↔ a ≤ b := by rw [fa_le64, fa_le, Int32.toInt_toInt64, Int32.toInt_toInt64]
theorem fa_wide_eq (a b : Int32) : a.toInt64 = b.toInt64 ↔ a = b := by rw [fa_eq64, fa_eq, Int32.toInt_toInt64, Int32.toInt_toInt64]
/-- one strict comparison gives all the others -/
theorem fa_of_lt {a b : Int32} (h : a < b) : a ≤ b ∧ ¬ b ≤ a ∧ ¬ b < a ∧ a ≠ b ∧ b ≠ a := by
  rw [fa_lt] at h
  refine ⟨?_, ?_, ?_, ?_, ?_⟩
  · rw [fa_le]; omega
  · rw [fa_le]; omega
  · rw [fa_lt]; omega
  · intro e; rw [fa_eq] at e; omega
  · intro e; rw [fa_eq] at e; omega
theorem fa_of_nlt {a b : Int32} (h : ¬ a < b) : b ≤ a := by
  rw [fa_lt] at h
  rw [fa_le]
  omega
theorem fa_of_nle {a b : Int32} (h : ¬ a ≤ b) : b < a := by
  rw [fa_le] at h
  rw [fa_lt]
  omega
theorem fa_le_ne {a b : Int32} (h : a ≤ b) (h2 : a ≠ b) : a < b := by
  rw [fa_le] at h
  rw [fa_lt]
  have h3 : a.toInt ≠ b.toInt := fun e => h2 ((fa_eq a b).mpr e)
  omega
theorem fa_three (a b : Int32) : a < b ∨ a = b ∨ b < a := by
  rw [fa_lt, fa_lt, fa_eq]
  omega
theorem fa_trans {a b c : Int32} (h : a < b) (h2 : b ≤ c) : a < c := by
  rw [fa_lt] at *
  rw [fa_le] at h2
  omega
/-! ===== small literals as numbers ===== -/
theorem fa_lit (n : Nat) : (OfNat.ofNat n : Int32) = nI n := rfl
theorem fa_litL (n : Nat) : (OfNat.ofNat n : Int64) = lN n := rfl
/-! ===== bits of a number: 'or', masks, one bit ===== -/
theorem fa_and (a b : Nat) : nI a &&& nI b = nI (a &&& b) := by
  apply Int32.toBitVec_inj.1
  show BitVec.ofNat 32 a &&& BitVec.ofNat 32 b = BitVec.ofNat 32 (a &&& b)
  apply BitVec.eq_of_getLsbD_eq
  intro i hi
  simp [hi]
theorem fa_or (a b : Nat) : nI a ||| nI b = nI (a ||| b) := by
  apply Int32.toBitVec_inj.1
  show BitVec.ofNat 32 a ||| BitVec.ofNat 32 b = BitVec.ofNat 32 (a ||| b)
  apply BitVec.eq_of_getLsbD_eq
  intro i hi
  simp [hi]
/-- a remainder by a power of two, as a mask -/
theorem fa_mask (n k : Nat) : nI n &&& nI (2 ^ k - 1) = nI (n % 2 ^ k) := by rw [fa_and, Nat.and_two_pow_sub_one_eq_mod]
/-- 'or' of a high part and a low one that don't meet is their sum -/
theorem fa_or_sum {a k : Nat} (b : Nat) (h : a < 2 ^ k) : nI (2 ^ k * b) ||| nI a = nI (2 ^ k * b + a) := by rw [fa_or, Nat.two_pow_add_eq_or_of_lt h]
/-- one bit, by 'and' with a power of two -/
theorem fa_bit {n j : Nat} (hj : j < 31) : nI n &&& nI (2 ^ j) = 0 ↔ n.testBit j = false := by
  have h2 : (2 : Nat) ^ j < 2 ^ 31 := Nat.pow_lt_pow_right (by decide) hj
  have hle : n &&& 2 ^ j ≤ 2 ^ j := Nat.and_le_right
  have e : n &&& 2 ^ j = 0 ↔ n.testBit j = false := by
    constructor
    · intro h
      have h1 : (n &&& 2 ^ j).testBit j = false := by rw [h]; simp
      rw [Nat.testBit_and] at h1
      first | simpa using h1 | simpa [Nat.testBit_two_pow_self] using h1 | simpa [Nat.testBit_two_pow] using h1
    · intro h
      apply Nat.eq_of_testBit_eq
      intro i
      rw [Nat.testBit_and]
      by_cases hi : j = i
      · subst hi; simp [h]
      · first | (simp [Nat.testBit_two_pow, hi]; done) | (simp [Nat.testBit_two_pow_of_ne hi]; done)
  rw [fa_and]
  constructor
  · intro h
    apply e.mp
    rcases Nat.eq_zero_or_pos (n &&& 2 ^ j) with z | z
    · exact z
    · exact absurd h (nI_ne0 z (Nat.lt_of_le_of_lt hle h2))
  · intro h
    rw [e.mpr h]; exact nI_0
/-- a remainder by a power of two of a number that isn't negative, as Java divides -/
theorem fa_rem {a k : Nat} (ha : a < 2 ^ 31) (hk : k < 31) : nI a - nI a / nI (2 ^ k) * nI (2 ^ k) = nI (a % 2 ^ k) := pk_rem ha (Nat.two_pow_pos k) (Nat.pow_lt_pow_right (by decide) hk)
/-! ===== cuts to a byte, a short ===== -/
theorem fa_byte_xor (x y : Int32) : (x ^^^ y).toInt8 = x.toInt8 ^^^ y.toInt8 := by
  apply Int8.toBitVec_inj.1
  apply BitVec.eq_of_getLsbD_eq
  intro i hi
  first | (simp [hi]; done) | (simp [hi, BitVec.getLsbD_setWidth, BitVec.getLsbD_signExtend]; done)
theorem fa_short_xor (x y : Int32) : (x ^^^ y).toInt16 = x.toInt16 ^^^ y.toInt16 := by
  apply Int16.toBitVec_inj.1
  apply BitVec.eq_of_getLsbD_eq
  intro i hi
  first | (simp [hi]; done) | (simp [hi, BitVec.getLsbD_setWidth, BitVec.getLsbD_signExtend]; done)
/-- the cut to a byte sees the low byte alone -/
theorem fa_byte_low (x : Int32) : (x &&& 255).toInt8 = x.toInt8 := by
  apply Int8.toBitVec_inj.1
  apply BitVec.eq_of_getLsbD_eq
  intro i hi
  have h2 : (255 : Int32).toBitVec.getLsbD i = true := by
    have : ∀ j : Fin 8, (255 : Int32).toBitVec.getLsbD j.val = true := by decide +kernel
    exact this ⟨i, hi⟩
  have h4 : (x &&& 255).toBitVec.getLsbD i = x.toBitVec.getLsbD i := by
    show (x.toBitVec &&& (255 : Int32).toBitVec).getLsbD i = _
    rw [BitVec.getLsbD_and, h2, Bool.and_true]
  have h3 : i < 32 := by omega
  first
    | (show (((x &&& 255).toBitVec).signExtend 8).getLsbD i = (x.toBitVec.signExtend 8).getLsbD i; rw [BitVec.getLsbD_signExtend, BitVec.getLsbD_signExtend, if_pos h3, if_pos h3, h4])
    | (show (((x &&& 255).toBitVec).setWidth 8).getLsbD i = (x.toBitVec.setWidth 8).getLsbD i; rw [BitVec.getLsbD_setWidth, BitVec.getLsbD_setWidth, h4])
    | (simp [hi, h3, h4]; done)
theorem fa_short_low (x : Int32) : (x &&& 65535).toInt16 = x.toInt16 := by
  apply Int16.toBitVec_inj.1
  apply BitVec.eq_of_getLsbD_eq
  intro i hi
  have h2 : (65535 : Int32).toBitVec.getLsbD i = true := by
    have : ∀ j : Fin 16, (65535 : Int32).toBitVec.getLsbD j.val = true := by decide +kernel
    exact this ⟨i, hi⟩
  have h4 : (x &&& 65535).toBitVec.getLsbD i = x.toBitVec.getLsbD i := by
    show (x.toBitVec &&& (65535 : Int32).toBitVec).getLsbD i = _
    rw [BitVec.getLsbD_and, h2, Bool.and_true]
  have h3 : i < 32 := by omega
  first
    | (show (((x &&& 65535).toBitVec).signExtend 16).getLsbD i = (x.toBitVec.signExtend 16).getLsbD i; rw [BitVec.getLsbD_signExtend, BitVec.getLsbD_signExtend, if_pos h3, if_pos h3, h4])
    | (show (((x &&& 65535).toBitVec).setWidth 16).getLsbD i = (x.toBitVec.setWidth 16).getLsbD i; rw [BitVec.getLsbD_setWidth, BitVec.getLsbD_setWidth, h4])
    | (simp [hi, h3, h4]; done)
/-- a small number is its own byte, its own short -/
theorem fa_byte_small {n : Nat} (h : n < 128) : (nI n).toInt8.toInt32 = nI n := by
  have : ∀ j : Fin 128, (nI j.val).toInt8.toInt32 = nI j.val := by decide +kernel
  exact this ⟨n, h⟩
/-! ===== absolute difference ===== -/
theorem fa_absdiff {a b : Nat} (ha : a < 2 ^ 31) (hb : b < 2 ^ 31) : (if nI a < nI b then nI b - nI a else nI a - nI b) = nI (if a < b then b - a else a - b) := by
  by_cases h : a < b
  · rw [if_pos (nI_lt h hb), if_pos h]
    exact pk_sub (Nat.le_of_lt h)
  · rw [if_neg (nI_nlt (Nat.le_of_not_lt h) ha), if_neg h]
    exact pk_sub (Nat.le_of_not_lt h)
/-! ===== an array behind i stores, a conditional store, a row copied ===== -/
/-- f where k < i, what stood there else -/
def fa_fill {α : Type} (f g : Nat → α) (i : Nat) : Nat → α := fun k => if k < i then f k else g k
theorem fa_fill_0 {α : Type} (f g : Nat → α) : fa_fill f g 0 = g := funext fun k => if_neg (Nat.not_lt_zero k)
theorem fa_fill_in {α : Type} {f g : Nat → α} {i k : Nat} (h : k < i) : fa_fill f g i k = f k := if_pos h
theorem fa_fill_out {α : Type} {f g : Nat → α} {i k : Nat} (h : i ≤ k) : fa_fill f g i k = g k := if_neg (Nat.not_lt.mpr h)
theorem fa_fill_succ (f g : Nat → Int32) (i : Nat) : upd (fa_fill f g i) i (f i) = fa_fill f g (i + 1) := by
  funext k
  by_cases e : k = i
  · subst e
    rw [pk_us]
    exact (if_pos (Nat.lt_succ_self k)).symm
  · rw [pk_un e]
    by_cases h : k < i
    · rw [fa_fill_in h, fa_fill_in (Nat.lt_succ_of_lt h)]
    · rw [fa_fill_out (Nat.le_of_not_lt h), fa_fill_out (by omega)]
/-- a store that changes nothing -/
theorem fa_upd_same {f : Nat → Int32} {i : Nat} {x : Int32} (h : f i = x) : upd f i x = f := by
  funext k
  by_cases e : k = i
  · subst e
    rw [pk_us, h]
  · rw [pk_un e]
/-- a store under a condition, told as one -/
theorem fa_upd_if (c : Prop) [Decidable c] (f : Nat → Int32) (i : Nat) (x : Int32) : (if c then upd f i x else f) = upd f i (if c then x else f i) := by
  by_cases h : c
  · rw [if_pos h, if_pos h]
  · rw [if_neg h, if_neg h, fa_upd_same rfl]
/-- two stores at one place, at two -/
theorem fa_upd_twice (f : Nat → Int32) (i : Nat) (x y : Int32) : upd (upd f i x) i y = upd f i y := by
  funext k
  by_cases e : k = i
  · subst e
    rw [pk_us, pk_us]
  · rw [pk_un e, pk_un e, pk_un e]
theorem fa_upd_swap (f : Nat → Int32) {i j : Nat} (h : i ≠ j) (x y : Int32) : upd (upd f i x) j y = upd (upd f j y) i x := by
  funext k
  by_cases e : k = i
  · subst e
    rw [pk_un h, pk_us, pk_us]
  · by_cases e2 : k = j
    · subst e2
      rw [pk_us, pk_un e, pk_us]
    · rw [pk_un e2, pk_un e, pk_un e, pk_un e2]
/-! ===== the first index with a property; a count ===== -/
/-- the first k < n with p k, n if there is none -/
def fa_first (p : Nat → Bool) : Nat → Nat
  | 0 => 0
  | n + 1 => if fa_first p n < n then fa_first p n else if p n then n else n + 1
theorem fa_first_le (p : Nat → Bool) : ∀ n, fa_first p n ≤ n
  | 0 => Nat.le_refl 0
  | n + 1 => by
    have ih := fa_first_le p n
    unfold fa_first
    split
    · omega
    · split
      · omega
      · omega
theorem fa_first_no (p : Nat → Bool) : ∀ n k, k < fa_first p n → p k = false
  | 0, k, h => absurd h (Nat.not_lt_zero k)
  | n + 1, k, h => by
    have ih := fa_first_no p n
    have hl := fa_first_le p n
    unfold fa_first at h
    split at h
    · exact ih k h
    · rename_i h1
      split at h
      · exact ih k (by omega)
      · rename_i h2
        by_cases e : k = n
        · subst e
          exact Bool.eq_false_iff.mpr h2
        · exact ih k (by omega)
theorem fa_first_yes (p : Nat → Bool) : ∀ n, fa_first p n < n → p (fa_first p n) = true
  | 0, h => absurd h (Nat.not_lt_zero _)
  | n + 1, h => by
    have ih := fa_first_yes p n
    have hl := fa_first_le p n
    unfold fa_first at h ⊢
    split at h
    · rename_i h1
      rw [if_pos h1]
      exact ih h1
    · rename_i h1
      rw [if_neg h1]
      split at h
      · rename_i h2
        rw [if_pos h2]
        exact h2
      · omega
/-- how many k < n have p k -/
def fa_cnt (p : Nat → Bool) : Nat → Nat
  | 0 => 0
  | n + 1 => fa_cnt p n + if p n then 1 else 0
theorem fa_cnt_le (p : Nat → Bool) : ∀ n, fa_cnt p n ≤ n
  | 0 => Nat.le_refl 0
  | n + 1 => by
    have ih := fa_cnt_le p n
    unfold fa_cnt
    split
    · omega
    · omega
theorem fa_cnt_yes {p : Nat → Bool} {n : Nat} (h : p n = true) : fa_cnt p (n + 1) = fa_cnt p n + 1 := by rw [fa_cnt, if_pos h]
theorem fa_cnt_no {p : Nat → Bool} {n : Nat} (h : p n = false) : fa_cnt p (n + 1) = fa_cnt p n := by rw [fa_cnt, if_neg (by rw [h]; decide)]; rfl
theorem fa_cnt_cong {p q : Nat → Bool} : ∀ {n : Nat}, (∀ k, k < n → p k = q k) → fa_cnt p n = fa_cnt q n
  | 0, _ => rfl
  | n + 1, h => by rw [fa_cnt, fa_cnt, fa_cnt_cong (fun k hk => h k (Nat.lt_succ_of_lt hk)), h n (Nat.lt_succ_self n)]
/-! ===== an answer carried into a post; a branch on a boolean answer ===== -/
theorem fa_post {α : Type} {P : α → Prop} {x y : α} (h : x = y) (hp : P y) : P x := h ▸ hp
theorem fa_post2 {α β : Type} {P : α → β → Prop} {x y : α} {u v : β} (h : x = y) (h2 : u = v) (hp : P y v) : P x u := h ▸ h2 ▸ hp
theorem fa_bool {r : Int32} {b : Bool} (h : r = if b then 1 else 0) : (r = 0 ↔ b = false) ∧ (¬ r = 0 ↔ b = true) := by
  subst h
  cases b
  · exact ⟨⟨fun _ => rfl, fun _ => rfl⟩, ⟨fun h => absurd rfl h, fun h => absurd h (by decide)⟩⟩
  · exact ⟨⟨fun h => absurd h (by decide), fun h => absurd h (by decide)⟩, ⟨fun _ => rfl, fun _ => by decide⟩⟩
/-- a boolean's narrowing changes nothing -/
theorem fa_bool_and {r : Int32} (h : r = 0 ∨ r = 1) : r &&& 1 = r := by
  rcases h with rfl | rfl
  · decide
  · decide
theorem fa_bool_prop {c : Prop} [Decidable c] {r : Int32} (h : r = if c then 1 else 0) : (r = 0 ↔ ¬ c) ∧ (¬ r = 0 ↔ c) := by
  subst h
  by_cases hc : c
  · rw [if_pos hc]
    exact ⟨⟨fun h => absurd h (by decide), fun h => absurd hc h⟩, ⟨fun _ => hc, fun _ => by decide⟩⟩
  · rw [if_neg hc]
    exact ⟨⟨fun _ => hc, fun _ => rfl⟩, ⟨fun h => absurd rfl h, fun h => absurd h hc⟩⟩
end
section
/-! rows on bits, shifts and unsigned numbers, to paste: each family out of a closed proof of our own, whole with what it rests on; each by itself clean at Lean in its own claim (generation 39, form 5). Take a family whole -/
/-! ===== Int32 by its bits: bt x i ===== -/
def bt (x : Int32) (i : Nat) : Bool := x.toBitVec.getLsbD i
theorem b_ext {x y : Int32} (h : ∀ i, i < 32 → bt x i = bt y i) : x = y := Int32.toBitVec_inj.mp (BitVec.eq_of_getLsbD_eq (fun i hi => h i hi))
theorem b_or (x y : Int32) (i : Nat) : bt (x ||| y) i = (bt x i || bt y i) := by unfold bt; rw [Int32.toBitVec_or, BitVec.getLsbD_or]
theorem b_and (x y : Int32) (i : Nat) : bt (x &&& y) i = (bt x i && bt y i) := by unfold bt; rw [Int32.toBitVec_and, BitVec.getLsbD_and]
theorem b_xor (x y : Int32) (i : Nat) : bt (x ^^^ y) i = (bt x i ^^ bt y i) := by unfold bt; rw [Int32.toBitVec_xor, BitVec.getLsbD_xor]
theorem b_big {x : Int32} {i : Nat} (h : 32 ≤ i) : bt x i = false := BitVec.getLsbD_of_ge _ _ h
theorem b_255 (i : Nat) : bt 255 i = decide (i < 8) := by
  rcases Nat.lt_or_ge i 32 with h | h
  · exact (by decide +kernel : ∀ i, i < 32 → bt 255 i = decide (i < 8)) i h
  · rw [b_big h, decide_eq_false (by omega)]
theorem b_65535 (i : Nat) : bt 65535 i = decide (i < 16) := by
  rcases Nat.lt_or_ge i 32 with h | h
  · exact (by decide +kernel : ∀ i, i < 32 → bt 65535 i = decide (i < 16)) i h
  · rw [b_big h, decide_eq_false (by omega)]
theorem b_m1 : ∀ i, i < 32 → bt (-1) i = true := by decide +kernel
theorem b_0 (i : Nat) : bt 0 i = false := BitVec.getLsbD_zero
theorem s_l : ∀ n, n < 32 → ((nI n &&& 31).toBitVec.smod 32).toNat = n := by decide +kernel
theorem s_u : ∀ n, n < 32 → (((nI n).toUInt32 &&& Int32.toUInt32 31).toBitVec % 32).toNat = n := by decide +kernel
theorem b_shl (n : Nat) (hn : n < 32) (x : Int32) {i : Nat} (hi : i < 32) : bt (x <<< (nI n &&& 31)) i = (decide (n ≤ i) && bt x (i - n)) := by
  unfold bt
  rw [Int32.toBitVec_shiftLeft]
  show (x.toBitVec <<< ((nI n &&& 31).toBitVec.smod 32).toNat).getLsbD i = _
  rw [s_l n hn, BitVec.getLsbD_shiftLeft]
  rcases Nat.lt_or_ge i n with h | h
  · simp [h, Nat.not_le.mpr h]
  · simp [hi, h, Nat.not_lt.mpr h]
theorem b_ushr (n : Nat) (hn : n < 32) (x : Int32) (i : Nat) : bt ((x.toUInt32 >>> ((nI n).toUInt32 &&& Int32.toUInt32 31)).toInt32) i = bt x (n + i) := by
  show (x.toUInt32 >>> ((nI n).toUInt32 &&& Int32.toUInt32 31)).toBitVec.getLsbD i = x.toUInt32.toBitVec.getLsbD (n + i)
  rw [UInt32.toBitVec_shiftRight]
  show (x.toUInt32.toBitVec >>> (((nI n).toUInt32 &&& Int32.toUInt32 31).toBitVec % 32).toNat).getLsbD i = _
  rw [s_u n hn, BitVec.getLsbD_ushiftRight]
theorem b_sshr (n : Nat) (hn : n < 32) (x : Int32) {i : Nat} (hi : i < 32) : bt (x >>> (nI n &&& 31)) i = if n + i < 32 then bt x (n + i) else bt x 31 := by
  unfold bt
  rw [Int32.toBitVec_shiftRight]
  show (x.toBitVec.sshiftRight ((nI n &&& 31).toBitVec.smod 32).toNat).getLsbD i = _
  rw [s_l n hn, BitVec.getLsbD_sshiftRight, BitVec.msb_eq_getLsbD_last]
  simp [hi]
theorem b_shl8 (x : Int32) {i : Nat} (hi : i < 32) : bt (x <<< ((8 : Int32) &&& 31)) i = (decide (8 ≤ i) && bt x (i - 8)) := b_shl 8 (by omega) x hi
theorem b_shl16 (x : Int32) {i : Nat} (hi : i < 32) : bt (x <<< ((16 : Int32) &&& 31)) i = (decide (16 ≤ i) && bt x (i - 16)) := b_shl 16 (by omega) x hi
theorem b_shl24 (x : Int32) {i : Nat} (hi : i < 32) : bt (x <<< ((24 : Int32) &&& 31)) i = (decide (24 ≤ i) && bt x (i - 24)) := b_shl 24 (by omega) x hi
theorem b_sshr8 (x : Int32) {i : Nat} (hi : i < 32) : bt (x >>> ((8 : Int32) &&& 31)) i = if 8 + i < 32 then bt x (8 + i) else bt x 31 := b_sshr 8 (by omega) x hi
/-! ===== nI under and, xor, >>>, one bit, 65535 ===== -/
end
section
/-! loops -/
theorem it_rule {α : Type} {F : (α → Prop) → α → Prop} (I : α → Prop) (μ : α → Nat) (h : ∀ (self : α → Prop) (x : α), I x → (∀ y, I y → μ y < μ x → self y) → F self x) (x : α) (hx : I x) : ∃ n, itN F n x := by
  have key : ∀ (n : Nat) (x : α), I x → μ x < n → itN F n x := by
    intro n
    induction n with
    | zero => intro x _ hm; exact absurd hm (Nat.not_lt_zero _)
    | succ n ih => intro x hx hm; exact h (itN F n) x hx (fun y hy hlt => ih y hy (by omega))
  exact ⟨μ x + 1, key _ x hx (Nat.lt_succ_self _)⟩
theorem for_rule {α : Type} {F : (α → Prop) → α → Prop} (N : Nat) (st : Nat → α) (hs : ∀ (self : α → Prop) (i : Nat), i < N → self (st (i + 1)) → F self (st i)) (hx : ∀ self : α → Prop, F self (st N)) : ∃ n, itN F n (st 0) := by
  have key : ∀ (d j : Nat), j + d = N → itN F (d + 1) (st j) := by
    intro d
    induction d with
    | zero => intro j hj; have e : j = N := by omega
              subst e; exact hx _
    | succ d ih => intro j hj; exact hs _ j (by omega) (ih (j + 1) (by omega))
  exact ⟨N + 1, key N 0 (by omega)⟩
/-! states -/
theorem sI_I (x : St) (k j : Nat) (v : Int32) : (x.sI k v).I j = if j = k then v else x.I j := rfl
theorem sI_L (x : St) (k j : Nat) (v : Int32) : (x.sI k v).L j = x.L j := rfl
theorem sI_A (x : St) (k j : Nat) (v : Int32) : (x.sI k v).A j = x.A j := rfl
theorem sL_I (x : St) (k j : Nat) (v : Int64) : (x.sL k v).I j = x.I j := rfl
theorem sL_L (x : St) (k j : Nat) (v : Int64) : (x.sL k v).L j = if j = k then v else x.L j := rfl
theorem sL_A (x : St) (k j : Nat) (v : Int64) : (x.sL k v).A j = x.A j := rfl
theorem sA_I (x : St) (k j : Nat) (v : Nat → Int32) : (x.sA k v).I j = x.I j := rfl
theorem sA_L (x : St) (k j : Nat) (v : Nat → Int32) : (x.sA k v).L j = x.L j := rfl
theorem sA_A (x : St) (k j : Nat) (v : Nat → Int32) : (x.sA k v).A j = if j = k then v else x.A j := rfl
theorem upS_at (t : Nat → St) (k j : Nat) (x : St) : upS t k x j = if j = k then x else t j := rfl
/-! numbers -/
theorem vin {n N : Nat} (hn : n < 2 ^ 31) : vp_in (nI n) N ↔ n < N := by
  unfold vp_in
  rw [nI_clamp hn]
  have := nI_pos hn
  constructor
  · intro h; exact Nat.lt_of_not_le (fun q => h (Or.inr q))
  · intro h q; rcases q with q | q
    · exact this q
    · omega
theorem ncl {n : Nat} (h : n < 2 ^ 31) : (nI n).toNatClampNeg = n := nI_clamp h
/-- an int by its range -/
theorem rng (x : Int32) (lo hi : Nat) : (x.toInt < lo ∨ (hi : Int) < x.toInt) ∨ ∃ j : Nat, lo ≤ j ∧ j ≤ hi ∧ j < 2 ^ 31 ∧ x = nI j := by
  by_cases hx : x < 0
  · have := Int32.lt_iff_toInt_lt.mp hx
    simp at this
    exact Or.inl (Or.inl (by omega))
  · obtain ⟨j, hj, rfl⟩ := nI_of hx
    rw [nI_toInt hj]
    by_cases h1 : j < lo
    · exact Or.inl (Or.inl (by omega))
    · by_cases h2 : hi < j
      · exact Or.inl (Or.inr (by omega))
      · exact Or.inr ⟨j, by omega, by omega, hj, rfl⟩
theorem tI (n : Nat) (h : n < 2 ^ 31) : (nI n).toInt = (n : Int) := nI_toInt h
theorem litI (n : Nat) (h : n < 2 ^ 31) : (OfNat.ofNat n : Int32).toInt = (n : Int) := nI_toInt h
theorem litL (n : Nat) (h : n < 2 ^ 63) : (OfNat.ofNat n : Int64).toInt = (n : Int) := lg_ofNat_toInt h
/-- bits of a predicate -/
def bitsN (P : Nat → Bool) : Nat → Int32
  | 0 => 0
  | n + 1 => if P n then bitsN P n ||| ((1 : Int32) <<< (nI n &&& 31)) else bitsN P n
theorem bitsN_cong {P Q : Nat → Bool} : ∀ {n : Nat}, (∀ k, k < n → P k = Q k) → bitsN P n = bitsN Q n
  | 0, _ => rfl
  | n + 1, h => by
    unfold bitsN
    rw [h n (by omega), bitsN_cong (fun k hk => h k (by omega))]
theorem or_0 (x : Int32) : x ||| 0 = x := by
  apply Int32.toBitVec_inj.1
  show x.toBitVec ||| 0#32 = x.toBitVec
  simp
/-! the machine's small methods -/
theorem in_rule {x : Int32} {lo hi : Int64} {Post : Int32 → Prop} (a b : Int) (ha : lo.toInt = a) (hb : hi.toInt = b) (h1 : a ≤ x.toInt → x.toInt ≤ b → Post 1) (h0 : (x.toInt < a ∨ b < x.toInt) → Post 0) : wpX12_in x.toInt64 lo hi Post := by
  have e : x.toInt64.toInt = x.toInt := Int32.toInt_toInt64 x
  have c1 : (lg_cmp x.toInt64 lo < 0) ↔ x.toInt < a := by
    unfold lg_cmp
    rw [← ha, ← e]
    simp only [gt_iff_lt, fa_lt64, fa_eq64]
    split
    · constructor
      · intro h; exact absurd h (by decide)
      · intro h; omega
    · split
      · constructor
        · intro h; exact absurd h (by decide)
        · intro h; omega
      · constructor
        · intro _; omega
        · intro _; decide
  have c2 : (0 < lg_cmp x.toInt64 hi) ↔ b < x.toInt := by
    unfold lg_cmp
    rw [← hb, ← e]
    simp only [gt_iff_lt, fa_lt64, fa_eq64]
    split
    · constructor
      · intro _; omega
      · intro _; decide
    · split
      · constructor
        · intro h; exact absurd h (by decide)
        · intro h; omega
      · constructor
        · intro h; exact absurd h (by decide)
        · intro h; omega
  unfold wpX12_in
  rw [c1, c2]
  refine ⟨fun h => h0 (Or.inl h), fun h => ⟨fun h2 => h0 (Or.inr h2), fun h2 => h1 (by omega) (by omega)⟩⟩
theorem vb1 : vb 1 := by unfold vb; decide
theorem vb0 : vb 0 := by unfold vb; decide
theorem vi_0_3' : vp_in 0 3 := by unfold vp_in; decide
theorem vi_1_3' : vp_in 1 3 := by unfold vp_in; decide
theorem vi_2_3' : vp_in 2 3 := by unfold vp_in; decide
end
section
/-! the pad as the model's row holds it: torn, notes, each note's kind, press, cells, sheet -/
def tN (st : Nat → Int32) : Nat := (st 125).toNatClampNeg
def mN (st : Nat → Int32) : Nat := (st 124).toNatClampNeg
def kN (st : Nat → Int32) (k : Nat) : Nat := (st (84 + 4 * k)).toNatClampNeg
def prN (st : Nat → Int32) (k : Nat) : Nat := (st (85 + 4 * k)).toNatClampNeg
def ceN (st : Nat → Int32) (k : Nat) : Nat := (st (86 + 4 * k)).toNatClampNeg
def onN (st : Nat → Int32) (k : Nat) : Nat := (st (87 + 4 * k)).toNatClampNeg
/-- note k's force in a cell of a sheet -/
def frc (st : Nat → Int32) (s c k : Nat) : Int32 := if onN st k ≤ s ∧ (ceN st k).testBit c = true then fo (st (84 + 4 * k)) (st (85 + 4 * k)) (nI (s - onN st k)) else 0
/-- the greatest of the first notes' forces there -/
def mx (st : Nat → Int32) (s c : Nat) : Nat → Int32
  | 0 => 0
  | k + 1 => if mx st s c k < frc st s c k then frc st s c k else mx st s c k
def GN (st : Nat → Int32) (n k : Nat) : Prop := st (84 + 4 * k) = nI (kN st k) ∧ kN st k < 6 ∧ st (85 + 4 * k) = nI (prN st k) ∧ 1 ≤ prN st k ∧ prN st k ≤ 9 ∧ st (86 + 4 * k) = nI (ceN st k) ∧ ceN st k < 4096 ∧ st (87 + 4 * k) = nI (onN st k) ∧ onN st k < n ∧ onN st k ≤ tN st
def WF (st : Nat → Int32) (n : Nat) : Prop := st 125 = nI (tN st) ∧ tN st ≤ n ∧ st 124 = nI (mN st) ∧ mN st ≤ 10 ∧ (∀ k, k < mN st → GN st n k) ∧ ∀ s, s < n → ∀ c, c < 12 → st (12 + 12 * s + c) = mx st s c (mN st)
/-- a page of the class beside the model's row -/
def RP (pg : Nat → Int32) (p : St) (st : Nat → Int32) : Prop := pg 0 = st 125 ∧ pg 1 = st 124 ∧ (∀ s, s < 6 → pg (2 + 14 * s) = st s ∧ pg (3 + 14 * s) = st (6 + s) ∧ ∀ c, c < 12 → pg (4 + 14 * s + c) = st (12 + 12 * s + c)) ∧ ∀ k, k < mN st → p.A 5 k = st (84 + 4 * k) ∧ p.A 6 k = st (85 + 4 * k) ∧ p.A 7 k = st (86 + 4 * k) ∧ p.A 8 k = st (87 + 4 * k) ∧ ∀ d, d < 6 → p.A 9 (6 * k + d) = fo (st (84 + 4 * k)) (st (85 + 4 * k)) (nI d)
def stk (st ah : Nat → Int32) (u j : Nat) : Nat → Int32 := if j = u then st else fun k => ah (126 * j + k)
def pgk (p : St) (u j : Nat) : Nat → Int32 := if j = u then p.A 0 else fun i => p.A 1 (86 * j + i)
def PadN (p : St) (st ah wo : Nat → Int32) (n w u : Nat) : Prop := 1 ≤ n ∧ n ≤ 6 ∧ p.I 3 = nI n ∧ w ≤ 8 ∧ p.I 11 = nI w ∧ u ≤ 8 ∧ p.I 2 = nI u ∧ (∀ i, i < w → p.A 10 i = wo i ∧ ∃ c, c < 4096 ∧ wo i = nI c) ∧ (∀ j, j ≤ u → RP (pgk p u j) p (stk st ah u j) ∧ WF (stk st ah u j) n) ∧ ∀ i j, i ≤ j → j ≤ u → mN (stk st ah u i) ≤ mN (stk st ah u j)
def PadR (p : St) (st ah wo : Nat → Int32) (sh ca wm um : Int32) : Prop := p.I 4 = ca ∧ ∃ n w u : Nat, sh = nI n ∧ wm = nI w ∧ um = nI u ∧ PadN p st ah wo n w u
def ImgR (q : St) (ke : Nat → Int32) (i : Nat) : Prop := PadR q (fun k => ke (1154 * i + k)) (fun k => ke (1154 * i + 126 + k)) (fun k => ke (1154 * i + 1134 + k)) (ke (1154 * i + 1142)) (ke (1154 * i + 1143)) (ke (1154 * i + 1144)) (ke (1154 * i + 1145))
def ObjR (o x : St) : Prop := o.L 10 = x.L 7 ∧ o.L 11 = x.L 8 ∧ o.I 12 = x.A 9 0 ∧ o.I 13 = x.A 9 1 ∧ o.I 14 = x.A 9 2
def TxtR (r x : St) : Prop := ∃ b : Nat, b ≤ 150 ∧ r.I 1 = nI b ∧ x.I 11 = nI b ∧ ∀ k, k < b → r.A 0 k = x.A 10 k ∧ ∃ c, c < 128 ∧ x.A 10 k = nI c
def ImsR (o q0 q1 x : St) : Prop := ∃ b0 b1 : Nat, b0 < 2 ∧ b1 < 2 ∧ o.I 9 = nI (b0 + 2 * b1) ∧ x.A 27 0 = nI b0 ∧ x.A 27 1 = nI b1 ∧ (b0 = 1 → ImgR q0 (x.A 28) 0) ∧ (b1 = 1 → ImgR q1 (x.A 28) 1)
def NowR (p x : St) : Prop := PadR p (x.A 4) (x.A 5) (x.A 2) (x.I 0) (x.I 1) (x.I 3) (x.I 6)
/-- the class's state beside the model's -/
def Rel (t : Nat → St) (x : St) : Prop := NowR (t 2) x ∧ ObjR (t 0) x ∧ TxtR (t 8) x ∧ ImsR (t 0) (t 4) (t 5) x
theorem PadN.cur {p : St} {st ah wo : Nat → Int32} {n w u : Nat} (h : PadN p st ah wo n w u) : RP (p.A 0) p st ∧ WF st n := by
  have h1 := h.2.2.2.2.2.2.2.2.1 u (Nat.le_refl u)
  unfold pgk stk at h1
  rw [if_pos rfl, if_pos rfl] at h1
  exact h1
/-! what the refusals do -/
def badT (t : Nat → St) : Nat → St := upS t 0 ((t 0).sI 12 (((t 0).I 12) + 1))
def noT (t : Nat → St) : Nat → St := upS t 0 ((t 0).sI 13 (((t 0).I 13) + 1))
def fullT (t : Nat → St) : Nat → St := upS t 0 ((t 0).sI 14 (((t 0).I 14) + 1))
def refX (x : St) (k : Nat) : St := x.sA 9 (upd (x.A 9) k ((x.A 9 k) + 1))
theorem k_bad {t : Nat → St} {a : Int32} {Post : Int32 → (Nat → St) → Prop} (h : Post a (badT t)) : wpX11_bad a t Post := fun _ e => e ▸ h
theorem k_no {t : Nat → St} {Post : Int32 → (Nat → St) → Prop} (h : Post (-3) (noT t)) : wpX11_no t Post := fun _ e => e ▸ h
theorem k_full {t : Nat → St} {Post : Int32 → (Nat → St) → Prop} (h : Post (-4) (fullT t)) : wpX11_full t Post := fun _ e => e ▸ h
theorem m_ref0 {x : St} {a : Int32} {Post : Int32 → St → Prop} (h : Post a (refX x 0)) : wpX12_refuse 0 a x Post := ⟨vi_0_3', vi_0_3', fun _ e => e ▸ h⟩
theorem m_ref1 {x : St} {a : Int32} {Post : Int32 → St → Prop} (h : Post a (refX x 1)) : wpX12_refuse 1 a x Post := ⟨vi_1_3', vi_1_3', fun _ e => e ▸ h⟩
theorem m_ref2 {x : St} {a : Int32} {Post : Int32 → St → Prop} (h : Post a (refX x 2)) : wpX12_refuse 2 a x Post := ⟨vi_2_3', vi_2_3', fun _ e => e ▸ h⟩
theorem R_bad {t : Nat → St} {x : St} (h : Rel t x) : Rel (badT t) (refX x 0) := by
  obtain ⟨h1, ⟨o1, o2, o3, o4, o5⟩, h3, h4⟩ := h
  refine ⟨h1, ⟨o1, o2, ?_, o4, o5⟩, h3, h4⟩
  show (t 0).I 12 + 1 = x.A 9 0 + 1
  rw [o3]
theorem R_no {t : Nat → St} {x : St} (h : Rel t x) : Rel (noT t) (refX x 1) := by
  obtain ⟨h1, ⟨o1, o2, o3, o4, o5⟩, h3, h4⟩ := h
  refine ⟨h1, ⟨o1, o2, o3, ?_, o5⟩, h3, h4⟩
  show (t 0).I 13 + 1 = x.A 9 1 + 1
  rw [o4]
theorem R_full {t : Nat → St} {x : St} (h : Rel t x) : Rel (fullT t) (refX x 2) := by
  obtain ⟨h1, ⟨o1, o2, o3, o4, o5⟩, h3, h4⟩ := h
  refine ⟨h1, ⟨o1, o2, o3, o4, ?_⟩, h3, h4⟩
  show (t 0).I 14 + 1 = x.A 9 2 + 1
  rw [o5]
/-- one call on both sides -/
def SimI (a : (Int32 → (Nat → St) → Prop) → Prop) (b : (Int32 → St → Prop) → Prop) : Prop := a (fun r t => b (fun r' x => r = r' ∧ Rel t x))
def SimL (a : (Int64 → (Nat → St) → Prop) → Prop) (b : (Int64 → St → Prop) → Prop) : Prop := a (fun r t => b (fun r' x => r = r' ∧ Rel t x))
/-! ranges -/
theorem v_le {x lo hi : Int32} {B G : Prop} (a b : Int) (ha : lo.toInt = a) (hb : hi.toInt = b) (hB : (x.toInt < a ∨ b < x.toInt) → B) (hG : a ≤ x.toInt → x.toInt ≤ b → G) : (x < lo → B) ∧ (¬ x < lo → (x ≤ hi → G) ∧ (¬ x ≤ hi → B)) := by
  rw [fa_lt, fa_le, ha, hb]
  exact ⟨fun h => hB (Or.inl h), fun h => ⟨fun h2 => hG (by omega) h2, fun h2 => hB (Or.inr (by omega))⟩⟩
theorem v_lt {x lo hi : Int32} {B G : Prop} (a b : Int) (ha : lo.toInt = a) (hb : hi.toInt = b) (hB : (x.toInt < a ∨ b ≤ x.toInt) → B) (hG : a ≤ x.toInt → x.toInt < b → G) : (x < lo → B) ∧ (¬ x < lo → (x < hi → G) ∧ (¬ x < hi → B)) := by
  rw [fa_lt, fa_lt, ha, hb]
  exact ⟨fun h => hB (Or.inl h), fun h => ⟨fun h2 => hG (by omega) h2, fun h2 => hB (Or.inr (by omega))⟩⟩
theorem v_ge {x lo hi : Int32} {B G : Prop} (a b : Int) (ha : lo.toInt = a) (hb : hi.toInt = b) (hB : (x.toInt < a ∨ b ≤ x.toInt) → B) (hG : a ≤ x.toInt → x.toInt < b → G) : (x < lo → B) ∧ (¬ x < lo → (hi ≤ x → B) ∧ (¬ hi ≤ x → G)) := by
  rw [fa_lt, fa_le, ha, hb]
  exact ⟨fun h => hB (Or.inl h), fun h => ⟨fun h2 => hB (Or.inr h2), fun h2 => hG (by omega) (by omega)⟩⟩
theorem v_gt {x lo hi : Int32} {B G : Prop} (a b : Int) (ha : lo.toInt = a) (hb : hi.toInt = b) (hB : (x.toInt < a ∨ b < x.toInt) → B) (hG : a ≤ x.toInt → x.toInt ≤ b → G) : (x < lo → B) ∧ (¬ x < lo → (hi < x → B) ∧ (¬ hi < x → G)) := by
  rw [fa_lt, fa_lt, ha, hb]
  exact ⟨fun h => hB (Or.inl h), fun h => ⟨fun h2 => hB (Or.inr h2), fun h2 => hG (by omega) (by omega)⟩⟩
theorem toNI {x : Int32} (h : 0 ≤ x.toInt) : ∃ j : Nat, x = nI j ∧ x.toInt = (j : Int) ∧ j < 2 ^ 31 := by
  have hx : ¬ x < 0 := by rw [fa_lt]; simp; omega
  obtain ⟨j, hj, rfl⟩ := nI_of hx
  exact ⟨j, rfl, nI_toInt hj, hj⟩
/-! answers that are a boolean -/
theorem b1n {A B : Prop} (h : A) : ((¬ (1 : Int32) = 0) → A) ∧ (((1 : Int32) = 0) → B) := ⟨fun _ => h, fun e => absurd e (by decide)⟩
theorem b1e {A B : Prop} (h : A) : (((1 : Int32) = 0) → B) ∧ ((¬ (1 : Int32) = 0) → A) := ⟨fun e => absurd e (by decide), fun _ => h⟩
theorem b0n {A B : Prop} (h : B) : ((¬ (0 : Int32) = 0) → A) ∧ (((0 : Int32) = 0) → B) := ⟨fun e => absurd rfl e, fun _ => h⟩
theorem b0e {A B : Prop} (h : B) : (((0 : Int32) = 0) → B) ∧ ((¬ (0 : Int32) = 0) → A) := ⟨fun _ => h, fun e => absurd rfl e⟩
end
section
theorem s_forget {t : Nat → St} {x : St} (h : Rel t x) : SimI (wpX11_forget t) (wpX12_forget x) := by
  obtain ⟨⟨hc, n, w, u, e1, e2, e3, g1, g2, g3, g4, g5, g6, g7, g8, g9, g10⟩, ho, ht, hi⟩ := h
  intro r1 er t2 et r2 er2 x2 ex
  subst et; subst ex
  refine ⟨by rw [er, er2, e2]; exact g5, ⟨hc, n, 0, u, e1, rfl, e3, g1, g2, g3, by omega, rfl, g6, g7, fun i hi => absurd hi (Nat.not_lt_zero i), g9, g10⟩, ho, ht, hi⟩
theorem s_clear {t : Nat → St} {x : St} (h : Rel t x) : SimI (wpX11_clear t) (wpX12_clear x) := by
  obtain ⟨hn, ho, ⟨b, hb, e1, e2, hk⟩, hi⟩ := h
  intro r1 er t2 et r2 er2 x2 ex
  subst et; subst ex
  exact ⟨by rw [er, er2, e1, e2], hn, ho, ⟨0, by omega, rfl, rfl, fun k hk => absurd hk (Nat.not_lt_zero k)⟩, hi⟩
theorem s_type {t : Nat → St} {x : St} (h : Rel t x) (x1 : Int32) : SimI (wpX11_type x1 t) (wpX12_type x1 x) := by
  by_cases hv : 0 ≤ x1.toInt ∧ x1.toInt ≤ 127
  · obtain ⟨j, ej, hj, _⟩ := toNI hv.1
    refine v_le 0 127 (by decide) (by decide) (fun hb => absurd hv (by omega)) (fun _ _ => ?_)
    obtain ⟨hn, ho, ⟨b, hb, e1, e2, hk⟩, hi⟩ := id h
    rw [e1]
    refine pk_lt b 150 (fun hb2 => ?_) (fun hb2 => k_full ?_)
    · refine ⟨pk_in b 150 hb2, fun t3 e3 t4 e4 => ?_⟩
      rw [ncl (by omega)] at e3
      refine in_rule 0 127 (by decide) (by decide) (fun _ _ => b1n ?_) (fun hb => absurd hv (by omega))
      rw [e2]
      refine ⟨fun _ => ⟨pk_in b 150 hb2, fun p2 e5 p3 e6 => ?_⟩, fun e => absurd ((nI_eq (by omega) (by omega)).mp (show nI b = nI 150 from e)) (by omega)⟩
      rw [ncl (by omega)] at e5
      subst e3; subst e4; subst e5; subst e6
      have z1 : ((upS t 8 ((t 8).sA 0 (upd ((t 8).A 0) b x1))) 8).I 1 + 1 = nI (b + 1) := by
        show (t 8).I 1 + 1 = _
        rw [e1]; exact nI_1 b
      have z2 : (x.sA 10 (upd (x.A 10) b x1)).I 11 + 1 = nI (b + 1) := by
        show x.I 11 + 1 = _
        rw [e2]; exact nI_1 b
      refine ⟨z1.trans z2.symm, hn, ho, ⟨b + 1, by omega, z1, z2, fun k hk2 => ?_⟩, hi⟩
      show upd ((t 8).A 0) b x1 k = upd (x.A 10) b x1 k ∧ ∃ c, c < 128 ∧ upd (x.A 10) b x1 k = nI c
      unfold upd
      by_cases hkb : k = b
      · rw [if_pos hkb, if_pos hkb]
        exact ⟨rfl, j, by omega, ej⟩
      · rw [if_neg hkb, if_neg hkb]
        exact hk k (by omega)
    · refine in_rule 0 127 (by decide) (by decide) (fun _ _ => b1n ?_) (fun hb => absurd hv (by omega))
      have e9 : b = 150 := by omega
      subst e9
      refine ⟨fun e => absurd e2 e, fun _ => m_ref2 ⟨rfl, R_full h⟩⟩
  · refine v_le 0 127 (by decide) (by decide) (fun _ => k_bad ?_) (fun h1 h2 => absurd ⟨h1, h2⟩ hv)
    exact in_rule 0 127 (by decide) (by decide) (fun h1 h2 => absurd ⟨h1, h2⟩ hv) (fun _ => b0n (m_ref0 ⟨rfl, R_bad h⟩))
theorem s_status {t : Nat → St} {x : St} (h : Rel t x) (x1 : Int32) : SimI (wpX11_status x1 t) (wpX12_status x1 x) := by
  obtain ⟨hn, ⟨o1, o2, o3, o4, o5⟩, ht, hi⟩ := id h
  refine ⟨fun e => ?_, fun e => ?_, fun e => ?_, fun n0 n1 n2 => ?_⟩
  · subst e
    exact in_rule (x := 0) 0 2 (by decide) (by decide) (fun _ _ => b1e ⟨vi_0_3', o3, h⟩) (fun hb => absurd hb (by decide))
  · subst e
    exact in_rule (x := 1) 0 2 (by decide) (by decide) (fun _ _ => b1e ⟨vi_1_3', o4, h⟩) (fun hb => absurd hb (by decide))
  · subst e
    exact in_rule (x := 2) 0 2 (by decide) (by decide) (fun _ _ => b1e ⟨vi_2_3', o5, h⟩) (fun hb => absurd hb (by decide))
  · refine k_bad (in_rule 0 2 (by decide) (by decide) (fun h1 h2 => ?_) (fun _ => b0e (m_ref0 ⟨rfl, R_bad h⟩)))
    obtain ⟨j, ej, hj, _⟩ := toNI h1
    rcases (show j = 0 ∨ j = 1 ∨ j = 2 by omega) with rfl | rfl | rfl
    · exact absurd ej n0
    · exact absurd ej n1
    · exact absurd ej n2
theorem s_part {t : Nat → St} {x : St} (h : Rel t x) (x1 : Int32) : SimL (wpX11_part x1 t) (wpX12_part x1 x) := by
  obtain ⟨hn, ⟨o1, o2, o3, o4, o5⟩, ht, hi⟩ := id h
  refine v_le 0 1 (by decide) (by decide) (fun hb => k_bad ?_) (fun h1 h2 => ?_)
  · refine ⟨fun n0 => ⟨fun n1 => m_ref0 ⟨rfl, R_bad h⟩, fun e => ?_⟩, fun e => ?_⟩
    · subst e; exact absurd hb (by decide)
    · subst e; exact absurd hb (by decide)
  · refine ⟨fun n0 => ?_, fun e0 => ?_⟩
    · obtain ⟨j, ej, hj, _⟩ := toNI h1
      rcases (show j = 0 ∨ j = 1 by omega) with rfl | rfl
      · exact absurd ej n0
      · exact ⟨fun _ => ⟨fun n1 => absurd ej n1, fun _ => ⟨o2, h⟩⟩, fun e => absurd e n0⟩
    · exact ⟨fun n0 => absurd e0 n0, fun _ => ⟨o1, h⟩⟩
end
section
/-! numbers of a call -/
theorem shl1 : ∀ n, n < 31 → (1 : Int32) <<< (nI n &&& 31) = nI (2 ^ n) := by decide +kernel
theorem subT {m : Nat} (hm : m < 2 ^ 31) : (nI m - 1).toInt = (m : Int) - 1 := by
  cases m with
  | zero => decide
  | succ k => rw [nI_pred, nI_toInt (by omega)]; omega
theorem wideT (x : Int32) : x.toInt64.toInt = x.toInt := Int32.toInt_toInt64 x
theorem p2 {n : Nat} (h : n ≤ 10) : 2 ^ n < 2 ^ 31 := Nat.pow_lt_pow_right (by decide) (by omega)
/-! the class's tests -/
theorem k_hasSheet {x : Int32} {p : St} {n : Nat} (e : p.I 3 = nI n) (hn : n ≤ 6) {Post : Int32 → Prop} (h1 : 0 ≤ x.toInt → x.toInt < n → Post 1) (h0 : (x.toInt < 0 ∨ (n : Int) ≤ x.toInt) → Post 0) : wpX4_hasSheet x p Post := by
  unfold wpX4_hasSheet
  rw [e]
  exact v_ge 0 n (by decide) (nI_toInt (by omega)) h0 h1
theorem m_isSheet {x : Int32} {y : St} {n : Nat} (e : y.I 0 = nI n) (hn : n ≤ 6) {Post : Int32 → Prop} (h1 : 0 ≤ x.toInt → x.toInt < n → Post 1) (h0 : (x.toInt < 0 ∨ (n : Int) ≤ x.toInt) → Post 0) : wpX12_isSheet x y Post := by
  unfold wpX12_isSheet
  rw [e]
  exact in_rule 0 ((n : Int) - 1) (by decide) (by rw [wideT, subT (by omega)]) (fun a b => ⟨vb1, h1 a (by omega)⟩) (fun a => ⟨vb0, h0 (by omega)⟩)
theorem k_hasNote {x : Int32} {p : St} {m : Nat} (e : p.A 0 1 = nI m) (hm : m ≤ 10) {Post : Int32 → Prop} (h1 : 0 ≤ x.toInt → x.toInt < m → Post 1) (h0 : (x.toInt < 0 ∨ (m : Int) ≤ x.toInt) → Post 0) : wpX4_hasNote x p Post := by
  unfold wpX4_hasNote
  rw [e]
  exact v_ge 0 m (by decide) (nI_toInt (by omega)) h0 h1
theorem m_isNote {x y : Int32} {m : Nat} (e : y = nI m) (hm : m ≤ 10) {Post : Int32 → Prop} (h1 : 0 ≤ x.toInt → x.toInt < m → Post 1) (h0 : (x.toInt < 0 ∨ (m : Int) ≤ x.toInt) → Post 0) : wpX12_in x.toInt64 0 (((y - 1)).toInt64) Post := by
  rw [e]
  exact in_rule 0 ((m : Int) - 1) (by decide) (by rw [wideT, subT (by omega)]) (fun a b => h1 a (by omega)) (fun a => h0 (by omega))
theorem k_hasNotes {x : Int32} {p : St} {m : Nat} (e : p.A 0 1 = nI m) (hm : m ≤ 10) {Post : Int32 → Prop} (h1 : 0 ≤ x.toInt → x.toInt < ((2 ^ m : Nat) : Int) → Post 1) (h0 : (x.toInt < 0 ∨ ((2 ^ m : Nat) : Int) ≤ x.toInt) → Post 0) : wpX4_hasNotes x p Post := by
  unfold wpX4_hasNotes
  rw [e, shl1 m (by omega)]
  exact v_ge 0 ((2 ^ m : Nat) : Int) (by decide) (nI_toInt (p2 hm)) h0 h1
theorem m_areNotes {x : Int32} {y : St} {m : Nat} (e : y.A 4 124 = nI m) (hm : m ≤ 10) {Post : Int32 → Prop} (h1 : 0 ≤ x.toInt → x.toInt < ((2 ^ m : Nat) : Int) → Post 1) (h0 : (x.toInt < 0 ∨ ((2 ^ m : Nat) : Int) ≤ x.toInt) → Post 0) : wpX12_areNotes x y Post := by
  unfold wpX12_areNotes
  rw [e, shl1 m (by omega)]
  exact in_rule 0 (((2 ^ m : Nat) : Int) - 1) (by decide) (by rw [wideT, subT (p2 hm)]) (fun a b => ⟨vb1, h1 a (by omega)⟩) (fun a => ⟨vb0, h0 (by omega)⟩)
theorem k_hasSheets {x : Int32} {p : St} {n : Nat} (e : p.I 3 = nI n) (hn : n ≤ 6) {Post : Int32 → Prop} (h1 : 0 ≤ x.toInt → x.toInt < ((2 ^ n : Nat) : Int) → Post 1) (h0 : (x.toInt < 0 ∨ ((2 ^ n : Nat) : Int) ≤ x.toInt) → Post 0) : wpX4_hasSheets x p Post := by
  unfold wpX4_hasSheets
  rw [e, shl1 n (by omega)]
  exact v_ge 0 ((2 ^ n : Nat) : Int) (by decide) (nI_toInt (p2 (by omega))) h0 h1
theorem m_inSheets {x y : Int32} {n : Nat} (e : y = nI n) (hn : n ≤ 6) {Post : Int32 → Prop} (h1 : 0 ≤ x.toInt → x.toInt < ((2 ^ n : Nat) : Int) → Post 1) (h0 : (x.toInt < 0 ∨ ((2 ^ n : Nat) : Int) ≤ x.toInt) → Post 0) : wpX12_in x.toInt64 0 (((((1 : Int32) <<< (y &&& 31)) - 1)).toInt64) Post := by
  rw [e, shl1 n (by omega)]
  exact in_rule 0 (((2 ^ n : Nat) : Int) - 1) (by decide) (by rw [wideT, subT (p2 (by omega))]) (fun a b => h1 a (by omega)) (fun a => h0 (by omega))
theorem k_isPen {x y : Int32} {Post : Int32 → Prop} (h1 : 0 ≤ x.toInt → x.toInt ≤ 5 → 1 ≤ y.toInt → y.toInt ≤ 9 → Post 1) (h0 : ¬ (0 ≤ x.toInt ∧ x.toInt ≤ 5 ∧ 1 ≤ y.toInt ∧ y.toInt ≤ 9) → Post 0) : wpX11_isPen x y Post := by
  refine v_ge 0 6 (by decide) (by decide) (fun a => h0 (by omega)) (fun a b => ?_)
  exact v_gt 1 9 (by decide) (by decide) (fun c => h0 (by omega)) (fun c d => h1 a (by omega) c d)
theorem m_isPen {x y : Int32} {Post : Int32 → Prop} (h1 : 0 ≤ x.toInt → x.toInt ≤ 5 → 1 ≤ y.toInt → y.toInt ≤ 9 → Post 1) (h0 : ¬ (0 ≤ x.toInt ∧ x.toInt ≤ 5 ∧ 1 ≤ y.toInt ∧ y.toInt ≤ 9) → Post 0) : wpX12_isPen x y Post := by
  refine in_rule 0 5 (by decide) (by decide) (fun a b => b1e ?_) (fun a => b0e (h0 (by omega)))
  exact in_rule 1 9 (by decide) (by decide) (fun c d => b1e (h1 a b c d)) (fun c => b0e (h0 (by omega)))
theorem k_isCells {x : Int32} {Post : Int32 → Prop} (h1 : 0 ≤ x.toInt → x.toInt ≤ 4095 → Post 1) (h0 : (x.toInt < 0 ∨ 4095 < x.toInt) → Post 0) : wpX11_isCells x Post :=
  v_ge 0 4096 (by decide) (by decide) (fun a => h0 (by omega)) (fun a b => h1 a (by omega))
theorem k_isDepth {x : Int32} {Post : Int32 → Prop} (h1 : 0 ≤ x.toInt → x.toInt ≤ 5 → Post 1) (h0 : (x.toInt < 0 ∨ 5 < x.toInt) → Post 0) : wpX11_isDepth x Post :=
  v_ge 0 6 (by decide) (by decide) (fun a => h0 (by omega)) (fun a b => h1 a (by omega))
/-! the force of a pen -/
theorem m_pencil {x y : Int32} {Post : Int32 → Prop} (h : Post (fo0 x y)) : wpX12_pencil x y Post := by
  intro z ez
  subst ez
  unfold fo0 at h
  refine ⟨fun a => ⟨fun b => ?_, fun b => ?_⟩, fun a => ?_⟩
  · rw [if_neg (by rw [fa_lt]; rw [fa_le] at a; omega), if_neg (by rw [fa_lt]; rw [fa_le] at b; omega)] at h
    exact h
  · rw [if_neg (by rw [fa_lt]; rw [fa_le] at a; omega), if_pos (by rw [fa_lt]; rw [fa_le] at b; omega)] at h
    exact h
  · rw [if_pos (by rw [fa_lt]; rw [fa_le] at a; omega)] at h
    exact h
theorem m_force {k : Nat} (hk : k < 6) {x y : Int32} {Post : Int32 → Prop} (h : Post (fo (nI k) x y)) : wpX12_forceOf (nI k) x y Post := by
  rcases (show k = 0 ∨ k = 1 ∨ k = 2 ∨ k = 3 ∨ k = 4 ∨ k = 5 by omega) with rfl | rfl | rfl | rfl | rfl | rfl
  · exact ⟨fun e => absurd rfl e, fun _ => m_pencil h⟩
  · exact ⟨fun _ => ⟨fun _ => m_pencil h, fun e => absurd rfl e⟩, fun e => absurd e (by decide)⟩
  · refine ⟨fun _ => ⟨fun e => absurd e (by decide), fun _ => ⟨fun _ => ⟨fun _ => ⟨fun _ => m_pencil h, fun e => absurd e (by decide)⟩, fun e => absurd e (by decide)⟩, fun e => absurd e (by decide)⟩⟩, fun e => absurd e (by decide)⟩
  · refine ⟨fun _ => ⟨fun e => absurd e (by decide), fun _ => ⟨fun e => absurd rfl e, fun _ => m_pencil h⟩⟩, fun e => absurd e (by decide)⟩
  · refine ⟨fun _ => ⟨fun e => absurd e (by decide), fun _ => ⟨fun _ => ⟨fun _ => ⟨fun e => absurd rfl e, fun _ => ?_⟩, fun e => absurd e (by decide)⟩, fun e => absurd e (by decide)⟩⟩, fun e => absurd e (by decide)⟩
    have h2 : Post (if 1 < y then 0 else fo0 x y / 2) := h
    refine ⟨fun a => m_pencil ?_, fun a => ?_⟩
    · rw [if_neg (by rw [fa_lt]; rw [fa_le] at a; omega)] at h2; exact h2
    · rw [if_pos (by rw [fa_lt]; rw [fa_le] at a; omega)] at h2; exact h2
  · refine ⟨fun _ => ⟨fun e => absurd e (by decide), fun _ => ⟨fun _ => ⟨fun e => absurd rfl e, fun _ => m_pencil h⟩, fun e => absurd e (by decide)⟩⟩, fun e => absurd e (by decide)⟩
theorem m_hasInk {k : Nat} (hk : k < 6) {Post : Int32 → Prop} (h : Post (hink (nI k))) : wpX12_hasInk (nI k) Post := by
  rcases (show k = 0 ∨ k = 1 ∨ k = 2 ∨ k = 3 ∨ k = 4 ∨ k = 5 by omega) with rfl | rfl | rfl | rfl | rfl | rfl
  · exact ⟨fun e => absurd e (by decide), fun _ => ⟨fun e => absurd e (by decide), fun _ => h⟩⟩
  · exact ⟨fun e => absurd e (by decide), fun _ => ⟨fun e => absurd e (by decide), fun _ => h⟩⟩
  · exact ⟨fun e => absurd e (by decide), fun _ => ⟨fun e => absurd e (by decide), fun _ => h⟩⟩
  · exact ⟨fun _ => h, fun e => absurd rfl e⟩
  · exact ⟨fun e => absurd e (by decide), fun _ => ⟨fun e => absurd e (by decide), fun _ => h⟩⟩
  · exact ⟨fun e => absurd e (by decide), fun _ => ⟨fun _ => h, fun e => absurd rfl e⟩⟩
/-! places in the rows -/
theorem k_place {s c : Nat} {Post : Int32 → Prop} (h : Post (nI (2 + 14 * s + c))) : wpX4_placeOf (nI s) (nI c) Post := by
  have e : (((2 : Int32) + (nI s * 14)) + nI c) = nI (2 + 14 * s + c) := by
    show ((nI 2 + nI s * nI 14) + nI c) = _
    rw [pk_mul, nI_add, nI_add]
    congr 1; omega
  unfold wpX4_placeOf
  rw [e]; exact h
theorem k_dentOf {s c : Nat} (hs : s < 6) (hc : c < 12) {p : St} {Post : Int32 → Prop} (h : Post (p.A 0 (4 + 14 * s + c))) : wpX4_dentOf (nI s) (nI c) p Post := by
  unfold wpX4_dentOf
  have e : ((2 : Int32) + nI c) = nI (2 + c) := by show nI 2 + nI c = _; rw [nI_add]
  rw [e]
  refine k_place ⟨vp_in_nI (by omega) (by omega), ?_⟩
  rw [ncl (by omega), show 2 + 14 * s + (2 + c) = 4 + 14 * s + c by omega]
  exact h
theorem k_inkOf {s : Nat} (hs : s < 6) {p : St} {Post : Int32 → Prop} (h : Post (p.A 0 (2 + 14 * s))) : wpX4_inkOf (nI s) p Post := by
  refine k_place (c := 0) ⟨vp_in_nI (by omega) (by omega), ?_⟩
  rw [ncl (by omega)]
  exact h
theorem k_copyOf {s : Nat} (hs : s < 6) {p : St} {Post : Int32 → Prop} (h : Post (p.A 0 (3 + 14 * s))) : wpX4_copyOf (nI s) p Post := by
  refine k_place (c := 1) ⟨vp_in_nI (by omega) (by omega), ?_⟩
  rw [ncl (by omega), show 2 + 14 * s + 1 = 3 + 14 * s by omega]
  exact h
theorem m_dentOf {s c : Nat} (hs : s < 6) (hc : c < 12) {x : St} {Post : Int32 → Prop} (h : Post (x.A 4 (12 + 12 * s + c))) : wpX12_dentOf (nI s) (nI c) x Post := by
  have e : (((12 : Int32) + ((12 : Int32) * nI s)) + nI c) = nI (12 + 12 * s + c) := by
    show ((nI 12 + nI 12 * nI s) + nI c) = _
    rw [pk_mul, nI_add, nI_add]
  unfold wpX12_dentOf
  rw [e, ncl (by omega)]
  exact ⟨vp_in_nI (by omega) (by omega), h⟩
end
section
theorem NowR.got {p x : St} (h : NowR p x) : ∃ n w u : Nat, x.I 0 = nI n ∧ x.I 3 = nI w ∧ x.I 6 = nI u ∧ p.I 4 = x.I 1 ∧ PadN p (x.A 4) (x.A 5) (x.A 2) n w u := by
  obtain ⟨hc, n, w, u, e1, e2, e3, g⟩ := h
  exact ⟨n, w, u, e1, e2, e3, hc, g⟩
/-- the numbers of the pad as it is -/
theorem PadN.nums {p : St} {st ah wo : Nat → Int32} {n w u : Nat} (h : PadN p st ah wo n w u) : p.A 0 0 = nI (tN st) ∧ p.A 0 1 = nI (mN st) ∧ st 125 = nI (tN st) ∧ st 124 = nI (mN st) ∧ tN st ≤ n ∧ mN st ≤ 10 := by
  obtain ⟨⟨r1, r2, -, -⟩, ⟨w1, w2, w3, w4, -, -⟩⟩ := h.cur
  exact ⟨r1.trans w1, r2.trans w3, w1, w3, w2, w4⟩
theorem s_dent {t : Nat → St} {x : St} (h : Rel t x) (x1 x2 : Int32) : SimI (wpX11_dent x1 x2 t) (wpX12_dent x1 x2 x) := by
  unfold SimI wpX11_dent wpX12_dent wjX11_dent_21 wjX12_dent_29 wpX12_bad
  obtain ⟨n, w, u, e1, e2, e3, hc, g⟩ := h.1.got
  have hn6 := g.2.1
  have hI := g.2.2.1
  obtain ⟨⟨r1, r2, r3, r4⟩, hw⟩ := g.cur
  refine k_hasSheet hI hn6 (fun a b => b1e ?_) (fun a => b0e (k_bad ?_))
  · refine v_lt 0 12 (by decide) (by decide) (fun c => k_bad ?_) (fun c d => ?_)
    · refine m_isSheet e1 hn6 (fun _ _ => b1e ?_) (fun a2 => absurd a2 (by omega))
      exact in_rule 0 11 (by decide) (by decide) (fun c1 c2 => absurd c (by omega)) (fun _ => b0e (m_ref0 ⟨rfl, R_bad h⟩))
    · obtain ⟨s, es, hs, _⟩ := toNI a
      obtain ⟨k, ek, hk, _⟩ := toNI c
      subst es; subst ek
      refine k_dentOf (by omega) (by omega) ?_
      refine m_isSheet e1 hn6 (fun _ _ => b1e ?_) (fun a2 => absurd a2 (by omega))
      refine in_rule 0 11 (by decide) (by decide) (fun c1 c2 => b1e ?_) (fun c1 => absurd c1 (by omega))
      refine m_dentOf (by omega) (by omega) ⟨?_, h⟩
      exact (r3 s (by omega)).2.2 k (by omega)
  · exact m_isSheet e1 hn6 (fun a1 a2 => absurd a (by omega)) (fun _ => b0e (m_ref0 ⟨rfl, R_bad h⟩))
theorem s_force {t : Nat → St} {x : St} (h : Rel t x) (x1 x2 x3 : Int32) : SimI (wpX11_force x1 x2 x3 t) (wpX12_force x1 x2 x3 x) := by
  unfold SimI wpX11_force wpX12_force wjX11_force_15 wjX12_force_29 wpX12_bad wpX5_forceOf
  refine k_isPen (fun a b c d => b1e ?_) (fun a => b0e (k_bad ?_))
  · refine k_isDepth (fun e f => b1n ?_) (fun e => b0n (k_bad ?_))
    · refine m_isPen (fun _ _ _ _ => b1e ?_) (fun z => absurd ⟨a, b, c, d⟩ z)
      refine in_rule 0 5 (by decide) (by decide) (fun _ _ => b1e ?_) (fun z => absurd z (by omega))
      obtain ⟨k, ek, hk, _⟩ := toNI a
      subst ek
      exact m_force (by omega) ⟨rfl, h⟩
    · refine m_isPen (fun _ _ _ _ => b1e ?_) (fun z => absurd ⟨a, b, c, d⟩ z)
      exact in_rule 0 5 (by decide) (by decide) (fun _ _ => absurd e (by omega)) (fun z => b0e (m_ref0 ⟨rfl, R_bad h⟩))
  · exact m_isPen (fun a1 a2 a3 a4 => absurd ⟨a1, a2, a3, a4⟩ a) (fun z => b0e (m_ref0 ⟨rfl, R_bad h⟩))
theorem s_carbons {t : Nat → St} {x : St} (h : Rel t x) (x1 : Int32) : SimI (wpX11_carbons x1 t) (wpX12_carbons x1 x) := by
  unfold SimI wpX11_carbons wpX12_carbons wpX12_bad
  obtain ⟨n, w, u, e1, e2, e3, hc, g⟩ := h.1.got
  refine k_hasSheets g.2.2.1 g.2.1 (fun a b => b1n ?_) (fun a => b0n (k_bad ?_))
  · intro r er t2 et
    refine m_inSheets e1 g.2.1 (fun _ _ => b1n ?_) (fun a2 => absurd a2 (by omega))
    intro r' er' x2 ex
    subst et; subst ex
    exact ⟨by rw [er, er', hc], ⟨rfl, n, w, u, e1, e2, e3, g⟩, h.2⟩
  · exact m_inSheets e1 g.2.1 (fun a1 a2 => absurd a (by omega)) (fun _ => b0n (m_ref0 ⟨rfl, R_bad h⟩))
theorem s_word {t : Nat → St} {x : St} (h : Rel t x) (x1 : Int32) : SimI (wpX11_word x1 t) (wpX12_word x1 x) := by
  unfold SimI wpX11_word wpX12_word wpX12_bad
  obtain ⟨n, w, u, e1, e2, e3, hc, g⟩ := h.1.got
  have g0 := g
  obtain ⟨g1, g2, g3, g4, g5, g6, g7, g8, g9, g10⟩ := g
  refine k_isCells (fun a b => b1n ?_) (fun a => b0n (k_bad ?_))
  · rw [g5]
    refine pk_lt w 8 (fun hw => ?_) (fun hw => k_full ?_)
    · refine ⟨pk_in w 8 hw, fun t3 e3' t4 e4 => ?_⟩
      rw [ncl (by omega)] at e3'
      refine in_rule 0 4095 (by decide) (by decide) (fun _ _ => b1n ?_) (fun z => absurd z (by omega))
      rw [e2]
      refine ⟨fun _ => ⟨pk_in w 8 hw, fun p2 e5 p3 e6 => ?_⟩, fun e => absurd ((nI_eq (by omega) (by omega)).mp (show nI w = nI 8 from e)) (by omega)⟩
      rw [ncl (by omega)] at e5
      subst e3'; subst e4; subst e5; subst e6
      have z1 : (t 2).I 11 + 1 = nI (w + 1) := by rw [g5]; exact nI_1 w
      have z2 : x.I 3 + 1 = nI (w + 1) := by rw [e2]; exact nI_1 w
      obtain ⟨j, ej, hj, _⟩ := toNI a
      refine ⟨?_, ⟨hc, n, w + 1, u, e1, z2, e3, g1, g2, g3, by omega, z1, g6, g7, fun i hi => ?_, g9, g10⟩, h.2⟩
      · show (t 2).I 11 + 1 - 1 = x.I 3 + 1 - 1
        rw [z1, z2]
      · show upd ((t 2).A 10) w x1 i = upd (x.A 2) w x1 i ∧ ∃ c, c < 4096 ∧ upd (x.A 2) w x1 i = nI c
        unfold upd
        by_cases hiw : i = w
        · rw [if_pos hiw, if_pos hiw]
          exact ⟨rfl, j, by omega, ej⟩
        · rw [if_neg hiw, if_neg hiw]
          exact g8 i (by omega)
    · refine in_rule 0 4095 (by decide) (by decide) (fun _ _ => b1n ?_) (fun z => absurd z (by omega))
      have e9 : w = 8 := by omega
      subst e9
      exact ⟨fun e => absurd e2 e, fun _ => m_ref2 ⟨rfl, R_full h⟩⟩
  · exact in_rule 0 4095 (by decide) (by decide) (fun a1 a2 => absurd a (by omega)) (fun _ => b0n (m_ref0 ⟨rfl, R_bad h⟩))
theorem k_top {p : St} {Post : Int32 → Prop} (h : Post (p.A 0 0)) : wpX4_top p Post := h
theorem k_noteCount {p : St} {Post : Int32 → Prop} (h : Post (p.A 0 1)) : wpX4_noteCount p Post := h
theorem s_count {t : Nat → St} {x : St} (h : Rel t x) (x1 : Int32) : SimI (wpX11_count x1 t) (wpX12_count x1 x) := by
  unfold SimI wpX11_count wpX12_count wjX11_count_10 wpX12_bad
  obtain ⟨n, w, u, e1, e2, e3, hc, g⟩ := h.1.got
  obtain ⟨b, hb, r1, r2, hk⟩ := h.2.2.1
  obtain ⟨q0, q1, q2, q3, -, -⟩ := g.nums
  refine v_le 0 6 (by decide) (by decide) (fun a => k_bad ?_) (fun a b => ?_)
  · exact in_rule 0 6 (by decide) (by decide) (fun a1 a2 => absurd a (by omega)) (fun _ => b0e (m_ref0 ⟨rfl, R_bad h⟩))
  · obtain ⟨j, ej, hj, _⟩ := toNI a
    have key : ∀ r : Int32, wpX12_countOf x1 x (fun r4 => r = r4 ∧ Rel t x) → wpX12_in x1.toInt64 0 6 (fun (r1 : Int32) => ((r1 = 0) → wpX12_refuse 0 (-2) x (fun (r1 : Int32) (p2 : St) => r = r1 ∧ Rel t p2)) ∧ ((¬ r1 = 0) → wpX12_countOf x1 x (fun (r4 : Int32) => r = r4 ∧ Rel t x))) := fun r hr => in_rule 0 6 (by decide) (by decide) (fun _ _ => b1e hr) (fun z => absurd z (by omega))
    rcases (show j = 0 ∨ j = 1 ∨ j = 2 ∨ j = 3 ∨ j = 4 ∨ j = 5 ∨ j = 6 by omega) with rfl | rfl | rfl | rfl | rfl | rfl | rfl <;> subst ej
    · exact ⟨fun _ => key _ ⟨fun z => absurd rfl z, fun _ => ⟨by rw [g.2.2.1, e1], h⟩⟩, fun e => absurd e (by decide), fun e => absurd e (by decide), fun e => absurd e (by decide), fun e => absurd e (by decide), fun e => absurd e (by decide), fun e => absurd rfl e⟩
    · exact ⟨fun e => absurd e (by decide), fun _ => key _ ⟨fun _ => ⟨fun z => absurd rfl z, fun _ => ⟨by rw [q0, q2], h⟩⟩, fun e => absurd e (by decide)⟩, fun e => absurd e (by decide), fun e => absurd e (by decide), fun e => absurd e (by decide), fun e => absurd e (by decide), fun _ e => absurd rfl e⟩
    · exact ⟨fun e => absurd e (by decide), fun e => absurd e (by decide), fun _ => key _ ⟨fun _ => ⟨fun _ => ⟨fun z => absurd rfl z, fun _ => ⟨by rw [q1, q3], h⟩⟩, fun e => absurd e (by decide)⟩, fun e => absurd e (by decide)⟩, fun e => absurd e (by decide), fun e => absurd e (by decide), fun e => absurd e (by decide), fun _ _ e => absurd rfl e⟩
    · exact ⟨fun e => absurd e (by decide), fun e => absurd e (by decide), fun e => absurd e (by decide), fun _ => key _ ⟨fun _ => ⟨fun _ => ⟨fun _ => ⟨fun z => absurd rfl z, fun _ => ⟨by rw [g.2.2.2.2.1, e2], h⟩⟩, fun e => absurd e (by decide)⟩, fun e => absurd e (by decide)⟩, fun e => absurd e (by decide)⟩, fun e => absurd e (by decide), fun e => absurd e (by decide), fun _ _ _ e => absurd rfl e⟩
    · exact ⟨fun e => absurd e (by decide), fun e => absurd e (by decide), fun e => absurd e (by decide), fun e => absurd e (by decide), fun _ => key _ ⟨fun _ => ⟨fun _ => ⟨fun _ => ⟨fun _ => ⟨fun z => absurd rfl z, fun _ => ⟨hc, h⟩⟩, fun e => absurd e (by decide)⟩, fun e => absurd e (by decide)⟩, fun e => absurd e (by decide)⟩, fun e => absurd e (by decide)⟩, fun e => absurd e (by decide), fun _ _ _ _ e => absurd rfl e⟩
    · exact ⟨fun e => absurd e (by decide), fun e => absurd e (by decide), fun e => absurd e (by decide), fun e => absurd e (by decide), fun e => absurd e (by decide), fun _ => key _ ⟨fun _ => ⟨fun _ => ⟨fun _ => ⟨fun _ => ⟨fun _ => ⟨fun z => absurd rfl z, fun _ => ⟨by rw [g.2.2.2.2.2.2.1, e3], h⟩⟩, fun e => absurd e (by decide)⟩, fun e => absurd e (by decide)⟩, fun e => absurd e (by decide)⟩, fun e => absurd e (by decide)⟩, fun e => absurd e (by decide)⟩, fun _ _ _ _ _ e => absurd rfl e⟩
    · exact ⟨fun e => absurd e (by decide), fun e => absurd e (by decide), fun e => absurd e (by decide), fun e => absurd e (by decide), fun e => absurd e (by decide), fun e => absurd e (by decide), fun _ _ _ _ _ _ => key _ ⟨fun _ => ⟨fun _ => ⟨fun _ => ⟨fun _ => ⟨fun _ => ⟨fun _ => ⟨by rw [r1, r2], h⟩, fun e => absurd e (by decide)⟩, fun e => absurd e (by decide)⟩, fun e => absurd e (by decide)⟩, fun e => absurd e (by decide)⟩, fun e => absurd e (by decide)⟩, fun e => absurd e (by decide)⟩⟩
end
section
/-! one bit of a set -/
theorem has_bit {n c : Nat} (hn : n < 2 ^ 31) (hc : c < 32) : (nI n >>> (nI c &&& 31)) &&& 1 = nI (n / 2 ^ c % 2) := by
  rw [pk_shrN hn (nI c &&& 31) c (s_l c hc)]
  have h : n / 2 ^ c < 2 ^ 32 := Nat.lt_of_le_of_lt (Nat.div_le_self _ _) (by omega)
  exact pk_andN h (m := 1) 1 (by decide)
theorem tb_iff (n c : Nat) : n.testBit c = true ↔ n / 2 ^ c % 2 = 1 := by
  rw [Nat.testBit_eq_decide_div_mod_eq]
  simp
theorem has_0 {n c : Nat} (hn : n < 2 ^ 31) (hc : c < 32) : (nI n >>> (nI c &&& 31)) &&& 1 = 0 ↔ n.testBit c = false := by
  rw [has_bit hn hc]
  have h2 : n / 2 ^ c % 2 < 2 := Nat.mod_lt _ (by decide)
  have e : (nI (n / 2 ^ c % 2) = 0) ↔ n / 2 ^ c % 2 = 0 := nI_eq (b := 0) (by omega) (by decide)
  rw [e]
  cases hb : n.testBit c with
  | true => rw [tb_iff] at hb; simp; omega
  | false =>
    have : ¬ n / 2 ^ c % 2 = 1 := fun q => by rw [← tb_iff] at q; rw [hb] at q; cases q
    simp; omega
theorem has_1 {n c : Nat} (hn : n < 2 ^ 31) (hc : c < 32) : (nI n >>> (nI c &&& 31)) &&& 1 = 1 ↔ n.testBit c = true := by
  rw [has_bit hn hc]
  have h2 : n / 2 ^ c % 2 < 2 := Nat.mod_lt _ (by decide)
  have e : (nI (n / 2 ^ c % 2) = 1) ↔ n / 2 ^ c % 2 = 1 := nI_eq (b := 1) (by omega) (by decide)
  rw [e, tb_iff]
theorem m_has {n c : Nat} (hn : n < 2 ^ 31) (hc : c < 32) {Post : Int32 → Prop} (h1 : n.testBit c = true → Post 1) (h0 : n.testBit c = false → Post 0) : wpX12_has (nI n) (nI c) Post := by
  unfold wpX12_has
  rw [has_1 hn hc]
  refine ⟨fun h => h0 (by simpa using h), fun h => h1 h⟩
theorem bt_one : ∀ j, j < 32 → bt 1 j = decide (j = 0) := by decide +kernel
theorem bt_shl1 {n i : Nat} (hn : n < 32) (hi : i < 32) : bt ((1 : Int32) <<< (nI n &&& 31)) i = decide (i = n) := by
  rw [b_shl n hn 1 hi]
  by_cases h : n ≤ i
  · rw [bt_one (i - n) (by omega)]
    simp [h]
    by_cases h2 : i = n
    · simp [h2]
    · simp [h2]; omega
  · simp [h]; omega
theorem bt_nI {n i : Nat} (hi : i < 32) : bt (nI n) i = n.testBit i := by
  unfold bt
  show (BitVec.ofNat 32 n).getLsbD i = _
  rw [BitVec.getLsbD_ofNat]
  simp [hi]
theorem bt_bitsN (P : Nat → Bool) : ∀ (n : Nat), n ≤ 32 → ∀ i, i < 32 → bt (bitsN P n) i = (decide (i < n) && P i)
  | 0, _, i, _ => by simp [bitsN, b_0]
  | n + 1, hn, i, hi => by
    unfold bitsN
    have ih := bt_bitsN P n (by omega) i hi
    by_cases hP : P n = true
    · rw [if_pos hP, b_or, ih, bt_shl1 (by omega) hi]
      by_cases h : i = n
      · subst h; simp [hP]
      · by_cases h2 : i < n
        · simp [h2, h, show i < n + 1 by omega]
        · simp [h2, h, show ¬ i < n + 1 by omega]
    · rw [if_neg hP, ih]
      by_cases h : i = n
      · subst h; simp [hP]
      · by_cases h2 : i < n
        · simp [h2, show i < n + 1 by omega]
        · simp [h2, show ¬ i < n + 1 by omega]
/-! forces -/
def foN (k x y : Nat) : Nat := (fo (nI k) (nI x) (nI y)).toNatClampNeg
theorem fo_all : ∀ k, k < 6 → ∀ x, x < 10 → ∀ y, y < 6 → fo (nI k) (nI x) (nI y) = nI (foN k x y) ∧ foN k x y ≤ 9 := by decide +kernel
def fOn (st : Nat → Int32) (s k : Nat) : Int32 := if onN st k ≤ s then fo (st (84 + 4 * k)) (st (85 + 4 * k)) (nI (s - onN st k)) else 0
def fOnN (st : Nat → Int32) (s k : Nat) : Nat := if onN st k ≤ s then foN (kN st k) (prN st k) (s - onN st k) else 0
theorem fOn_N {st : Nat → Int32} {n s k : Nat} (g : GN st n k) (hs : s < 6) : fOn st s k = nI (fOnN st s k) ∧ fOnN st s k ≤ 9 := by
  obtain ⟨g1, g2, g3, g4, g5, -⟩ := g
  unfold fOn fOnN
  by_cases h : onN st k ≤ s
  · rw [if_pos h, if_pos h, g1, g3]
    exact fo_all _ g2 _ (by omega) _ (by omega)
  · rw [if_neg h, if_neg h]
    exact ⟨rfl, by omega⟩
theorem frc_eq (st : Nat → Int32) (s c k : Nat) : frc st s c k = if (ceN st k).testBit c = true then fOn st s k else 0 := by
  unfold frc fOn
  by_cases h1 : onN st k ≤ s <;> by_cases h2 : (ceN st k).testBit c = true <;> simp [h1, h2]
theorem k_forceOn {p : St} {pg st : Nat → Int32} {n k s : Nat} (hR : RP pg p st) (hW : WF st n) (hn : n ≤ 6) (hk : k < mN st) (hs : s < 6) {Post : Int32 → Prop} (h : Post (fOn st s k)) : wpX4_forceOn (nI k) (nI s) p Post := by
  have hm := hW.2.2.2.1
  obtain ⟨g1, g2, g3, g4, g5, g6, g7, g8, g9, g10⟩ := hW.2.2.2.2.1 k hk
  obtain ⟨r1, r2, r3, r4, r5⟩ := hR.2.2.2 k hk
  refine ⟨vp_in_nI (by omega) (by omega), ?_⟩
  rw [ncl (by omega), r4, g8]
  unfold wpX4_forceDown
  unfold fOn at h
  by_cases ho : onN st k ≤ s
  · rw [if_pos ho] at h
    rw [pk_sub ho]
    have e : (nI k * 6 + nI (s - onN st k)) = nI (6 * k + (s - onN st k)) := by
      show nI k * nI 6 + _ = _
      rw [pk_mul, nI_add]; congr 1; omega
    refine ⟨fun z => absurd z (nI_pos (by omega)), fun _ => ⟨fun _ => ?_, fun z => absurd (nI_lt (a := s - onN st k) (b := 6) (by omega) (by decide)) z⟩⟩
    rw [e, ncl (by omega), r5 _ (by omega)]
    exact ⟨vp_in_nI (by omega) (by omega), h⟩
  · rw [if_neg ho] at h
    exact ⟨fun _ => h, fun z => absurd (pk_sneg (by omega) (by omega)) z⟩
theorem m_forceIn {x : St} {n k s c : Nat} (hW : WF (x.A 4) n) (hn : n ≤ 6) (hk : k < mN (x.A 4)) (hs : s < 6) (hc : c < 12) {Post : Int32 → Prop} (h : Post (frc (x.A 4) s c k)) : wpX12_forceIn (nI k) (nI s) (nI c) x Post := by
  have hm := hW.2.2.2.1
  obtain ⟨g1, g2, g3, g4, g5, g6, g7, g8, g9, g10⟩ := hW.2.2.2.2.1 k hk
  have e0 : ((84 : Int32) + ((4 : Int32) * nI k)) = nI (84 + 4 * k) := by
    show nI 84 + nI 4 * nI k = _
    rw [pk_mul, nI_add]
  have e1 : nI (84 + 4 * k) + 1 = nI (85 + 4 * k) := by show _ + nI 1 = _; rw [nI_add]; congr 1; omega
  have e2 : nI (84 + 4 * k) + 2 = nI (86 + 4 * k) := by show _ + nI 2 = _; rw [nI_add]; congr 1; omega
  have e3 : nI (84 + 4 * k) + 3 = nI (87 + 4 * k) := by show _ + nI 3 = _; rw [nI_add]; congr 1; omega
  intro z ez
  rw [e0] at ez
  subst ez
  rw [e3, ncl (by omega), g8]
  refine ⟨vp_in_nI (by omega) (by omega), ?_⟩
  intro z ez
  unfold frc at h
  by_cases ho : onN (x.A 4) k ≤ s
  · rw [pk_sub ho] at ez
    subst ez
    refine ⟨fun q => absurd q (nI_pos (by omega)), fun _ => ?_⟩
    rw [e2, ncl (by omega), g6]
    refine ⟨vp_in_nI (by omega) (by omega), m_has (by omega) (by omega) (fun hb => b1e ?_) (fun hb => b0e ?_)⟩
    · rw [if_pos ⟨ho, hb⟩] at h
      rw [e1, ncl (by omega), ncl (by omega)]
      refine ⟨vp_in_nI (by omega) (by omega), vp_in_nI (by omega) (by omega), ?_⟩
      rw [g1] at h ⊢
      exact m_force g2 h
    · rw [if_neg (fun q => by rw [hb] at q; exact absurd q.2 (by decide))] at h
      exact h
  · rw [if_neg (fun q => ho q.1)] at h
    subst ez
    exact ⟨fun _ => h, fun q => absurd (pk_sneg (by omega) (by omega)) q⟩
end
section
theorem k_writtenOn {p : St} {x1 : Int32} {m : Nat} (em : p.A 0 1 = nI m) (hm : m ≤ 10) {Post : Int32 → Prop} (h : Post (bitsN (fun k => decide (p.A 8 k = x1)) m)) : wpX4_writtenOn x1 p Post := by
  refine for_rule (F := fun self x => wlX4_writtenOn_4 p Post _ self x.1 x.2.1 x.2.2) m (fun i => (x1, bitsN (fun k => decide (p.A 8 k = x1)) i, nI i)) ?_ ?_
  · intro self i hi hs
    show wlX4_writtenOn_4 p Post _ self x1 (bitsN _ i) (nI i)
    unfold wlX4_writtenOn_4
    rw [em, ncl (by omega)]
    refine ⟨fun z => absurd z (nI_ge hi (by omega)), fun _ => ⟨vp_in_nI (by omega) (by omega), fun hne z ez => ?_, fun he y ey z ez => ?_⟩⟩
    · subst ez
      rw [nI_1]
      unfold bitsN at hs
      rw [if_neg (by simpa using hne)] at hs
      exact hs
    · subst ez; subst ey
      rw [nI_1]
      unfold bitsN at hs
      rw [if_pos (by simpa using he)] at hs
      exact hs
  · intro self
    show wlX4_writtenOn_4 p Post _ self x1 (bitsN _ m) (nI m)
    unfold wlX4_writtenOn_4
    rw [em]
    exact ⟨fun _ => h, fun z => absurd (nI_le (Nat.le_refl m) (by omega)) z⟩
theorem m_writtenOn {p : St} {x1 : Int32} {m : Nat} (em : p.A 4 124 = nI m) (hm : m ≤ 10) {Post : Int32 → Prop} (h : Post (bitsN (fun k => decide (p.A 4 (87 + 4 * k) = x1)) m)) : wpX12_writtenOn x1 p Post := by
  refine for_rule (F := fun self x => wlX12_writtenOn_4 p Post _ self x.1 x.2.1 x.2.2) m (fun i => (x1, bitsN (fun k => decide (p.A 4 (87 + 4 * k) = x1)) i, nI i)) ?_ ?_
  · intro self i hi hs
    show wlX12_writtenOn_4 p Post _ self x1 (bitsN _ i) (nI i)
    have e : (((84 : Int32) + ((4 : Int32) * nI i)) + 3) = nI (87 + 4 * i) := by
      show (nI 84 + nI 4 * nI i) + nI 3 = _
      rw [pk_mul, nI_add, nI_add]; congr 1; omega
    unfold wlX12_writtenOn_4
    rw [em, e, ncl (by omega)]
    refine ⟨fun z => absurd z (nI_ge hi (by omega)), fun _ => ⟨vp_in_nI (by omega) (by omega), fun hne y ey z ez => ?_, fun he y ey z ez => ?_⟩⟩
    · subst ez; subst ey
      rw [nI_1, or_0]
      unfold bitsN at hs
      rw [if_neg (by simpa using hne)] at hs
      exact hs
    · subst ez; subst ey
      rw [nI_1]
      unfold bitsN at hs
      rw [if_pos (by simpa using he)] at hs
      exact hs
  · intro self
    show wlX12_writtenOn_4 p Post _ self x1 (bitsN _ m) (nI m)
    unfold wlX12_writtenOn_4
    rw [em]
    exact ⟨fun _ => h, fun z => absurd (nI_le (Nat.le_refl m) (by omega)) z⟩
theorem s_of {t : Nat → St} {x : St} (h : Rel t x) (x1 x2 : Int32) : SimI (wpX11_of x1 x2 t) (wpX12_of x1 x2 x) := by
  obtain ⟨n, w, u, e1, e2, e3, hc, g⟩ := h.1.got
  have hn6 := g.2.1
  obtain ⟨q0, q1, q2, q3, q4, q5⟩ := g.nums
  obtain ⟨⟨r1, r2, r3, r4⟩, hw⟩ := g.cur
  unfold SimI wpX11_of wpX12_of wpX12_badLess
  refine k_hasSheet g.2.2.1 hn6 (fun a b => b1n ?_) (fun a => b0n (k_bad ?_))
  · obtain ⟨s, es, hs, _⟩ := toNI a
    subst es
    refine ⟨fun e => ?_, fun e => ?_, fun e => ?_, fun e => ?_, fun z0 z1 z2 z3 => k_bad ?_⟩
    · subst e
      refine k_inkOf (by omega) ?_
      refine m_isSheet e1 hn6 (fun _ _ => b1n ⟨fun _ => ?_, fun e => absurd e (by decide), fun e => absurd e (by decide), fun e => absurd e (by decide), fun e => absurd rfl e⟩) (fun z => absurd z (by omega))
      have e : ((0 : Int32) + nI s) = nI s := by show nI 0 + nI s = _; rw [nI_add]; congr 1; omega
      rw [e, ncl (by omega)]
      exact ⟨vp_in_nI (by omega) (by omega), (r3 s (by omega)).1, h⟩
    · subst e
      refine k_copyOf (by omega) ?_
      refine m_isSheet e1 hn6 (fun _ _ => b1n ⟨fun e => absurd e (by decide), fun _ => ?_, fun e => absurd e (by decide), fun e => absurd e (by decide), fun _ e => absurd rfl e⟩) (fun z => absurd z (by omega))
      have e : ((6 : Int32) + nI s) = nI (6 + s) := by show nI 6 + nI s = _; rw [nI_add]
      rw [e, ncl (by omega)]
      exact ⟨vp_in_nI (by omega) (by omega), (r3 s (by omega)).2.1, h⟩
    · subst e
      have key : ∀ r : Int32, ((nI (tN (x.A 4)) ≤ nI s → r = nI s - nI (tN (x.A 4))) ∧ (¬ nI (tN (x.A 4)) ≤ nI s → r = -1)) → wpX12_isSheet (nI s) x (fun (r1 : Int32) => ((¬ r1 = 0) → ((2 : Int32) = 0 → vp_in ((0 : Int32) + (nI s)) 126 ∧ r = ((x.A 4) ((0 : Int32) + (nI s)).toNatClampNeg) ∧ Rel t x) ∧ ((2 : Int32) = 1 → vp_in ((6 : Int32) + (nI s)) 126 ∧ r = ((x.A 4) ((6 : Int32) + (nI s)).toNatClampNeg) ∧ Rel t x) ∧ ((2 : Int32) = 2 → ((((x.A 4) 125) ≤ (nI s)) → r = ((nI s) - ((x.A 4) 125)) ∧ Rel t x) ∧ ((¬ ((x.A 4) 125) ≤ (nI s)) → r = (-1) ∧ Rel t x)) ∧ ((2 : Int32) = 3 → wpX12_writtenOn (nI s) x (fun (r2 : Int32) => r = r2 ∧ Rel t x)) ∧ (¬ (2 : Int32) = 0 → ¬ (2 : Int32) = 1 → ¬ (2 : Int32) = 2 → ¬ (2 : Int32) = 3 → wpX12_refuse 0 (-10) x (fun (r3 : Int32) (p4 : St) => r = r3 ∧ Rel t p4))) ∧ ((r1 = 0) → wpX12_refuse 0 (-10) x (fun (r5 : Int32) (p6 : St) => r = r5 ∧ Rel t p6))) := by
        intro r hr
        refine m_isSheet e1 hn6 (fun _ _ => b1n ⟨fun e => absurd e (by decide), fun e => absurd e (by decide), fun _ => ?_, fun e => absurd e (by decide), fun _ _ e => absurd rfl e⟩) (fun z => absurd z (by omega))
        rw [q2]
        exact ⟨fun z => ⟨hr.1 z, h⟩, fun z => ⟨hr.2 z, h⟩⟩
      refine k_top ?_
      rw [q0]
      refine ⟨fun z => k_top ?_, fun z => ?_⟩
      · rw [q0]
        exact key _ ⟨fun _ => rfl, fun z2 => absurd z z2⟩
      · exact key _ ⟨fun z2 => absurd z2 z, fun _ => rfl⟩
    · subst e
      refine k_writtenOn q1 q5 ?_
      refine m_isSheet e1 hn6 (fun _ _ => b1n ⟨fun e => absurd e (by decide), fun e => absurd e (by decide), fun e => absurd e (by decide), fun _ => ?_, fun _ _ _ e => absurd rfl e⟩) (fun z => absurd z (by omega))
      refine m_writtenOn q3 q5 ⟨bitsN_cong (fun k hk => ?_), h⟩
      rw [(r4 k hk).2.2.2.1]
    · exact m_isSheet e1 hn6 (fun _ _ => b1n ⟨fun e => absurd e z0, fun e => absurd e z1, fun e => absurd e z2, fun e => absurd e z3, fun _ _ _ _ => m_ref0 ⟨rfl, R_bad h⟩⟩) (fun z => absurd z (by omega))
  · exact m_isSheet e1 hn6 (fun a1 a2 => absurd a (by omega)) (fun _ => b0n (m_ref0 ⟨rfl, R_bad h⟩))
theorem k_atLeast {p : St} {s : Nat} {q : Int32} (hs : s < 6) {Post : Int32 → Prop} (h : Post (bitsN (fun c => decide (¬ p.A 0 (4 + 14 * s + c) < q)) 12)) : wpX4_dentedAtLeast (nI s) q p Post := by
  refine for_rule (F := fun self x => wlX4_dentedAtLeast_5 p Post _ self x.1 x.2.1 x.2.2.1 x.2.2.2) 12 (fun i => (nI s, q, bitsN (fun c => decide (¬ p.A 0 (4 + 14 * s + c) < q)) i, nI i)) ?_ ?_
  · intro self i hi hself
    show wlX4_dentedAtLeast_5 p Post _ self (nI s) q (bitsN _ i) (nI i)
    unfold wlX4_dentedAtLeast_5
    refine ⟨fun z => absurd z (nI_ge (b := 12) hi (by decide)), fun _ => k_dentOf hs hi ⟨fun hlt z ez => ?_, fun hge y ey z ez => ?_⟩⟩
    · subst ez
      rw [nI_1]
      unfold bitsN at hself
      rw [if_neg (by simpa using hlt)] at hself
      exact hself
    · subst ez; subst ey
      rw [nI_1]
      unfold bitsN at hself
      rw [if_pos (by simpa using hge)] at hself
      exact hself
  · intro self
    dsimp only
    unfold wlX4_dentedAtLeast_5
    exact ⟨fun _ => h, fun z => absurd (nI_le (a := 12) (b := 12) (by decide) (by decide)) z⟩
theorem m_shown {x : St} {s : Nat} {q : Int32} (hs : s < 6) {Post : Int32 → St → Prop} {KX : Int32 → St → Prop} (h : KX (bitsN (fun c => decide (¬ x.A 4 (12 + 12 * s + c) < q)) 12) x) : ∃ n, wLX12_shown_30 Post KX n (nI s, q, 0, 0, x) := by
  refine for_rule (F := fun self z => wlX12_shown_30 Post KX self z.1 z.2.1 z.2.2.1 z.2.2.2.1 z.2.2.2.2) 12 (fun i => (nI s, q, bitsN (fun c => decide (¬ x.A 4 (12 + 12 * s + c) < q)) i, nI i, x)) ?_ ?_
  · intro self i hi hself
    show wlX12_shown_30 Post KX self (nI s) q (bitsN _ i) (nI i) x
    unfold wlX12_shown_30
    refine ⟨fun z => absurd z (nI_ge (b := 12) hi (by decide)), fun _ => m_dentOf hs hi ⟨fun hlt y ey z ez => ?_, fun hge y ey z ez => ?_⟩⟩
    · subst ez; subst ey
      rw [nI_1, or_0]
      unfold bitsN at hself
      rw [if_neg (by simpa using hlt)] at hself
      exact hself
    · subst ez; subst ey
      rw [nI_1]
      unfold bitsN at hself
      rw [if_pos (by simpa using hge)] at hself
      exact hself
  · intro self
    dsimp only
    unfold wlX12_shown_30
    exact ⟨fun _ => h, fun z => absurd (nI_le (a := 12) (b := 12) (by decide) (by decide)) z⟩
theorem s_shown {t : Nat → St} {x : St} (h : Rel t x) (x1 x2 : Int32) : SimI (wpX11_shown x1 x2 t) (wpX12_shown x1 x2 x) := by
  obtain ⟨n, w, u, e1, e2, e3, hc, g⟩ := h.1.got
  have hn6 := g.2.1
  obtain ⟨⟨r1, r2, r3, r4⟩, hw⟩ := g.cur
  unfold SimI wpX11_shown wpX12_shown wjX11_shown_22 wjX12_shown_20 wpX12_bad
  refine k_hasSheet g.2.2.1 hn6 (fun a b => b1e ?_) (fun a => b0e (k_bad ?_))
  · obtain ⟨s, es, hs, _⟩ := toNI a
    subst es
    refine v_le 1 9 (by decide) (by decide) (fun c => k_bad ?_) (fun c d => ?_)
    · refine m_isSheet e1 hn6 (fun _ _ => b1e ?_) (fun z => absurd z (by omega))
      exact in_rule 1 9 (by decide) (by decide) (fun c1 c2 => absurd c (by omega)) (fun _ => b0n (m_ref0 ⟨rfl, R_bad h⟩))
    · refine k_atLeast (by omega) ?_
      refine m_isSheet e1 hn6 (fun _ _ => b1e ?_) (fun z => absurd z (by omega))
      refine in_rule 1 9 (by decide) (by decide) (fun _ _ => b1n ?_) (fun z => absurd z (by omega))
      refine m_shown (by omega) ⟨bitsN_cong (fun k hk => ?_), h⟩
      rw [(r3 s (by omega)).2.2 k hk]
  · exact m_isSheet e1 hn6 (fun a1 a2 => absurd a (by omega)) (fun _ => b0e (m_ref0 ⟨rfl, R_bad h⟩))
end
section
/-- the cells that note k dents in a sheet -/
def cd (st : Nat → Int32) (s k : Nat) : Int32 := if 0 < fOn st s k then st (86 + 4 * k) else 0
theorem k_cellsDented {p : St} {pg st : Nat → Int32} {n k s : Nat} (hR : RP pg p st) (hW : WF st n) (hn : n ≤ 6) (hk : k < mN st) (hs : s < 6) {Post : Int32 → Prop} (h : Post (cd st s k)) : wpX4_cellsDented (nI k) (nI s) p Post := by
  have hm := hW.2.2.2.1
  unfold wpX4_cellsDented
  refine k_forceOn hR hW hn hk hs ?_
  unfold cd at h
  refine ⟨fun z => ?_, fun z => ?_⟩
  · rw [if_neg (by rw [fa_lt]; rw [fa_le] at z; omega)] at h
    exact h
  · rw [if_pos (by rw [fa_lt]; rw [fa_le] at z; omega)] at h
    rw [ncl (by omega), (hR.2.2.2 k hk).2.2.1]
    exact ⟨vp_in_nI (by omega) (by omega), h⟩
theorem k_dentedBy {p : St} {st : Nat → Int32} {n s : Nat} (hR : RP (p.A 0) p st) (hW : WF st n) (hn : n ≤ 6) (hs : s < 6) {Post : Int32 → Prop} (h : Post (bitsN (fun k => decide (¬ cd st s k = 0)) (mN st))) : wpX4_dentedBy (nI s) p Post := by
  have em : p.A 0 1 = nI (mN st) := hR.2.1.trans hW.2.2.1
  have hm := hW.2.2.2.1
  refine for_rule (F := fun self x => wlX4_dentedBy_4 p Post _ self x.1 x.2.1 x.2.2) (mN st) (fun i => (nI s, bitsN (fun k => decide (¬ cd st s k = 0)) i, nI i)) ?_ ?_
  · intro self i hi hself
    dsimp only
    unfold wlX4_dentedBy_4
    rw [em]
    refine ⟨fun z => absurd z (nI_ge hi (by omega)), fun _ => k_cellsDented hR hW hn hi hs ⟨fun he z ez => ?_, fun hne y ey z ez => ?_⟩⟩
    · subst ez
      rw [nI_1]
      unfold bitsN at hself
      rw [if_neg (by simpa using he)] at hself
      exact hself
    · subst ez; subst ey
      rw [nI_1]
      unfold bitsN at hself
      rw [if_pos (by simpa using hne)] at hself
      exact hself
  · intro self
    dsimp only
    unfold wlX4_dentedBy_4
    rw [em]
    exact ⟨fun _ => h, fun z => absurd (nI_le (Nat.le_refl _) (by omega)) z⟩
/-- the model's row of bits, cell by cell -/
def wsum (st : Nat → Int32) (s : Nat) : Nat → Int32
  | 0 => 0
  | i + 1 => if 0 < frc st s (i % 12) (i / 12) then wsum st s i ||| ((1 : Int32) <<< (nI (i / 12) &&& 31)) else wsum st s i
theorem wsum_s (st : Nat → Int32) (s i : Nat) : wsum st s (i + 1) = if 0 < frc st s (i % 12) (i / 12) then wsum st s i ||| ((1 : Int32) <<< (nI (i / 12) &&& 31)) else wsum st s i := rfl
theorem bitsN_s (P : Nat → Bool) (n : Nat) : bitsN P (n + 1) = if P n then bitsN P n ||| ((1 : Int32) <<< (nI n &&& 31)) else bitsN P n := rfl
theorem or_or (x y : Int32) : x ||| y ||| y = x ||| y := by
  apply b_ext
  intro i _
  rw [b_or, b_or]
  cases bt x i <;> cases bt y i <;> rfl
theorem wsum_in (st : Nat → Int32) (s k : Nat) : ∀ c, c ≤ 12 → wsum st s (12 * k + c) = if ∃ b, b < c ∧ 0 < frc st s b k then wsum st s (12 * k) ||| ((1 : Int32) <<< (nI k &&& 31)) else wsum st s (12 * k)
  | 0, _ => by
    rw [if_neg (fun ⟨b, hb, _⟩ => absurd hb (Nat.not_lt_zero b))]; rfl
  | c + 1, hc => by
    have ih := wsum_in st s k c (by omega)
    show wsum st s ((12 * k + c) + 1) = _
    rw [wsum_s, show (12 * k + c) % 12 = c by omega, show (12 * k + c) / 12 = k by omega, ih]
    by_cases hp : ∃ b, b < c ∧ 0 < frc st s b k
    · rw [if_pos hp, if_pos (show ∃ b, b < c + 1 ∧ 0 < frc st s b k from hp.elim fun b hb => ⟨b, by omega, hb.2⟩)]
      by_cases h0 : 0 < frc st s c k
      · rw [if_pos h0, or_or]
      · rw [if_neg h0]
    · rw [if_neg hp]
      by_cases h0 : 0 < frc st s c k
      · rw [if_pos h0, if_pos ⟨c, by omega, h0⟩]
      · rw [if_neg h0, if_neg (fun ⟨b, hb, hb2⟩ => by
          by_cases hbc : b = c
          · subst hbc; exact h0 hb2
          · exact hp ⟨b, by omega, hb2⟩)]
theorem any_bit {n : Nat} (hn : n < 4096) : n ≠ 0 ↔ ∃ c, c < 12 ∧ n.testBit c = true := by
  constructor
  · intro h
    refine Classical.byContradiction fun hz => h ?_
    apply Nat.eq_of_testBit_eq
    intro i
    rw [Nat.zero_testBit]
    by_cases hi : i < 12
    · cases hb : n.testBit i with
      | false => rfl
      | true => exact absurd ⟨i, hi, hb⟩ hz
    · exact Nat.testBit_lt_two_pow (Nat.lt_of_lt_of_le hn (Nat.pow_le_pow_right (n := 2) (by decide) (show 12 ≤ i by omega)))
  · intro ⟨c, _, hb⟩ h
    rw [h, Nat.zero_testBit] at hb
    cases hb
theorem cd_any {st : Nat → Int32} {n s k : Nat} (g : GN st n k) : ¬ cd st s k = 0 ↔ ∃ b, b < 12 ∧ 0 < frc st s b k := by
  obtain ⟨g1, g2, g3, g4, g5, g6, g7, -⟩ := g
  unfold cd
  by_cases hf : 0 < fOn st s k
  · rw [if_pos hf, g6]
    have e : (nI (ceN st k) = 0) ↔ ceN st k = 0 := nI_eq (b := 0) (by omega) (by decide)
    rw [e]
    show ceN st k ≠ 0 ↔ _
    rw [any_bit g7]
    constructor
    · rintro ⟨c, hc, hb⟩
      exact ⟨c, hc, by rw [frc_eq, if_pos hb]; exact hf⟩
    · rintro ⟨c, hc, hb⟩
      refine ⟨c, hc, ?_⟩
      rw [frc_eq] at hb
      by_cases hz : (ceN st k).testBit c = true
      · exact hz
      · rw [if_neg hz] at hb; exact absurd hb (by decide)
  · rw [if_neg hf]
    constructor
    · intro z; exact absurd rfl z
    · rintro ⟨c, hc, hb⟩
      rw [frc_eq] at hb
      by_cases hz : (ceN st k).testBit c = true
      · rw [if_pos hz] at hb; exact absurd hb hf
      · rw [if_neg hz] at hb; exact absurd hb (by decide)
theorem wsum_bits {st : Nat → Int32} {n s : Nat} (hW : WF st n) : ∀ k, k ≤ mN st → wsum st s (12 * k) = bitsN (fun k => decide (¬ cd st s k = 0)) k
  | 0, _ => rfl
  | k + 1, hk => by
    have h := wsum_in st s k 12 (by omega)
    rw [show 12 * (k + 1) = 12 * k + 12 by omega, h, wsum_bits hW k (by omega), bitsN_s]
    have hc := cd_any (s := s) (hW.2.2.2.2.1 k (by omega))
    by_cases hz : ∃ b, b < 12 ∧ 0 < frc st s b k
    · rw [if_pos hz, if_pos (by simpa using hc.mpr hz)]
    · rw [if_neg hz, if_neg (by simpa using fun q => hz (hc.mp q))]
theorem m_whoseOf {x : St} {n s : Nat} (hW : WF (x.A 4) n) (hn : n ≤ 6) (hs : s < 6) {Post : Int32 → Prop} (h : Post (bitsN (fun k => decide (¬ cd (x.A 4) s k = 0)) (mN (x.A 4)))) : wpX12_whoseOf (nI s) x Post := by
  have em := hW.2.2.1
  have hm := hW.2.2.2.1
  have e12 : (12 : Int32) * nI (mN (x.A 4)) = nI (12 * mN (x.A 4)) := pk_mul 12 _
  rw [← wsum_bits hW _ (Nat.le_refl _)] at h
  refine for_rule (F := fun self z => wlX12_whoseOf_4 x Post _ self z.1 z.2.1 z.2.2) (12 * mN (x.A 4)) (fun i => (nI s, wsum (x.A 4) s i, nI i)) ?_ ?_
  · intro self i hi hself
    dsimp only
    unfold wlX12_whoseOf_4
    have ed : nI i / (12 : Int32) = nI (i / 12) := pk_div (d := 12) (by omega) (by decide) (by decide)
    have er : nI i - nI i / (12 : Int32) * 12 = nI (i % 12) := pk_rem (d := 12) (by omega) (by decide) (by decide)
    rw [em, e12, er, ed]
    refine ⟨fun z => absurd z (nI_ge hi (by omega)), fun _ => m_forceIn hW hn (by omega) hs (by omega) ⟨fun he y ey z ez => ?_, fun hne y ey z ez => ?_⟩⟩
    · subst ez; subst ey
      rw [nI_1, or_0]
      unfold wsum at hself
      rw [if_neg (by rw [fa_lt]; rw [fa_le] at he; omega)] at hself
      exact hself
    · subst ez; subst ey
      rw [nI_1]
      unfold wsum at hself
      rw [if_pos (by rw [fa_lt]; rw [fa_le] at hne; omega)] at hself
      exact hself
  · intro self
    dsimp only
    unfold wlX12_whoseOf_4
    rw [em, e12]
    exact ⟨fun _ => h, fun z => absurd (nI_le (Nat.le_refl _) (by omega)) z⟩
theorem s_whose {t : Nat → St} {x : St} (h : Rel t x) (x1 : Int32) : SimI (wpX11_whose x1 t) (wpX12_whose x1 x) := by
  obtain ⟨n, w, u, e1, e2, e3, hc, g⟩ := h.1.got
  have hn6 := g.2.1
  obtain ⟨hR, hW⟩ := g.cur
  unfold SimI wpX11_whose wpX12_whose wpX12_bad
  refine k_hasSheet g.2.2.1 hn6 (fun a b => b1e ?_) (fun a => b0e (k_bad ?_))
  · obtain ⟨s, es, hs, _⟩ := toNI a
    subst es
    refine k_dentedBy hR hW hn6 (by omega) ?_
    refine m_isSheet e1 hn6 (fun _ _ => b1e ?_) (fun z => absurd z (by omega))
    exact m_whoseOf hW hn6 (by omega) ⟨rfl, h⟩
  · exact m_isSheet e1 hn6 (fun a1 a2 => absurd a (by omega)) (fun _ => b0e (m_ref0 ⟨rfl, R_bad h⟩))
theorem s_torn {t : Nat → St} {x : St} (h : Rel t x) (x1 : Int32) : SimI (wpX11_torn x1 t) (wpX12_torn x1 x) := by
  obtain ⟨n, w, u, e1, e2, e3, hc, g⟩ := h.1.got
  have hn6 := g.2.1
  have hI := g.2.2.1
  obtain ⟨q0, q1, q2, q3, q4, q5⟩ := g.nums
  obtain ⟨hR, hW⟩ := g.cur
  unfold SimI wpX11_torn wpX12_torn wpX12_bad
  refine k_hasNotes q1 q5 (fun a b => b1n ?_) (fun a => b0n (k_bad ?_))
  · refine k_top ?_
    rw [q0]
    generalize eD : (fun i => bitsN (fun k => decide (¬ cd (x.A 4) (tN (x.A 4) + i) k = 0)) (mN (x.A 4))) = D
    generalize eP : (fun i => decide (D i &&& x1 = 0)) = P
    have hf1 := fa_first_le P (n - tN (x.A 4))
    have hf2 := fa_first_no P (n - tN (x.A 4))
    have hf3 := fa_first_yes P (n - tN (x.A 4))
    generalize fa_first P (n - tN (x.A 4)) = ft at hf1 hf2 hf3
    have hDk : ∀ i, i < n - tN (x.A 4) → ∀ Post : Int32 → Prop, Post (D i) → wpX4_dentedBy (nI (tN (x.A 4) + i)) (t 2) Post := fun i hi Post hp => k_dentedBy hR hW hn6 (by omega) (by rw [← eD] at hp; exact hp)
    have hDm : ∀ i, i < n - tN (x.A 4) → ∀ Post : Int32 → Prop, Post (D i) → wpX12_whoseOf (nI (tN (x.A 4) + i)) x Post := fun i hi Post hp => m_whoseOf hW hn6 (by omega) (by rw [← eD] at hp; exact hp)
    have hPi : ∀ i, P i = true ↔ D i &&& x1 = 0 := fun i => by rw [← eP]; simp
    have hmod : ∀ r : Int32, (ft < n - tN (x.A 4) → r = nI (tN (x.A 4) + ft) - nI (tN (x.A 4))) → (¬ ft < n - tN (x.A 4) → r = -1) → wpX12_areNotes x1 x (fun (r1 : Int32) => ((¬ r1 = 0) → ∀ x2_2 : Int32, x2_2 = ((x.A 4) 125) → ∃ n, wLX12_torn_21 (fun r' x' => r = r' ∧ Rel t x') (fun (p6 : St) => r = (-1) ∧ Rel t p6) n (x1, x2_2, x)) ∧ ((r1 = 0) → wpX12_refuse 0 (-2) x (fun (r7 : Int32) (p8 : St) => r = r7 ∧ Rel t p8))) := by
      intro r hr1 hr2
      refine m_areNotes q3 q5 (fun _ _ => b1n ?_) (fun z => absurd z (by omega))
      intro z ez
      rw [q2] at ez
      subst ez
      refine for_rule (F := fun self z => wlX12_torn_21 (fun r' x' => r = r' ∧ Rel t x') (fun (p6 : St) => r = (-1) ∧ Rel t p6) self z.1 z.2.1 z.2.2) ft (fun i => (x1, nI (tN (x.A 4) + i), x)) ?_ ?_
      · intro self i hi hself
        dsimp only
        unfold wlX12_torn_21
        rw [e1]
        refine ⟨fun z => absurd z (nI_ge (by omega) (by omega)), fun _ => hDm i (by omega) _ ⟨fun _ z ez => ?_, fun he => ?_⟩⟩
        · subst ez
          rw [nI_1]
          exact hself
        · have := hf2 i hi
          rw [(hPi i).mpr he] at this
          cases this
      · intro self
        dsimp only
        unfold wlX12_torn_21
        rw [e1]
        by_cases hft : ft < n - tN (x.A 4)
        · refine ⟨fun z => absurd z (nI_ge (by omega) (by omega)), fun _ => hDm ft hft _ ⟨fun hne => absurd ((hPi ft).mp (hf3 hft)) hne, fun _ => ?_⟩⟩
          rw [q2]
          exact ⟨hr1 hft, h⟩
        · exact ⟨fun _ => ⟨hr2 hft, h⟩, fun z => absurd (nI_le (by omega) (by omega)) z⟩
    refine for_rule (F := fun self z => wlX11_torn_26 _ _ self z.1 z.2.1 z.2.2) ft (fun i => (x1, nI (tN (x.A 4) + i), t)) ?_ ?_
    · intro self i hi hself
      dsimp only
      unfold wlX11_torn_26
      rw [hI]
      refine ⟨fun z => absurd z (nI_ge (by omega) (by omega)), fun _ => hDk i (by omega) _ ⟨fun _ z ez => ?_, fun he => ?_⟩⟩
      · subst ez
        rw [nI_1]
        exact hself
      · have := hf2 i hi
        rw [(hPi i).mpr he] at this
        cases this
    · intro self
      dsimp only
      unfold wlX11_torn_26
      rw [hI]
      by_cases hft : ft < n - tN (x.A 4)
      · refine ⟨fun z => absurd z (nI_ge (by omega) (by omega)), fun _ => hDk ft hft _ ⟨fun hne => absurd ((hPi ft).mp (hf3 hft)) hne, fun _ => k_top ?_⟩⟩
        rw [q0]
        exact hmod _ (fun _ => rfl) (fun z => absurd hft z)
      · exact ⟨fun _ => hmod _ (fun z => absurd z hft) (fun _ => rfl), fun z => absurd (nI_le (by omega) (by omega)) z⟩
  · exact m_areNotes q3 q5 (fun a1 a2 => absurd a (by omega)) (fun _ => b0n (m_ref0 ⟨rfl, R_bad h⟩))
end
section
def prV (k : Nat) (d : Int32) : Int32 := if fa_first (fun i => decide (¬ fo (nI k) (nI (1 + i)) d < 2)) 9 < 9 then nI (1 + fa_first (fun i => decide (¬ fo (nI k) (nI (1 + i)) d < 2)) 9) else -1
theorem m_pressL {x : St} {k : Nat} {d : Int32} (hk : k < 6) {Post : Int32 → St → Prop} {KX : St → Prop} (h : Post (prV k d) x) (hX : KX = fun x => Post (-1) x) : ∃ n, wLX12_press_31 Post KX n (nI k, d, 1, x) := by
  unfold prV at h
  generalize eP : (fun i => decide (¬ fo (nI k) (nI (1 + i)) d < 2)) = P at h
  have hf1 := fa_first_le P 9
  have hf2 := fa_first_no P 9
  have hf3 := fa_first_yes P 9
  generalize fa_first P 9 = ft at hf1 hf2 hf3 h
  have hPi : ∀ i, P i = true ↔ ¬ fo (nI k) (nI (1 + i)) d < 2 := fun i => by rw [← eP]; simp
  refine for_rule (F := fun self z => wlX12_press_31 Post KX self z.1 z.2.1 z.2.2.1 z.2.2.2) ft (fun i => (nI k, d, nI (1 + i), x)) ?_ ?_
  · intro self i hi hself
    dsimp only
    unfold wlX12_press_31
    refine ⟨fun z => absurd z (nI_nlt (a := 9) (by omega) (by decide)), fun _ => m_force hk ⟨fun _ z ez => ?_, fun hge => ?_⟩⟩
    · subst ez
      rw [nI_1]
      exact hself
    · have := hf2 i hi
      rw [(hPi i).mpr hge] at this
      cases this
  · intro self
    dsimp only
    unfold wlX12_press_31
    by_cases hft : ft < 9
    · rw [if_pos hft] at h
      exact ⟨fun z => absurd z (nI_nlt (a := 9) (by omega) (by decide)), fun _ => m_force hk ⟨fun hlt => absurd hlt ((hPi ft).mp (hf3 hft)), fun _ => h⟩⟩
    · rw [if_neg hft] at h
      subst hX
      exact ⟨fun _ => h, fun z => absurd (nI_lt (a := 9) (by omega) (by omega)) z⟩
theorem k_pressL {t : Nat → St} {k : Nat} {d : Int32} {Post : Int32 → (Nat → St) → Prop} {KX : (Nat → St) → Prop} (h : Post (prV k d) t) (hX : KX = fun x => Post (-1) x) : ∃ n, wLX11_press_31 Post KX n (nI k, d, 1, t) := by
  unfold prV at h
  generalize eP : (fun i => decide (¬ fo (nI k) (nI (1 + i)) d < 2)) = P at h
  have hf1 := fa_first_le P 9
  have hf2 := fa_first_no P 9
  have hf3 := fa_first_yes P 9
  generalize fa_first P 9 = ft at hf1 hf2 hf3 h
  have hPi : ∀ i, P i = true ↔ ¬ fo (nI k) (nI (1 + i)) d < 2 := fun i => by rw [← eP]; simp
  refine for_rule (F := fun self z => wlX11_press_31 Post KX self z.1 z.2.1 z.2.2.1 z.2.2.2) ft (fun i => (nI k, d, nI (1 + i), t)) ?_ ?_
  · intro self i hi hself
    dsimp only
    unfold wlX11_press_31
    refine ⟨fun z => absurd z (nI_nlt (a := 9) (by omega) (by decide)), fun _ => ⟨fun _ z ez => ?_, fun hge => ?_⟩⟩
    · subst ez
      rw [nI_1]
      exact hself
    · have := hf2 i hi
      rw [(hPi i).mpr hge] at this
      cases this
  · intro self
    dsimp only
    unfold wlX11_press_31
    by_cases hft : ft < 9
    · rw [if_pos hft] at h
      exact ⟨fun z => absurd z (nI_nlt (a := 9) (by omega) (by decide)), fun _ => ⟨fun hlt => absurd hlt ((hPi ft).mp (hf3 hft)), fun _ => h⟩⟩
    · rw [if_neg hft] at h
      subst hX
      exact ⟨fun _ => h, fun z => absurd (nI_lt (a := 9) (by omega) (by omega)) z⟩
theorem k_press {t : Nat → St} {x1 x2 : Int32} {Post : Int32 → (Nat → St) → Prop} (hb : ¬ (0 ≤ x1.toInt ∧ x1.toInt ≤ 5 ∧ 1 ≤ x2.toInt ∧ x2.toInt ≤ 5) → Post (-2) (badT t)) (hg : ∀ k : Nat, k < 6 → x1 = nI k → 1 ≤ x2.toInt → x2.toInt ≤ 5 → Post (prV k x2) t) : wpX11_press x1 x2 t Post := by
  unfold wpX11_press wjX11_press_22
  refine v_ge 0 6 (by decide) (by decide) (fun a => k_bad (hb (by omega))) (fun a b => ?_)
  have e1 : (1 : Int32).toInt = 1 := by decide
  refine ⟨fun c => k_bad (hb ?_), fun c => k_isDepth (fun d1 d2 => b1n ?_) (fun d => b0n (k_bad (hb (by omega))))⟩
  · rw [fa_lt] at c; omega
  · rw [fa_lt] at c
    obtain ⟨k, ek, hk, _⟩ := toNI a
    have := hg k (by omega) ek (by omega) d2
    subst ek
    exact k_pressL this rfl
theorem m_press {x : St} {x1 x2 : Int32} {Post : Int32 → St → Prop} (hb : ¬ (0 ≤ x1.toInt ∧ x1.toInt ≤ 5 ∧ 1 ≤ x2.toInt ∧ x2.toInt ≤ 5) → Post (-2) (refX x 0)) (hg : ∀ k : Nat, k < 6 → x1 = nI k → 1 ≤ x2.toInt → x2.toInt ≤ 5 → Post (prV k x2) x) : wpX12_press x1 x2 x Post := by
  unfold wpX12_press wjX12_press_24 wpX12_bad
  refine in_rule 0 5 (by decide) (by decide) (fun a b => b1e ?_) (fun a => b0e (m_ref0 (hb (by omega))))
  refine in_rule 1 5 (by decide) (by decide) (fun c d => b1n ?_) (fun c => b0n (m_ref0 (hb (by omega))))
  obtain ⟨k, ek, hk, _⟩ := toNI a
  have := hg k (by omega) ek c d
  subst ek
  exact m_pressL (by omega) this rfl
theorem s_press {t : Nat → St} {x : St} (h : Rel t x) (x1 x2 : Int32) : SimI (wpX11_press x1 x2 t) (wpX12_press x1 x2 x) := by
  refine k_press (fun hb => ?_) (fun k hk ek h1 h2 => ?_)
  · exact m_press (fun _ => ⟨rfl, R_bad h⟩) (fun k hk ek h1 h2 => absurd (⟨by rw [ek, nI_toInt (by omega)]; omega, by rw [ek, nI_toInt (by omega)]; omega, h1, h2⟩ : 0 ≤ x1.toInt ∧ x1.toInt ≤ 5 ∧ 1 ≤ x2.toInt ∧ x2.toInt ≤ 5) hb)
  · refine m_press (fun hb => absurd (⟨by rw [ek, nI_toInt (by omega)]; omega, by rw [ek, nI_toInt (by omega)]; omega, h1, h2⟩ : 0 ≤ x1.toInt ∧ x1.toInt ≤ 5 ∧ 1 ≤ x2.toInt ∧ x2.toInt ≤ 5) hb) (fun k' hk' ek' _ _ => ?_)
    have e : k = k' := (nI_eq (by omega) (by omega)).mp (ek.symm.trans ek')
    subst e
    exact ⟨rfl, h⟩
theorem s_about {t : Nat → St} {x : St} (h : Rel t x) (x1 x2 : Int32) : SimI (wpX11_about x1 x2 t) (wpX12_about x1 x2 x) := by
  obtain ⟨n, w, u, e1, e2, e3, hc, g⟩ := h.1.got
  have hn6 := g.2.1
  obtain ⟨q0, q1, q2, q3, q4, q5⟩ := g.nums
  obtain ⟨hR, hW⟩ := g.cur
  unfold SimI wpX11_about wpX12_about wpX12_bad
  refine k_hasNote q1 q5 (fun a b => b1n ?_) (fun a => b0n (k_bad ?_))
  · obtain ⟨k, ek, hk, _⟩ := toNI a
    subst ek
    have hkm : k < mN (x.A 4) := by omega
    obtain ⟨g1, g2, g3, g4, g5, g6, g7, g8, g9, g10⟩ := hW.2.2.2.2.1 k hkm
    obtain ⟨r1, r2, r3, r4, r5⟩ := hR.2.2.2 k hkm
    have e0 : ((84 : Int32) + ((4 : Int32) * nI k)) = nI (84 + 4 * k) := by
      show nI 84 + nI 4 * nI k = _
      rw [pk_mul, nI_add]
    have f0 : nI (84 + 4 * k) + 0 = nI (84 + 4 * k) := by show _ + nI 0 = _; rw [nI_add]; rfl
    have f1 : nI (84 + 4 * k) + 1 = nI (85 + 4 * k) := by show _ + nI 1 = _; rw [nI_add]; congr 1; omega
    have f2 : nI (84 + 4 * k) + 2 = nI (86 + 4 * k) := by show _ + nI 2 = _; rw [nI_add]; congr 1; omega
    have f3 : nI (84 + 4 * k) + 3 = nI (87 + 4 * k) := by show _ + nI 3 = _; rw [nI_add]; congr 1; omega
    have hv : vp_in (nI k) 10 := vp_in_nI (by omega) (by omega)
    rw [ncl (by omega)]
    refine ⟨fun e => ⟨hv, ?_⟩, fun e => ⟨hv, ?_⟩, fun e => ⟨hv, ?_⟩, fun e => ⟨hv, ?_⟩, fun e => ⟨hv, ?_⟩, fun e => ⟨hv, ?_⟩, fun z0 z1 z2 z3 z4 z5 => k_bad ?_⟩
    · subst e
      refine m_isNote q3 q5 (fun _ _ => b1n ?_) (fun z => absurd z (by omega))
      intro z ez; rw [e0] at ez; subst ez
      refine ⟨fun _ => ?_, fun e => absurd e (by decide), fun e => absurd e (by decide), fun e => absurd e (by decide), fun e => absurd e (by decide), fun e => absurd e (by decide), fun e => absurd rfl e⟩
      rw [f0, ncl (by omega)]
      exact ⟨vp_in_nI (by omega) (by omega), r1, h⟩
    · subst e
      refine m_isNote q3 q5 (fun _ _ => b1n ?_) (fun z => absurd z (by omega))
      intro z ez; rw [e0] at ez; subst ez
      refine ⟨fun e => absurd e (by decide), fun _ => ?_, fun e => absurd e (by decide), fun e => absurd e (by decide), fun e => absurd e (by decide), fun e => absurd e (by decide), fun _ e => absurd rfl e⟩
      rw [f1, ncl (by omega)]
      exact ⟨vp_in_nI (by omega) (by omega), r2, h⟩
    · subst e
      refine m_isNote q3 q5 (fun _ _ => b1n ?_) (fun z => absurd z (by omega))
      intro z ez; rw [e0] at ez; subst ez
      refine ⟨fun e => absurd e (by decide), fun e => absurd e (by decide), fun _ => ?_, fun e => absurd e (by decide), fun e => absurd e (by decide), fun e => absurd e (by decide), fun _ _ e => absurd rfl e⟩
      rw [f2, ncl (by omega)]
      exact ⟨vp_in_nI (by omega) (by omega), r3, h⟩
    · subst e
      refine m_isNote q3 q5 (fun _ _ => b1n ?_) (fun z => absurd z (by omega))
      intro z ez; rw [e0] at ez; subst ez
      refine ⟨fun e => absurd e (by decide), fun e => absurd e (by decide), fun e => absurd e (by decide), fun _ => ?_, fun e => absurd e (by decide), fun e => absurd e (by decide), fun _ _ _ e => absurd rfl e⟩
      rw [f3, ncl (by omega)]
      exact ⟨vp_in_nI (by omega) (by omega), r4, h⟩
    · subst e
      rw [r4, g8]
      refine k_forceOn hR hW hn6 hkm (by omega) ?_
      refine m_isNote q3 q5 (fun _ _ => b1n ?_) (fun z => absurd z (by omega))
      intro z ez; rw [e0] at ez; subst ez
      refine ⟨fun e => absurd e (by decide), fun e => absurd e (by decide), fun e => absurd e (by decide), fun e => absurd e (by decide), fun _ => ?_, fun e => absurd e (by decide), fun _ _ _ _ e => absurd rfl e⟩
      rw [f1, ncl (by omega), ncl (by omega)]
      refine ⟨vp_in_nI (by omega) (by omega), vp_in_nI (by omega) (by omega), ?_⟩
      have ef : fOn (x.A 4) (onN (x.A 4) k) k = fo (x.A 4 (84 + 4 * k)) (x.A 4 (85 + 4 * k)) 0 := by
        unfold fOn
        rw [if_pos (Nat.le_refl _), Nat.sub_self]
        rfl
      rw [ef, g1]
      exact m_force g2 ⟨rfl, h⟩
    · subst e
      rw [r1]
      unfold wpX5_hasInk
      have key : ∀ r : Int32, r = hink (x.A 4 (84 + 4 * k)) → wpX12_in ((nI k).toInt64) 0 ((((x.A 4) 124) - 1)).toInt64 (fun (r1 : Int32) => ((¬ r1 = 0) → ∀ x3_2 : Int32, x3_2 = ((84 : Int32) + ((4 : Int32) * nI k)) → ((5 : Int32) = 0 → vp_in (x3_2 + 5) 126 ∧ r = ((x.A 4) (x3_2 + 5).toNatClampNeg) ∧ Rel t x) ∧ ((5 : Int32) = 1 → vp_in (x3_2 + 5) 126 ∧ r = ((x.A 4) (x3_2 + 5).toNatClampNeg) ∧ Rel t x) ∧ ((5 : Int32) = 2 → vp_in (x3_2 + 5) 126 ∧ r = ((x.A 4) (x3_2 + 5).toNatClampNeg) ∧ Rel t x) ∧ ((5 : Int32) = 3 → vp_in (x3_2 + 5) 126 ∧ r = ((x.A 4) (x3_2 + 5).toNatClampNeg) ∧ Rel t x) ∧ ((5 : Int32) = 4 → vp_in x3_2 126 ∧ vp_in (x3_2 + 1) 126 ∧ wpX12_forceOf ((x.A 4) x3_2.toNatClampNeg) ((x.A 4) (x3_2 + 1).toNatClampNeg) 0 (fun (r3 : Int32) => r = r3 ∧ Rel t x)) ∧ ((5 : Int32) = 5 → vp_in x3_2 126 ∧ wpX12_hasInk ((x.A 4) x3_2.toNatClampNeg) (fun (r4 : Int32) => ((r4 = 0) → r = 0 ∧ Rel t x) ∧ ((¬ r4 = 0) → r = 1 ∧ Rel t x))) ∧ (¬ (5 : Int32) = 0 → ¬ (5 : Int32) = 1 → ¬ (5 : Int32) = 2 → ¬ (5 : Int32) = 3 → ¬ (5 : Int32) = 4 → ¬ (5 : Int32) = 5 → wpX12_refuse 0 (-2) x (fun (r1 : Int32) (p2 : St) => r = r1 ∧ Rel t p2))) ∧ ((r1 = 0) → wpX12_refuse 0 (-2) x (fun (r1 : Int32) (p2 : St) => r = r1 ∧ Rel t p2))) := by
        intro r hr
        refine m_isNote q3 q5 (fun _ _ => b1n ?_) (fun z => absurd z (by omega))
        intro z ez; rw [e0] at ez; subst ez
        refine ⟨fun e => absurd e (by decide), fun e => absurd e (by decide), fun e => absurd e (by decide), fun e => absurd e (by decide), fun e => absurd e (by decide), fun _ => ?_, fun _ _ _ _ _ e => absurd rfl e⟩
        rw [ncl (by omega)]
        refine ⟨vp_in_nI (by omega) (by omega), ?_⟩
        rw [g1] at hr ⊢
        refine m_hasInk g2 ?_
        have hh : hink (nI (kN (x.A 4) k)) = 0 ∨ hink (nI (kN (x.A 4) k)) = 1 := by
          have : ∀ k, k < 6 → hink (nI k) = 0 ∨ hink (nI k) = 1 := by decide +kernel
          exact this _ g2
        rcases hh with e | e
        · rw [e] at hr ⊢; exact ⟨fun _ => ⟨hr, h⟩, fun q => absurd rfl q⟩
        · rw [e] at hr ⊢; exact ⟨fun q => absurd q (by decide), fun _ => ⟨hr, h⟩⟩
      refine ⟨fun z => key _ z.symm, fun z => key _ ?_⟩
      rw [g1] at z ⊢
      have hh : hink (nI (kN (x.A 4) k)) = 0 ∨ hink (nI (kN (x.A 4) k)) = 1 := by
        have : ∀ k, k < 6 → hink (nI k) = 0 ∨ hink (nI k) = 1 := by decide +kernel
        exact this _ g2
      rcases hh with e | e
      · exact absurd e z
      · exact e.symm
    · refine m_isNote q3 q5 (fun _ _ => b1n ?_) (fun z => absurd z (by omega))
      intro z ez
      exact ⟨fun e => absurd e z0, fun e => absurd e z1, fun e => absurd e z2, fun e => absurd e z3, fun e => absurd e z4, fun e => absurd e z5, fun _ _ _ _ _ _ => m_ref0 ⟨rfl, R_bad h⟩⟩
  · exact m_isNote q3 q5 (fun a1 a2 => absurd a (by omega)) (fun _ => b0n (m_ref0 ⟨rfl, R_bad h⟩))
end
section
/-! own -/
def orN (st : Nat → Int32) (s note : Nat) : Nat → Int32
  | 0 => 0
  | k + 1 => if k = note then orN st s note k else orN st s note k ||| cd st s k
theorem orN_s (st : Nat → Int32) (s note k : Nat) : orN st s note (k + 1) = if k = note then orN st s note k else orN st s note k ||| cd st s k := rfl
def ow (st : Nat → Int32) (s c note : Nat) : Nat → Bool
  | 0 => decide (0 < frc st s c note)
  | i + 1 => ow st s c note i && (decide (i = note) || decide (frc st s c i = 0))
theorem ow_s (st : Nat → Int32) (s c note i : Nat) : ow st s c note (i + 1) = (ow st s c note i && (decide (i = note) || decide (frc st s c i = 0))) := rfl
theorem ow_iff (st : Nat → Int32) (s c note : Nat) : ∀ m, ow st s c note m = true ↔ 0 < frc st s c note ∧ ∀ k, k < m → k = note ∨ frc st s c k = 0
  | 0 => by simp [ow]
  | m + 1 => by
    rw [ow_s, Bool.and_eq_true, ow_iff st s c note m]
    constructor
    · rintro ⟨⟨h1, h2⟩, h3⟩
      refine ⟨h1, fun k hk => ?_⟩
      by_cases hkm : k = m
      · subst hkm; simpa using h3
      · exact h2 k (by omega)
    · rintro ⟨h1, h2⟩
      exact ⟨⟨h1, fun k hk => h2 k (by omega)⟩, by simpa using h2 m (by omega)⟩
theorem bt_cd {st : Nat → Int32} {n s k i : Nat} (g : GN st n k) (hs : s < 6) (hi : i < 32) : bt (cd st s k) i = (decide (0 < frc st s i k)) := by
  obtain ⟨g1, g2, g3, g4, g5, g6, g7, -⟩ := g
  unfold cd
  rw [frc_eq]
  by_cases hf : 0 < fOn st s k
  · rw [if_pos hf, g6, bt_nI hi]
    cases hb : (ceN st k).testBit i with
    | true => simp [hf]
    | false => simp
  · rw [if_neg hf, b_0]
    cases hb : (ceN st k).testBit i with
    | true => simp [hf]
    | false => simp
theorem frc_pos {st : Nat → Int32} {n s c k : Nat} (g : GN st n k) (hs : s < 6) : frc st s c k = 0 ↔ ¬ 0 < frc st s c k := by
  obtain ⟨e, -⟩ := fOn_N g hs
  rw [frc_eq]
  by_cases hb : (ceN st k).testBit c = true
  · rw [if_pos hb, e]
    have hle := (fOn_N g hs).2
    have e0 : (nI (fOnN st s k) = 0) ↔ fOnN st s k = 0 := nI_eq (b := 0) (by omega) (by decide)
    have e1 : ((0 : Int32) < nI (fOnN st s k)) ↔ 0 < fOnN st s k := nI_ltI (a := 0) (by decide) (by omega)
    rw [e0, e1]; omega
  · rw [if_neg hb]
    simp
theorem bt_orN {st : Nat → Int32} {n s note i : Nat} (hW : WF st n) (hs : s < 6) (hi : i < 32) : ∀ m, m ≤ mN st → (bt (orN st s note m) i = true ↔ ∃ k, k < m ∧ k ≠ note ∧ 0 < frc st s i k)
  | 0, _ => by
    show bt 0 i = true ↔ _
    rw [b_0]
    simp
  | m + 1, hm => by
    have ih := bt_orN (i := i) (note := note) hW hs hi m (by omega)
    rw [orN_s]
    by_cases hk : m = note
    · rw [if_pos hk, ih]
      constructor
      · rintro ⟨k, h1, h2, h3⟩; exact ⟨k, by omega, h2, h3⟩
      · rintro ⟨k, h1, h2, h3⟩; exact ⟨k, by omega, h2, h3⟩
    · rw [if_neg hk, b_or, Bool.or_eq_true, ih, bt_cd (hW.2.2.2.2.1 m (by omega)) hs hi]
      constructor
      · rintro (⟨k, h1, h2, h3⟩ | h)
        · exact ⟨k, by omega, h2, h3⟩
        · exact ⟨m, by omega, hk, by simpa using h⟩
      · rintro ⟨k, h1, h2, h3⟩
        by_cases hkm : k = m
        · subst hkm; exact Or.inr (by simpa using h3)
        · exact Or.inl ⟨k, by omega, h2, h3⟩
theorem frc_big {st : Nat → Int32} {n s k i : Nat} (g : GN st n k) (hi : 12 ≤ i) : ¬ 0 < frc st s i k := by
  rw [frc_eq]
  have hb : (ceN st k).testBit i = false := Nat.testBit_lt_two_pow (Nat.lt_of_lt_of_le g.2.2.2.2.2.2.1 (Nat.pow_le_pow_right (n := 2) (by decide) hi))
  rw [hb, if_neg (by decide)]
  decide
theorem own_eq {st : Nat → Int32} {n s note : Nat} (hW : WF st n) (hs : s < 6) (hk : note < mN st) : cd st s note &&& (orN st s note (mN st) ^^^ (-1)) = bitsN (fun c => ow st s c note (mN st)) 12 := by
  have hm := hW.2.2.2.1
  apply b_ext
  intro i hi
  rw [b_and, b_xor, b_m1 i hi, bt_bitsN _ 12 (by omega) i hi, bt_cd (hW.2.2.2.2.1 note hk) hs hi, Bool.eq_iff_iff]
  rw [Bool.and_eq_true, Bool.and_eq_true, ow_iff]
  simp only [Bool.xor_true, Bool.not_eq_true', decide_eq_true_eq]
  constructor
  · rintro ⟨h1, h2⟩
    refine ⟨?_, h1, fun k hkm => ?_⟩
    · by_cases h12 : i < 12
      · exact h12
      · exact absurd h1 (frc_big (hW.2.2.2.2.1 note hk) (by omega))
    · by_cases hkn : k = note
      · exact Or.inl hkn
      · right
        rw [frc_pos (hW.2.2.2.2.1 k hkm) hs]
        intro hp
        have := (bt_orN (note := note) hW hs hi (mN st) (Nat.le_refl _)).mpr ⟨k, hkm, hkn, hp⟩
        rw [this] at h2
        cases h2
  · rintro ⟨h12, h1, h2⟩
    refine ⟨h1, ?_⟩
    cases hb : bt (orN st s note (mN st)) i with
    | false => rfl
    | true =>
      obtain ⟨k, h3, h4, h5⟩ := (bt_orN (note := note) hW hs hi (mN st) (Nat.le_refl _)).mp hb
      rcases h2 k h3 with h6 | h6
      · exact absurd h6 h4
      · exact absurd h5 ((frc_pos (hW.2.2.2.2.1 k h3) hs).mp h6)
theorem k_ownL {t : Nat → St} {st : Nat → Int32} {n s note : Nat} (hR : RP ((t 2).A 0) (t 2) st) (hW : WF st n) (hn : n ≤ 6) (hs : s < 6) (hk : note < mN st) {Post : Int32 → (Nat → St) → Prop} {KX : Int32 → Int32 → Int32 → (Nat → St) → Prop} (h : KX (nI note) (nI s) (orN st s note (mN st)) t) : ∃ n, wLX11_own_34 Post KX n (nI note, nI s, 0, 0, t) := by
  have em : (t 2).A 0 1 = nI (mN st) := hR.2.1.trans hW.2.2.1
  have hm := hW.2.2.2.1
  refine for_rule (F := fun self z => wlX11_own_34 Post KX self z.1 z.2.1 z.2.2.1 z.2.2.2.1 z.2.2.2.2) (mN st) (fun i => (nI note, nI s, orN st s note i, nI i, t)) ?_ ?_
  · intro self i hi hself
    dsimp only
    unfold wlX11_own_34
    refine k_noteCount ?_
    rw [em]
    rw [orN_s] at hself
    refine ⟨fun z => absurd z (nI_ge hi (by omega)), fun _ => ⟨fun e z ez => ?_, fun e => ?_⟩⟩
    · subst ez
      rw [nI_1]
      rw [if_pos ((nI_eq (by omega) (by omega)).mp e)] at hself
      exact hself
    · rw [if_neg (fun q => e (by rw [q]))] at hself
      refine k_cellsDented hR hW hn hi hs ?_
      intro y ey z ez
      subst ey; subst ez
      rw [nI_1]
      exact hself
  · intro self
    dsimp only
    unfold wlX11_own_34
    refine k_noteCount ?_
    rw [em]
    exact ⟨fun _ => h, fun z => absurd (nI_le (Nat.le_refl _) (by omega)) z⟩
theorem m_ownI {x : St} {n s c note : Nat} {b : Int32} {y : Int32} (hW : WF (x.A 4) n) (hn : n ≤ 6) (hs : s < 6) (hc : c < 12) (hk : note < mN (x.A 4)) (hb : b = if ow (x.A 4) s c note 0 then 1 else 0) {Post : Int32 → St → Prop} {KX : Int32 → Int32 → Int32 → Int32 → Int32 → St → Prop} (h : KX (nI note) (nI s) y (nI c) (if ow (x.A 4) s c note (mN (x.A 4)) then 1 else 0) x) : ∃ n, wLX12_own_65 Post KX n (nI note, nI s, y, nI c, b, 0, x) := by
  have em := hW.2.2.1
  have hm := hW.2.2.2.1
  subst hb
  refine for_rule (F := fun self z => wlX12_own_65 Post KX self z.1 z.2.1 z.2.2.1 z.2.2.2.1 z.2.2.2.2.1 z.2.2.2.2.2.1 z.2.2.2.2.2.2) (mN (x.A 4)) (fun i => (nI note, nI s, y, nI c, if ow (x.A 4) s c note i then 1 else 0, nI i, x)) ?_ ?_
  · intro self i hi hself
    dsimp only
    unfold wlX12_own_65
    rw [em]
    rw [ow_s] at hself
    refine ⟨fun z => absurd z (nI_ge hi (by omega)), fun _ => ?_⟩
    cases ho : ow (x.A 4) s c note i with
    | false =>
      refine ⟨fun _ z ez => ?_, fun e => absurd rfl e⟩
      subst ez
      rw [nI_1]
      rw [ho] at hself
      exact hself
    | true =>
      rw [ho] at hself
      refine ⟨fun e => absurd e (by decide), fun _ => ⟨fun e z ez => ?_, fun e => ?_⟩⟩
      · subst ez
        rw [nI_1]
        rw [decide_eq_true ((nI_eq (by omega) (by omega)).mp e)] at hself
        exact hself
      · have e' : ¬ i = note := fun q => e (by rw [q])
        refine m_forceIn hW hn hi hs hc ⟨fun hf z ez => ?_, fun hf z ez => ?_⟩
        · subst ez
          rw [nI_1]
          rw [decide_eq_false e', decide_eq_false hf] at hself
          exact hself
        · subst ez
          rw [nI_1]
          rw [decide_eq_false e', decide_eq_true hf] at hself
          exact hself
  · intro self
    dsimp only
    unfold wlX12_own_65
    rw [em]
    exact ⟨fun _ => h, fun z => absurd (nI_le (Nat.le_refl _) (by omega)) z⟩
theorem m_ownL {x : St} {n s note : Nat} (hW : WF (x.A 4) n) (hn : n ≤ 6) (hs : s < 6) (hk : note < mN (x.A 4)) {Post : Int32 → St → Prop} {KX : Int32 → St → Prop} (h : KX (bitsN (fun c => ow (x.A 4) s c note (mN (x.A 4))) 12) x) : ∃ n, wLX12_own_37 Post KX n (nI note, nI s, 0, 0, x) := by
  refine for_rule (F := fun self z => wlX12_own_37 Post KX self z.1 z.2.1 z.2.2.1 z.2.2.2.1 z.2.2.2.2) 12 (fun i => (nI note, nI s, bitsN (fun c => ow (x.A 4) s c note (mN (x.A 4))) i, nI i, x)) ?_ ?_
  · intro self i hi hself
    dsimp only
    unfold wlX12_own_37
    rw [bitsN_s] at hself
    have fin : ∀ y15 : Int32, y15 = (if ow (x.A 4) s i note (mN (x.A 4)) then 1 else 0) → ((y15 = 0) → ∀ x3_17 : Int32, x3_17 = (bitsN (fun c => ow (x.A 4) s c note (mN (x.A 4))) i ||| 0) → ∀ x4_18 : Int32, x4_18 = nI i + 1 → self (nI note, nI s, x3_17, x4_18, x)) ∧ ((¬ y15 = 0) → ∀ x3_19 : Int32, x3_19 = (bitsN (fun c => ow (x.A 4) s c note (mN (x.A 4))) i ||| ((1 : Int32) <<< (nI i &&& 31))) → ∀ x4_20 : Int32, x4_20 = nI i + 1 → self (nI note, nI s, x3_19, x4_20, x)) := by
      intro y ey
      cases ho : ow (x.A 4) s i note (mN (x.A 4)) with
      | false =>
        rw [ho] at ey hself
        subst ey
        refine ⟨fun _ a ea b eb => ?_, fun e => absurd rfl e⟩
        subst ea; subst eb
        rw [nI_1, or_0]
        exact hself
      | true =>
        rw [ho] at ey hself
        subst ey
        refine ⟨fun e => absurd e (by decide), fun _ a ea b eb => ?_⟩
        subst ea; subst eb
        rw [nI_1]
        exact hself
    refine ⟨fun z => absurd z (nI_ge (b := 12) hi (by decide)), fun _ => m_forceIn hW hn hk hs hi ⟨fun hf => ?_, fun hf => ?_⟩⟩
    · refine m_ownI hW hn hs hi hk ?_ (fin _ rfl)
      have : ow (x.A 4) s i note 0 = false := by
        show decide _ = false
        rw [decide_eq_false]
        rw [fa_lt]; rw [fa_le] at hf; omega
      rw [this]; rfl
    · refine m_ownI hW hn hs hi hk ?_ (fin _ rfl)
      have : ow (x.A 4) s i note 0 = true := by
        show decide _ = true
        rw [decide_eq_true]
        rw [fa_lt]; rw [fa_le] at hf; omega
      rw [this]; rfl
  · intro self
    dsimp only
    unfold wlX12_own_37
    exact ⟨fun _ => h, fun z => absurd (nI_le (a := 12) (b := 12) (by decide) (by decide)) z⟩
theorem s_own {t : Nat → St} {x : St} (h : Rel t x) (x1 x2 : Int32) : SimI (wpX11_own x1 x2 t) (wpX12_own x1 x2 x) := by
  obtain ⟨n, w, u, e1, e2, e3, hc, g⟩ := h.1.got
  have hn6 := g.2.1
  obtain ⟨q0, q1, q2, q3, q4, q5⟩ := g.nums
  obtain ⟨hR, hW⟩ := g.cur
  unfold SimI wpX11_own wpX12_own wjX11_own_22 wjX12_own_27 wpX12_bad
  refine k_hasNote q1 q5 (fun a b => b1e ?_) (fun a => b0e (k_bad ?_))
  · obtain ⟨k, ek, hk, _⟩ := toNI a
    subst ek
    refine k_hasSheet g.2.2.1 hn6 (fun c d => b1n ?_) (fun c => b0n (k_bad ?_))
    · obtain ⟨s, es, hs, _⟩ := toNI c
      subst es
      refine k_ownL hR hW hn6 (by omega) (by omega) ?_
      refine k_cellsDented hR hW hn6 (by omega) (by omega) ?_
      refine m_isNote q3 q5 (fun _ _ => b1e ?_) (fun z => absurd z (by omega))
      refine m_isSheet e1 hn6 (fun _ _ => b1n ?_) (fun z => absurd z (by omega))
      exact m_ownL hW hn6 (by omega) (by omega) ⟨own_eq hW (by omega) (by omega), h⟩
    · refine m_isNote q3 q5 (fun _ _ => b1e ?_) (fun z => absurd z (by omega))
      exact m_isSheet e1 hn6 (fun a1 a2 => absurd c (by omega)) (fun _ => b0n (m_ref0 ⟨rfl, R_bad h⟩))
  · exact m_isNote q3 q5 (fun a1 a2 => absurd a (by omega)) (fun _ => b0e (m_ref0 ⟨rfl, R_bad h⟩))
end
section
/-! counting bits -/
def bc (x0 : Int32) : Int32 :=
  let a := x0 - (((x0.toUInt32 >>> ((1 : Int32).toUInt32 &&& Int32.toUInt32 31)).toInt32) &&& 1431655765)
  let b := (a &&& 858993459) + (((a.toUInt32 >>> ((2 : Int32).toUInt32 &&& Int32.toUInt32 31)).toInt32) &&& 858993459)
  let c := (b + ((b.toUInt32 >>> ((4 : Int32).toUInt32 &&& Int32.toUInt32 31)).toInt32)) &&& 252645135
  let d := c + ((c.toUInt32 >>> ((8 : Int32).toUInt32 &&& Int32.toUInt32 31)).toInt32)
  let e := d + ((d.toUInt32 >>> ((16 : Int32).toUInt32 &&& Int32.toUInt32 31)).toInt32)
  e &&& 63
theorem k_bitCount {x : Int32} {Post : Int32 → Prop} (h : Post (bc x)) : wpJ6_bitCount_0f7a4 x Post := by
  intro a ea b eb c ec d ed e ee
  subst ea; subst eb; subst ec; subst ed; subst ee
  exact h
def pop (n : Nat) : Nat := (bc (nI n)).toNatClampNeg
theorem bc_all2 : ∀ a, a < 64 → ∀ b, b < 64 → bc (nI (64 * a + b)) = nI (pop (64 * a + b)) ∧ pop (64 * a + b) ≤ 12 := by decide +kernel
theorem bc_all (n : Nat) (hn : n < 4096) : bc (nI n) = nI (pop n) ∧ pop n ≤ 12 := by
  have h := bc_all2 (n / 64) (by omega) (n % 64) (by omega)
  rw [show 64 * (n / 64) + n % 64 = n by omega] at h
  exact h
theorem ones_all2 : ∀ a, a < 64 → ∀ b, b < 64 → 64 * a + b ≠ 0 → nI (64 * a + b) &&& (nI (64 * a + b) - 1) = nI ((64 * a + b) &&& ((64 * a + b) - 1)) ∧ ((64 * a + b) &&& ((64 * a + b) - 1)) < 64 * a + b ∧ pop (64 * a + b) = pop ((64 * a + b) &&& ((64 * a + b) - 1)) + 1 := by decide +kernel
theorem ones_all (n : Nat) (hn : n < 4096) (h0 : n ≠ 0) : nI n &&& (nI n - 1) = nI (n &&& (n - 1)) ∧ (n &&& (n - 1)) < n ∧ pop n = pop (n &&& (n - 1)) + 1 := by
  have h := ones_all2 (n / 64) (by omega) (n % 64) (by omega)
  rw [show 64 * (n / 64) + n % 64 = n by omega] at h
  exact h h0
theorem m_ones {n : Nat} (hn : n < 4096) {Post : Int32 → Prop} (h : Post (bc (nI n))) : wpX12_ones (nI n) Post := by
  rw [(bc_all n hn).1] at h
  refine it_rule (F := fun self z => wlX12_ones_4 Post _ self z.1 z.2) (fun z => ∃ a j : Nat, z = (nI a, nI j) ∧ j < 4096 ∧ a + pop j = pop n) (fun z => z.2.toNatClampNeg) ?_ _ ⟨0, n, rfl, hn, by omega⟩
  rintro self z ⟨a, j, rfl, hj, he⟩ hself
  dsimp only
  unfold wlX12_ones_4
  refine pk_eq j 0 (fun e => ?_) (fun e => ?_)
  · subst e
    have : pop 0 = 0 := by decide
    rw [show a = pop n by omega]
    exact h
  · intro y ey z ez
    obtain ⟨f1, f2, f3⟩ := ones_all j hj e
    rw [f1] at ez
    subst ey; subst ez
    rw [nI_1]
    refine hself _ ⟨a + 1, _, rfl, by omega, by omega⟩ ?_
    dsimp only
    rw [ncl (by omega), ncl (by omega)]
    exact f2
theorem small12 {x : Int32} (h : ∀ i, 12 ≤ i → i < 32 → bt x i = false) : ∃ n, n < 4096 ∧ x = nI n := by
  refine ⟨x.toBitVec.toNat % 4096, Nat.mod_lt _ (by decide), ?_⟩
  apply b_ext
  intro i hi
  rw [bt_nI hi, show (4096 : Nat) = 2 ^ 12 by decide, Nat.testBit_mod_two_pow]
  by_cases h12 : i < 12
  · simp [h12]
    unfold bt
    rw [BitVec.testBit_toNat]
  · rw [h i (by omega) hi]
    simp [h12]
/-! copies -/
def ndc (S T : Nat) : Nat → Int32
  | 0 => 0
  | i + 1 => if S.testBit (T + i) = true then ndc S T i ||| ((1 : Int32) <<< ((nI (T + i) - 1) &&& 31)) else ndc S T i
theorem ndc_s (S T i : Nat) : ndc S T (i + 1) = if S.testBit (T + i) = true then ndc S T i ||| ((1 : Int32) <<< ((nI (T + i) - 1) &&& 31)) else ndc S T i := rfl
def ndm (S : Nat) (ca : Int32) : Nat → Int32
  | 0 => 0
  | j + 1 => if S.testBit j = true then ndm S ca j ||| (((1 : Int32) <<< ((nI j - 1) &&& 31)) &&& (ca ^^^ (-1))) else ndm S ca j
theorem ndm_s (S : Nat) (ca : Int32) (j : Nat) : ndm S ca (j + 1) = if S.testBit j = true then ndm S ca j ||| (((1 : Int32) <<< ((nI j - 1) &&& 31)) &&& (ca ^^^ (-1))) else ndm S ca j := rfl
theorem and_or (a b c : Int32) : (a ||| b) &&& c = (a &&& c) ||| (b &&& c) := by
  apply b_ext
  intro i _
  rw [b_and, b_or, b_or, b_and, b_and]
  cases bt a i <;> cases bt b i <;> cases bt c i <;> rfl
theorem zero_and (c : Int32) : (0 : Int32) &&& c = 0 := by
  apply b_ext
  intro i _
  rw [b_and, b_0]; rfl
theorem ndm_low {S T : Nat} {ca : Int32} (hz : ∀ j, j < T → S.testBit j = false) : ∀ j, j ≤ T → ndm S ca j = 0
  | 0, _ => rfl
  | j + 1, hj => by
    rw [ndm_s, hz j (by omega), if_neg (by decide)]
    exact ndm_low hz j (by omega)
theorem nd_eq {S T : Nat} {ca : Int32} (hz : ∀ j, j < T → S.testBit j = false) : ∀ i, ndc S T i &&& (ca ^^^ (-1)) = ndm S ca (T + i)
  | 0 => by
    rw [Nat.add_zero, ndm_low hz T (Nat.le_refl T)]
    exact zero_and _
  | i + 1 => by
    rw [ndc_s, show T + (i + 1) = (T + i) + 1 by omega, ndm_s]
    by_cases hb : S.testBit (T + i) = true
    · rw [if_pos hb, if_pos hb, and_or, nd_eq hz i]
    · rw [if_neg hb, if_neg hb, nd_eq hz i]
theorem sub1 {j : Nat} (hj : 1 ≤ j) : nI j - 1 = nI (j - 1) := by
  have := nI_pred (j - 1)
  rw [show j - 1 + 1 = j by omega] at this
  exact this
/-- a set whose sheets are there -/
def okS (S T n : Nat) : Prop := (∀ j, j < T → S.testBit j = false) ∧ ∀ j, n ≤ j → S.testBit j = false
theorem okS_k {S T : Nat} (hS : S < 2 ^ 31) (hT : T ≤ 6) : nI S &&& (((1 : Int32) <<< (nI T &&& 31)) - 1) = 0 ↔ ∀ j, j < T → S.testBit j = false := by
  rw [shl1 T (by omega), sub1 Nat.one_le_two_pow, fa_and, show (0 : Int32) = nI 0 from rfl]
  have hle : S &&& (2 ^ T - 1) ≤ S := Nat.and_le_left
  rw [nI_eq (by omega) (by decide), Nat.and_two_pow_sub_one_eq_mod]
  constructor
  · intro h j hj
    have : (S % 2 ^ T).testBit j = false := by rw [h, Nat.zero_testBit]
    rw [Nat.testBit_mod_two_pow] at this
    simpa [hj] using this
  · intro h
    apply Nat.eq_of_testBit_eq
    intro j
    rw [Nat.testBit_mod_two_pow, Nat.zero_testBit]
    by_cases hj : j < T
    · rw [h j hj]; simp
    · simp [hj]
theorem lt_bits {S n : Nat} : S < 2 ^ n ↔ ∀ j, n ≤ j → S.testBit j = false := by
  constructor
  · intro h j hj
    exact Nat.testBit_lt_two_pow (Nat.lt_of_lt_of_le h (Nat.pow_le_pow_right (n := 2) (by decide) hj))
  · intro h
    exact Nat.lt_pow_two_of_testBit S (fun j hj => h j hj)
theorem okS_m {S T n : Nat} (hS : S < 2 ^ 31) (hT : T ≤ n) (hn : n ≤ 6) : nI S &&& (((((1 : Int32) <<< (nI n &&& 31)) - 1) &&& ((((1 : Int32) <<< (nI T &&& 31)) - 1) ^^^ (-1))) ^^^ (-1)) = 0 ↔ okS S T n := by
  rw [shl1 T (by omega), shl1 n (by omega), sub1 Nat.one_le_two_pow, sub1 Nat.one_le_two_pow]
  have hb : ∀ i, i < 32 → bt (nI S &&& ((nI (2 ^ n - 1) &&& (nI (2 ^ T - 1) ^^^ (-1))) ^^^ (-1))) i = (S.testBit i && !(decide (i < n) && !decide (i < T))) := by
    intro i hi
    rw [b_and, b_xor, b_and, b_xor, b_m1 i hi, bt_nI hi, bt_nI hi, bt_nI hi, Nat.testBit_two_pow_sub_one, Nat.testBit_two_pow_sub_one]
    simp
  constructor
  · intro h
    have h2 : ∀ i, i < 32 → (S.testBit i && !(decide (i < n) && !decide (i < T))) = false := fun i hi => by rw [← hb i hi, h, b_0]
    refine ⟨fun j hj => ?_, fun j hj => ?_⟩
    · have := h2 j (by omega)
      simpa [hj, show j < n by omega] using this
    · by_cases h32 : j < 32
      · have := h2 j h32
        simpa [show ¬ j < n by omega] using this
      · exact Nat.testBit_lt_two_pow (Nat.lt_of_lt_of_le hS (Nat.pow_le_pow_right (n := 2) (by decide) (by omega)))
  · rintro ⟨h1, h2⟩
    apply b_ext
    intro i hi
    rw [hb i hi, b_0]
    by_cases hT2 : i < T
    · rw [h1 i hT2]; rfl
    · by_cases hn2 : i < n
      · simp [hn2, hT2]
      · rw [h2 i (by omega)]; rfl
/-- the first sheet that has no copy -/
def cpP (S T k : Nat) (x3 : Int32) (i : Nat) : Bool := S.testBit (T + i) && (decide (i = 0) || decide (¬ 2 ≤ fo (nI k) x3 (nI i)))
theorem k_copL {t : Nat → St} {S T n k : Nat} {x3 x4 : Int32} (hS : S < 2 ^ 31) (eT : (t 2).A 0 0 = nI T) (hT : T ≤ n) (hn : n ≤ 6) (eI : (t 2).I 3 = nI n) {Post : Int32 → (Nat → St) → Prop} {KX : Int32 → Int32 → (Nat → St) → Prop} (hb : fa_first (cpP S T k x3) (n - T) < n - T → Post (-1) t) (hg : ¬ fa_first (cpP S T k x3) (n - T) < n - T → KX x4 (ndc S T (n - T)) t) : ∃ n, wLX11_copies_81 Post KX n (nI S, nI k, x3, x4, 0, nI T, t) := by
  have hf1 := fa_first_le (cpP S T k x3) (n - T)
  have hf2 := fa_first_no (cpP S T k x3) (n - T)
  have hf3 := fa_first_yes (cpP S T k x3) (n - T)
  generalize fa_first (cpP S T k x3) (n - T) = ft at hf1 hf2 hf3 hb hg
  refine for_rule (F := fun self z => wlX11_copies_81 Post KX self z.1 z.2.1 z.2.2.1 z.2.2.2.1 z.2.2.2.2.1 z.2.2.2.2.2.1 z.2.2.2.2.2.2) ft (fun i => (nI S, nI k, x3, x4, ndc S T i, nI (T + i), t)) ?_ ?_
  · intro self i hi hself
    dsimp only
    unfold wlX11_copies_81
    rw [eI]
    rw [ndc_s] at hself
    have hno := hf2 i hi
    unfold cpP at hno
    refine ⟨fun z => absurd z (nI_ge (by omega) (by omega)), fun _ => ?_⟩
    rw [has_0 hS (by omega)]
    refine ⟨fun e z ez => ?_, fun e => k_top ?_⟩
    · subst ez
      rw [nI_1]
      rw [if_neg (by rw [e]; decide)] at hself
      exact hself
    · have et : S.testBit (T + i) = true := by simpa using e
      rw [et] at hno
      simp at hno
      rw [eT, pk_sub (by omega), show T + i - T = i by omega]
      intro z ez
      subst ez
      refine ⟨fun e0 => absurd ((nI_eq (b := 0) (by omega) (by decide)).mp e0) hno.1, fun _ => ⟨fun _ y ey z ez => ?_, fun e2 => absurd hno.2 e2⟩⟩
      subst ey; subst ez
      rw [nI_1]
      rw [if_pos et] at hself
      exact hself
  · intro self
    dsimp only
    unfold wlX11_copies_81
    rw [eI]
    by_cases hft : ft < n - T
    · have hyes := hf3 hft
      unfold cpP at hyes
      simp at hyes
      refine ⟨fun z => absurd z (nI_ge (by omega) (by omega)), fun _ => ?_⟩
      rw [has_0 hS (by omega)]
      refine ⟨fun e => absurd hyes.1 (by rw [e]; decide), fun _ => k_top ?_⟩
      rw [eT, pk_sub (by omega), show T + ft - T = ft by omega]
      intro z ez
      subst ez
      refine ⟨fun _ => hb hft, fun e0 => ⟨fun e2 => ?_, fun _ => hb hft⟩⟩
      rcases hyes.2 with h0 | h0
      · exact absurd (show nI ft = 0 by rw [h0]; rfl) e0
      · exact absurd e2 (by rw [fa_le]; rw [fa_lt] at h0; omega)
    · have : ft = n - T := by omega
      subst this
      exact ⟨fun _ => hg hft, fun z => absurd (nI_le (by omega) (by omega)) z⟩
theorem m_copL {x : St} {S T n k : Nat} {x3 x4 : Int32} (hk : k < 6) (hS : S < 2 ^ 31) (eT : x.A 4 125 = nI T) (hT : T ≤ n) (hn : n ≤ 6) (eI : x.I 0 = nI n) (hz : ∀ j, j < T → S.testBit j = false) {Post : Int32 → St → Prop} {KX : Int32 → Int32 → St → Prop} (hb : fa_first (cpP S T k x3) (n - T) < n - T → Post (-1) x) (hg : ¬ fa_first (cpP S T k x3) (n - T) < n - T → KX x4 (ndm S (x.I 1) n) x) : ∃ n, wLX12_copies_67 Post KX n (nI S, nI k, x3, x4, 0, 0, x) := by
  have hf1 := fa_first_le (cpP S T k x3) (n - T)
  have hf2 := fa_first_no (cpP S T k x3) (n - T)
  have hf3 := fa_first_yes (cpP S T k x3) (n - T)
  generalize fa_first (cpP S T k x3) (n - T) = ft at hf1 hf2 hf3 hb hg
  refine for_rule (F := fun self z => wlX12_copies_67 Post KX self z.1 z.2.1 z.2.2.1 z.2.2.2.1 z.2.2.2.2.1 z.2.2.2.2.2.1 z.2.2.2.2.2.2) (T + ft) (fun j => (nI S, nI k, x3, x4, ndm S (x.I 1) j, nI j, x)) ?_ ?_
  · intro self j hj hself
    dsimp only
    unfold wlX12_copies_67
    rw [eI]
    rw [ndm_s] at hself
    refine ⟨fun z => absurd z (nI_ge (by omega) (by omega)), fun _ => m_has hS (by omega) (fun e => b1e ?_) (fun e => b0e ?_)⟩
    · by_cases hjT : j < T
      · rw [hz j hjT] at e; cases e
      · have hno := hf2 (j - T) (by omega)
        unfold cpP at hno
        rw [show T + (j - T) = j by omega, e] at hno
        simp at hno
        rw [eT, pk_sub (by omega)]
        intro z ez
        subst ez
        refine ⟨fun e0 => absurd ((nI_eq (b := 0) (by omega) (by decide)).mp e0) (by omega), fun _ => m_force hk ⟨fun _ y ey z ez => ?_, fun e2 => absurd hno.2 e2⟩⟩
        subst ey; subst ez
        rw [nI_1]
        rw [if_pos e] at hself
        exact hself
    · intro z ez
      subst ez
      rw [nI_1]
      rw [if_neg (by rw [e]; decide)] at hself
      exact hself
  · intro self
    dsimp only
    unfold wlX12_copies_67
    rw [eI]
    by_cases hft : ft < n - T
    · have hyes := hf3 hft
      unfold cpP at hyes
      simp at hyes
      refine ⟨fun z => absurd z (nI_ge (by omega) (by omega)), fun _ => m_has hS (by omega) (fun e => b1e ?_) (fun e => absurd hyes.1 (by rw [e]; decide))⟩
      rw [eT, pk_sub (by omega), show T + ft - T = ft by omega]
      intro z ez
      subst ez
      refine ⟨fun _ => hb hft, fun e0 => m_force hk ⟨fun e2 => ?_, fun _ => hb hft⟩⟩
      rcases hyes.2 with h0 | h0
      · exact absurd (show nI ft = 0 by rw [h0]; rfl) e0
      · exact absurd e2 (by rw [fa_le]; rw [fa_lt] at h0; omega)
    · have : T + ft = n := by omega
      rw [this]
      exact ⟨fun _ => hg hft, fun z => absurd (nI_le (Nat.le_refl _) (by omega)) z⟩
theorem ndc_small (S T : Nat) : ∀ i, T + i ≤ 6 → (∀ j, j < i → S.testBit (T + j) = true → j ≠ 0) → ∀ b, 12 ≤ b → b < 32 → bt (ndc S T i) b = false
  | 0, _, _, b, _, _ => b_0 b
  | i + 1, hi, hj, b, h1, h2 => by
    have ih := ndc_small S T i (by omega) (fun j hj2 => hj j (by omega)) b h1 h2
    rw [ndc_s]
    by_cases hb : S.testBit (T + i) = true
    · rw [if_pos hb, b_or, ih, sub1 (by have := hj i (by omega) hb; omega), bt_shl1 (by omega) h2]
      simp; omega
    · rw [if_neg hb]; exact ih
theorem and_small {x y : Int32} {b : Nat} (h : bt x b = false) : bt (x &&& y) b = false := by rw [b_and, h]; rfl
def copOK (x1 x2 x3 x4 : Int32) (T n S : Nat) : Prop := x1 = nI S ∧ S < 2 ^ 31 ∧ okS S T n ∧ 0 ≤ x2.toInt ∧ x2.toInt ≤ 5 ∧ 1 ≤ x3.toInt ∧ x3.toInt ≤ 9 ∧ 0 ≤ x4.toInt ∧ x4.toInt ≤ 1
/-- what copies answers -/
def copV (S T n k : Nat) (ca x3 x4 : Int32) : Int32 := if fa_first (cpP S T k x3) (n - T) < n - T then -1 else if x4 = 0 then bc (ndm S ca n) else ndm S ca n
theorem cop_small {S T n k : Nat} {x3 ca : Int32} (hT : T ≤ n) (hn : n ≤ 6) (hz : ∀ j, j < T → S.testBit j = false) (hf : ¬ fa_first (cpP S T k x3) (n - T) < n - T) : ∃ m, m < 4096 ∧ ndm S ca n = nI m := by
  apply small12
  intro b h1 h2
  have e := nd_eq (ca := ca) hz (n - T)
  rw [show T + (n - T) = n by omega] at e
  rw [← e]
  refine and_small (ndc_small S T (n - T) (by omega) (fun j hj hb h0 => ?_) b h1 h2)
  have hf2 := fa_first_no (cpP S T k x3) (n - T) j (by omega)
  unfold cpP at hf2
  rw [hb, h0] at hf2
  simp at hf2
theorem k_copies {t : Nat → St} {T n : Nat} (eT : (t 2).A 0 0 = nI T) (hT : T ≤ n) (hn : n ≤ 6) (eI : (t 2).I 3 = nI n) {x1 x2 x3 x4 : Int32} {Post : Int32 → (Nat → St) → Prop} (hb : (¬ ∃ S, copOK x1 x2 x3 x4 T n S) → Post (-10) (badT t)) (hg : ∀ S k, copOK x1 x2 x3 x4 T n S → k < 6 → x2 = nI k → Post (copV S T n k ((t 2).I 4) x3 x4) t) : wpX11_copies x1 x2 x3 x4 t Post := by
  unfold wpX11_copies
  refine k_top ?_
  intro z ez
  rw [eT] at ez
  refine k_hasSheets eI hn (fun a b => b1e ?_) (fun a => b0e ?_)
  · obtain ⟨S, eS, hS, hS31⟩ := toNI a
    subst eS
    rw [hS] at b
    have hSn : S < 2 ^ n := by omega
    have hbits := lt_bits.mp hSn
    rw [ez, okS_k hS31 (by omega)]
    refine ⟨fun e => ?_, fun e => ?_⟩
    · unfold wjX11_copies_44 wjX11_copies_62
      refine b0e (k_bad (hb ?_))
      rintro ⟨S', e1, e2, e3, -⟩
      have : S = S' := (nI_eq hS31 e2).mp e1
      subst this
      exact e e3.1
    · refine k_isPen (fun c1 c2 c3 c4 => b1e ?_) (fun c => b0e ?_)
      · unfold wjX11_copies_44 wjX11_copies_62
        refine b1e (v_le 0 1 (by decide) (by decide) (fun d => k_bad (hb ?_)) (fun d1 d2 => k_top ?_))
        · rintro ⟨S', e1, e2, e3, f1, f2, f3, f4, f5, f6⟩
          omega
        · obtain ⟨k, ek, hk, _⟩ := toNI c1
          have hok : copOK (nI S) x2 x3 x4 T n S := ⟨rfl, hS31, ⟨e, hbits⟩, c1, c2, c3, c4, d1, d2⟩
          have hp := hg S k hok (by omega) ek
          subst ek
          rw [eT]
          unfold copV at hp
          refine k_copL hS31 eT hT hn eI (fun hf => ?_) (fun hf => ?_)
          · rw [if_pos hf] at hp; exact hp
          · rw [if_neg hf] at hp
            have en := nd_eq (ca := (t 2).I 4) e (n - T)
            rw [show T + (n - T) = n by omega] at en
            rw [en]
            intro z ez
            subst ez
            refine ⟨fun h4 => ?_, fun h4 => ?_⟩
            · rw [if_neg h4] at hp; exact hp
            · rw [if_pos h4] at hp; exact k_bitCount hp
      · unfold wjX11_copies_44 wjX11_copies_62
        refine b0e (k_bad (hb ?_))
        rintro ⟨S', e1, e2, e3, f1, f2, f3, f4, f5, f6⟩
        exact c ⟨f1, f2, f3, f4⟩
  · unfold wjX11_copies_44 wjX11_copies_62
    refine b0e (k_bad (hb ?_))
    rintro ⟨S', e1, e2, e3, -⟩
    subst e1
    rw [nI_toInt e2] at a
    have := lt_bits.mpr e3.2
    omega
theorem m_copies {x : St} {T n : Nat} (eT : x.A 4 125 = nI T) (hT : T ≤ n) (hn : n ≤ 6) (eI : x.I 0 = nI n) {x1 x2 x3 x4 : Int32} {Post : Int32 → St → Prop} (hb : (¬ ∃ S, copOK x1 x2 x3 x4 T n S) → Post (-10) (refX x 0)) (hg : ∀ S k, copOK x1 x2 x3 x4 T n S → k < 6 → x2 = nI k → Post (copV S T n k (x.I 1) x3 x4) x) : wpX12_copies x1 x2 x3 x4 x Post := by
  unfold wpX12_copies wjX12_copies_56 wpX12_badLess
  intro z ez
  rw [eI, eT] at ez
  refine ⟨fun a => m_ref0 (hb ?_), fun a => ?_⟩
  · rintro ⟨S', e1, e2, -⟩
    subst e1
    exact nI_pos e2 a
  · obtain ⟨S, hS31, eS⟩ := nI_of a
    subst eS
    rw [ez, okS_m hS31 hT hn]
    refine ⟨fun e => m_ref0 (hb ?_), fun e => ?_⟩
    · rintro ⟨S', e1, e2, e3, -⟩
      have : S = S' := (nI_eq hS31 e2).mp e1
      subst this
      exact e e3
    · refine m_isPen (fun c1 c2 c3 c4 => b1e ?_) (fun c => b0e (m_ref0 (hb ?_)))
      · refine in_rule 0 1 (by decide) (by decide) (fun d1 d2 => b1n ?_) (fun d => b0n (m_ref0 (hb ?_)))
        · obtain ⟨k, ek, hk, _⟩ := toNI c1
          have hok : copOK (nI S) x2 x3 x4 T n S := ⟨rfl, hS31, e, c1, c2, c3, c4, d1, d2⟩
          have hp := hg S k hok (by omega) ek
          subst ek
          unfold copV at hp
          refine m_copL (by omega) hS31 eT hT hn eI e.1 (fun hf => ?_) (fun hf => ?_)
          · rw [if_pos hf] at hp; exact hp
          · rw [if_neg hf] at hp
            refine ⟨fun h4 => ?_, fun h4 => ?_⟩
            · rw [if_neg h4] at hp; exact hp
            · rw [if_pos h4] at hp
              obtain ⟨m, hm, em⟩ := cop_small (ca := x.I 1) hT hn e.1 hf
              rw [em] at hp ⊢
              exact m_ones hm hp
        · rintro ⟨S', e1, e2, e3, f1, f2, f3, f4, f5, f6⟩
          omega
      · rintro ⟨S', e1, e2, e3, f1, f2, f3, f4, f5, f6⟩
        exact c ⟨f1, f2, f3, f4⟩
theorem s_copies {t : Nat → St} {x : St} (h : Rel t x) (x1 x2 x3 x4 : Int32) : SimI (wpX11_copies x1 x2 x3 x4 t) (wpX12_copies x1 x2 x3 x4 x) := by
  obtain ⟨n, w, u, e1, e2, e3, hc, g⟩ := h.1.got
  have hn6 := g.2.1
  obtain ⟨q0, q1, q2, q3, q4, q5⟩ := g.nums
  refine k_copies q0 q4 hn6 g.2.2.1 (fun hb => ?_) (fun S k hok hk ek => ?_)
  · exact m_copies q2 q4 hn6 e1 (fun _ => ⟨rfl, R_bad h⟩) (fun S k hok _ _ => absurd ⟨S, hok⟩ hb)
  · refine m_copies q2 q4 hn6 e1 (fun hb => absurd ⟨S, hok⟩ hb) (fun S' k' hok' hk' ek' => ⟨?_, h⟩)
    have es : S = S' := (nI_eq hok.2.1 hok'.2.1).mp (hok.1.symm.trans hok'.1)
    have ekk : k = k' := (nI_eq (by omega) (by omega)).mp (ek.symm.trans ek')
    subst es; subst ekk
    rw [hc]
end
section
theorem z0I : (0 : Int32).toInt = 0 := by decide
theorem ge0 {x : Int32} (h : 0 ≤ x.toInt) : (0 : Int32) ≤ x := by rw [fa_le, z0I]; exact h
/-! dents put into a row -/
def dI (row : Nat → Int32) (f ce : Nat) (force : Int32) (i : Nat) : Nat → Int32 := fun j => if f ≤ j ∧ j < f + i ∧ ce.testBit (j - f) = true ∧ row j < force then force else row j
theorem dI_no {row : Nat → Int32} {f ce : Nat} {force : Int32} {i : Nat} (h : ¬ (ce.testBit i = true ∧ row (f + i) < force)) : dI row f ce force (i + 1) = dI row f ce force i := by
  funext j
  unfold dI
  by_cases hj : j = f + i
  · subst hj
    rw [if_neg (fun q => h ⟨by have := q.2.2.1; rwa [show f + i - f = i by omega] at this, q.2.2.2⟩), if_neg (fun q => by omega)]
  · by_cases hc : f ≤ j ∧ j < f + i ∧ ce.testBit (j - f) = true ∧ row j < force
    · rw [if_pos hc, if_pos ⟨hc.1, by omega, hc.2.2⟩]
    · rw [if_neg hc, if_neg (fun q => hc ⟨q.1, by omega, q.2.2⟩)]
theorem dI_yes {row : Nat → Int32} {f ce : Nat} {force : Int32} {i : Nat} (h : ce.testBit i = true ∧ row (f + i) < force) : dI row f ce force (i + 1) = upd (dI row f ce force i) (f + i) force := by
  funext j
  unfold dI upd
  by_cases hj : j = f + i
  · subst hj
    rw [if_pos ⟨by omega, by omega, by rw [show f + i - f = i by omega]; exact h.1, h.2⟩, if_pos rfl]
  · rw [if_neg hj]
    dsimp only
    by_cases hc : f ≤ j ∧ j < f + i ∧ ce.testBit (j - f) = true ∧ row j < force
    · rw [if_pos hc, if_pos ⟨hc.1, by omega, hc.2.2⟩]
    · rw [if_neg hc, if_neg (fun q => hc ⟨q.1, by omega, q.2.2⟩)]
theorem dI_at {row : Nat → Int32} {f ce : Nat} {force : Int32} {i : Nat} : dI row f ce force i (f + i) = row (f + i) := by
  unfold dI
  rw [if_neg (fun q => by omega)]
theorem dI_0 (row : Nat → Int32) (f ce : Nat) (force : Int32) : dI row f ce force 0 = row := by
  funext j
  unfold dI
  rw [if_neg (fun q => by omega)]
theorem k_dentInto {row : Nat → Int32} {f ce n : Nat} {force : Int32} (hf : f + 12 ≤ n) (hn : n < 2 ^ 31) (hce : ce < 2 ^ 31) {Post : (Nat → Int32) → Prop} (h : Post (dI row f ce force 12)) : wpX11_dentInto (nI f) (nI ce) force row n Post := by
  have e0 : ((nI f, nI ce, force, 0, row) : Int32 × Int32 × Int32 × Int32 × (Nat → Int32)) = (fun i => (nI f, nI ce, force, nI i, dI row f ce force i)) 0 := by
    show _ = (nI f, nI ce, force, nI 0, dI row f ce force 0)
    rw [dI_0]; rfl
  unfold wpX11_dentInto
  rw [e0]
  refine for_rule (F := fun self z => wlX11_dentInto_3 n Post _ self z.1 z.2.1 z.2.2.1 z.2.2.2.1 z.2.2.2.2) 12 (fun i => (nI f, nI ce, force, nI i, dI row f ce force i)) ?_ ?_
  · intro self i hi hself
    dsimp only
    unfold wlX11_dentInto_3
    refine ⟨fun z => absurd z (nI_ge (b := 12) hi (by decide)), fun _ y ey => ?_⟩
    rw [nI_add] at ey
    subst ey
    rw [has_0 hce (by omega), ncl (by omega), dI_at]
    refine ⟨fun hb z ez => ?_, fun hb => ⟨fun q => absurd q (nI_pos (by omega)), fun _ => ⟨fun q => absurd q (nI_ge (by omega) (by omega)), fun _ => ⟨vp_in_nI (by omega) (by omega), fun q z ez => ?_, fun q => ⟨vp_in_nI (by omega) (by omega), fun y ey z ez => ?_⟩⟩⟩⟩⟩
    · subst ez
      rw [nI_1]
      rw [dI_no (fun q => by rw [hb] at q; exact absurd q.1 (by decide))] at hself
      exact hself
    · subst ez
      rw [nI_1]
      rw [dI_no (fun w => by have := w.2; rw [fa_lt] at this; rw [fa_le] at q; omega)] at hself
      exact hself
    · subst ey; subst ez
      rw [nI_1]
      rw [dI_yes ⟨by simpa using hb, by rw [fa_lt]; rw [fa_le] at q; omega⟩] at hself
      exact hself
  · intro self
    dsimp only
    unfold wlX11_dentInto_3
    exact ⟨fun _ => h, fun z => absurd (nI_le (a := 12) (b := 12) (by decide) (by decide)) z⟩
/-! what known notes explain -/
def exN (st : Nat → Int32) (s K c : Nat) : Nat → Int32
  | 0 => 0
  | k + 1 => if K.testBit k = true ∧ exN st s K c k < frc st s c k then frc st s c k else exN st s K c k
theorem exN_s (st : Nat → Int32) (s K c k : Nat) : exN st s K c (k + 1) = if K.testBit k = true ∧ exN st s K c k < frc st s c k then frc st s c k else exN st s K c k := rfl
theorem mx_s (st : Nat → Int32) (s c k : Nat) : mx st s c (k + 1) = if mx st s c k < frc st s c k then frc st s c k else mx st s c k := rfl
theorem frc_T {st : Nat → Int32} {n s c k : Nat} (g : GN st n k) (hs : s < 6) : 0 ≤ (frc st s c k).toInt ∧ (frc st s c k).toInt ≤ 9 := by
  obtain ⟨e, hle⟩ := fOn_N g hs
  rw [frc_eq]
  by_cases hb : (ceN st k).testBit c = true
  · rw [if_pos hb, e, nI_toInt (by omega)]; omega
  · rw [if_neg hb]; decide
theorem exN_T {st : Nat → Int32} {n s K c : Nat} (hW : WF st n) (hs : s < 6) : ∀ m, m ≤ mN st → 0 ≤ (exN st s K c m).toInt ∧ (exN st s K c m).toInt ≤ (mx st s c m).toInt ∧ (mx st s c m).toInt ≤ 9
  | 0, _ => by
    show 0 ≤ (0 : Int32).toInt ∧ (0 : Int32).toInt ≤ (0 : Int32).toInt ∧ (0 : Int32).toInt ≤ 9
    decide
  | m + 1, hm => by
    obtain ⟨i1, i2, i3⟩ := exN_T (K := K) (c := c) hW hs m (by omega)
    obtain ⟨f1, f2⟩ := frc_T (c := c) (hW.2.2.2.2.1 m (by omega)) hs
    rw [exN_s, mx_s]
    by_cases h1 : K.testBit m = true ∧ exN st s K c m < frc st s c m <;> by_cases h2 : mx st s c m < frc st s c m
    · rw [if_pos h1, if_pos h2]; omega
    · rw [if_pos h1, if_neg h2]; rw [fa_lt] at h2; omega
    · rw [if_neg h1, if_pos h2]; rw [fa_lt] at h2; omega
    · rw [if_neg h1, if_neg h2]; omega
theorem m_explained {x : St} {n s K c : Nat} (hW : WF (x.A 4) n) (hn : n ≤ 6) (hs : s < 6) (hc : c < 12) (hK : K < 2 ^ 31) {Post : Int32 → Prop} (h : Post (exN (x.A 4) s K c (mN (x.A 4)))) : wpX12_explained (nI s) (nI K) (nI c) x Post := by
  have em := hW.2.2.1
  have hm := hW.2.2.2.1
  refine for_rule (F := fun self z => wlX12_explained_6 x Post _ self z.1 z.2.1 z.2.2.1 z.2.2.2.1 z.2.2.2.2) (mN (x.A 4)) (fun i => (nI s, nI K, nI c, exN (x.A 4) s K c i, nI i)) ?_ ?_
  · intro self i hi hself
    dsimp only at hself ⊢
    unfold wlX12_explained_6
    rw [em]
    rw [exN_s] at hself
    refine ⟨fun z => absurd z (nI_ge hi (by omega)), fun _ => m_has hK (by omega) (fun hb => b1e ?_) (fun hb => b0e ?_)⟩
    · refine m_forceIn hW hn hi hs hc ?_
      unfold wjX12_explained_39
      refine ⟨fun q z ez => ?_, fun q z ez => ?_⟩
      · subst ez
        rw [nI_1]
        rw [if_neg (fun w => by have := w.2; rw [fa_lt] at this; rw [fa_le] at q; omega)] at hself
        exact hself
      · subst ez
        rw [nI_1]
        rw [if_pos ⟨hb, by rw [fa_lt]; rw [fa_le] at q; omega⟩] at hself
        exact hself
    · unfold wjX12_explained_39
      have h0 := (exN_T (K := K) (c := c) hW hs i (by omega)).1
      refine ⟨fun q z ez => ?_, fun q => absurd (ge0 h0) q⟩
      subst ez
      rw [nI_1]
      rw [if_neg (fun w => by rw [hb] at w; exact absurd w.1 (by decide))] at hself
      exact hself
  · intro self
    dsimp only
    unfold wlX12_explained_6
    rw [em]
    exact ⟨fun _ => h, fun z => absurd (nI_le (Nat.le_refl _) (by omega)) z⟩
theorem k_look {x p : St} {st : Nat → Int32} {n s K : Nat} (hR : RP (p.A 0) p st) (hW : WF st n) (hn : n ≤ 6) (hs : s < 6) (hK : K < 2 ^ 31) {Post : St → Prop} (h : ∀ x' : St, (∀ c, c < 12 → x'.A 0 c = st (12 + 12 * s + c)) → (∀ c, c < 12 → x'.A 1 c = exN st s K c (mN st)) → Post x') : wpX2_look (nI s) (nI K) x p Post := by
  have em : p.A 0 1 = nI (mN st) := hR.2.1.trans hW.2.2.1
  have hm := hW.2.2.2.1
  unfold wpX2_look
  refine it_rule (F := fun self z => wlX2_look_3 p Post _ self z.1 z.2.1 z.2.2.1 z.2.2.2) (fun z => ∃ (i : Nat) (y : St), z = (nI s, nI K, nI i, y) ∧ i ≤ 12 ∧ (∀ c, c < i → y.A 0 c = st (12 + 12 * s + c)) ∧ ∀ c, c < i → y.A 1 c = 0) (fun z => 12 - z.2.2.1.toNatClampNeg) ?_ _ ⟨0, x, rfl, by omega, fun c hc => absurd hc (Nat.not_lt_zero c), fun c hc => absurd hc (Nat.not_lt_zero c)⟩
  rintro self z ⟨i, y, rfl, hi, h1, h2⟩ hself
  dsimp only at hself ⊢
  unfold wlX2_look_3
  refine pk_le 12 i (fun hle => ?_) (fun hlt => ?_)
  · have e12 : i = 12 := by omega
    subst e12
    refine it_rule (F := fun self z => wlX2_look_41 p Post _ self z.1 z.2.1 z.2.2.1 z.2.2.2) (fun z => ∃ (j : Nat) (y : St), z = (nI s, nI K, nI j, y) ∧ j ≤ mN st ∧ (∀ c, c < 12 → y.A 0 c = st (12 + 12 * s + c)) ∧ ∀ c, c < 12 → y.A 1 c = exN st s K c j) (fun z => mN st - z.2.2.1.toNatClampNeg) ?_ _ ⟨0, y, rfl, by omega, h1, h2⟩
    rintro self2 z ⟨j, y, rfl, hj, h3, h4⟩ hself2
    dsimp only at hself2 ⊢
    unfold wlX2_look_41
    refine k_noteCount ?_
    rw [em]
    refine pk_le (mN st) j (fun hle2 => ?_) (fun hlt2 => ?_)
    · have ej : j = mN st := by omega
      subst ej
      exact h y h3 h4
    · have g := hW.2.2.2.2.1 j hlt2
      rw [has_0 hK (by omega), ncl (by omega)]
      refine ⟨fun hb z ez => ?_, fun hb => ⟨vp_in_nI (by omega) (by omega), k_forceOn hR hW hn hlt2 hs ?_⟩⟩
      · subst ez
        rw [nI_1]
        refine hself2 _ ⟨j + 1, y, rfl, by omega, h3, fun c hc => ?_⟩ (by dsimp only; rw [ncl (by omega), ncl (by omega)]; omega)
        rw [h4 c hc, exN_s, if_neg (fun w => by rw [hb] at w; exact absurd w.1 (by decide))]
      · have hbt : K.testBit j = true := by simpa using hb
        rw [(hR.2.2.2 j hlt2).2.2.1, g.2.2.2.2.2.1]
        refine k_dentInto (f := 0) (by omega) (by decide) (by have := g.2.2.2.2.2.2.1; omega) ?_
        intro z ez
        subst ez
        rw [nI_1]
        refine hself2 _ ⟨j + 1, _, rfl, by omega, h3, fun c hc => ?_⟩ (by dsimp only; rw [ncl (by omega), ncl (by omega)]; omega)
        show dI (y.A 1) 0 (ceN st j) (fOn st s j) 12 c = _
        unfold dI
        rw [exN_s, frc_eq, h4 c hc, show c - 0 = c by omega]
        have h0 := (exN_T (K := K) (c := c) hW hs j (by omega)).1
        by_cases ht : (ceN st j).testBit c = true
        · rw [if_pos ht]
          by_cases hl : exN st s K c j < fOn st s j
          · rw [if_pos ⟨by omega, by omega, ht, hl⟩, if_pos ⟨hbt, hl⟩]
          · rw [if_neg (fun w => hl w.2.2.2), if_neg (fun w => hl w.2)]
        · rw [if_neg ht, if_neg (fun w => ht w.2.2.1), if_neg (fun w => by
            have := w.2
            rw [fa_lt] at this
            have z0 : (0 : Int32).toInt = 0 := by decide
            omega)]
  · refine k_dentOf hs hlt ⟨vp_in_nI (by omega) (by omega), fun y1 e1 => ⟨vp_in_nI (by omega) (by omega), fun y2 e2 z ez => ?_⟩⟩
    rw [ncl (by omega)] at e1 e2
    subst e1; subst e2; subst ez
    rw [nI_1]
    refine hself _ ⟨i + 1, _, rfl, by omega, fun c hc => ?_, fun c hc => ?_⟩ (by dsimp only; rw [ncl (by omega), ncl (by omega)]; omega)
    · show upd (y.A 0) i (p.A 0 (4 + 14 * s + i)) c = _
      unfold upd
      by_cases hci : c = i
      · rw [if_pos hci, hci]; exact (hR.2.2.1 s hs).2.2 i hlt
      · rw [if_neg hci]; exact h1 c (by omega)
    · show upd (y.A 1) i 0 c = 0
      unfold upd
      by_cases hci : c = i
      · rw [if_pos hci]
      · rw [if_neg hci]; exact h2 c (by omega)
end
section
def okR (se ex : Nat → Int32) (f : Int32) : Nat → Bool
  | 0 => decide (0 < f)
  | c + 1 => okR se ex f c && (decide (se c = ex c) || decide (se c = f))
theorem okR_s (se ex : Nat → Int32) (f : Int32) (c : Nat) : okR se ex f (c + 1) = (okR se ex f c && (decide (se c = ex c) || decide (se c = f))) := rfl
theorem okR_mono {se ex : Nat → Int32} {f : Int32} {i : Nat} (h : okR se ex f i = false) : ∀ j, i ≤ j → okR se ex f j = false := by
  intro j hj
  induction j with
  | zero => rw [show i = 0 by omega] at h; exact h
  | succ j ih =>
    by_cases hij : i = j + 1
    · rw [hij] at h; exact h
    · rw [okR_s, ih (by omega)]; rfl
theorem okR_cong {se ex se' ex' : Nat → Int32} {f : Int32} : ∀ n, (∀ c, c < n → se c = se' c ∧ ex c = ex' c) → okR se ex f n = okR se' ex' f n
  | 0, _ => rfl
  | n + 1, h => by
    rw [okR_s, okR_s, okR_cong n (fun c hc => h c (by omega)), (h n (by omega)).1, (h n (by omega)).2]
def muB (se ex : Nat → Int32) (c : Nat) : Bool := decide (¬ se c = ex c)
def maB (se ex : Nat → Int32) (f : Int32) (c : Nat) : Bool := decide (¬ se c = ex c) || decide (¬ ex c < f)
theorem k_guess {x : St} {se ex : Nat → Int32} {f : Int32} (h0 : ∀ c, c < 12 → x.A 0 c = se c) (h1 : ∀ c, c < 12 → x.A 1 c = ex c) {Post : Int32 → St → Prop} (hy : okR se ex f 12 = true → ∀ x' : St, x'.2 = x.2 → x'.I 2 = bitsN (muB se ex) 12 → x'.I 3 = bitsN (maB se ex f) 12 → Post 1 x') (hn : okR se ex f 12 = false → ∀ x' : St, x'.2 = x.2 → Post 0 x') : wpX2_guess f x Post := by
  intro y1 e1 y2 e2
  subst e1; subst e2
  refine ⟨fun hf => ?_, fun hf => ?_⟩
  · refine it_rule (F := fun self z => wlX2_guess_18 Post _ self z.1 z.2.1 z.2.2) (fun z => ∃ (i : Nat) (y : St), z = (f, nI i, y) ∧ i ≤ 12 ∧ okR se ex f i = true ∧ y.2 = x.2 ∧ y.I 2 = bitsN (muB se ex) i ∧ y.I 3 = bitsN (maB se ex f) i) (fun z => 12 - z.2.1.toNatClampNeg) ?_ _ ⟨0, _, rfl, by omega, by show decide _ = true; simpa using hf, rfl, rfl, rfl⟩
    rintro self z ⟨i, y, rfl, hi, ho, ey, e2, e3⟩ hself
    dsimp only at hself ⊢
    unfold wlX2_guess_18
    refine pk_le 12 i (fun hle => ?_) (fun hlt => ?_)
    · have e12 : i = 12 := by omega
      subst e12
      exact hy ho y ey e2 e3
    · have a0 : y.A 0 i = se i := by rw [← h0 i hlt]; show y.2.2 0 i = x.2.2 0 i; rw [ey]
      have a1 : y.A 1 i = ex i := by rw [← h1 i hlt]; show y.2.2 1 i = x.2.2 1 i; rw [ey]
      have hv : vp_in (nI i) 12 := vp_in_nI (by omega) (by omega)
      rw [ncl (by omega), a0, a1]
      have hmu := bitsN_s (muB se ex) i
      have hma := bitsN_s (maB se ex f) i
      have fin : ∀ y' : St, y'.2 = x.2 → y'.I 2 = bitsN (muB se ex) (i + 1) → y'.I 3 = bitsN (maB se ex f) (i + 1) → okR se ex f (i + 1) = true → self (f, nI (i + 1), y') := fun y' g1 g2 g3 g4 => hself _ ⟨i + 1, y', rfl, by omega, g4, g1, g2, g3⟩ (by dsimp only; rw [ncl (by omega), ncl (by omega)]; omega)
      refine ⟨hv, hv, fun he => ?_, fun he => ?_⟩
      · have m1 : muB se ex i = false := by unfold muB; simpa using he
        have o1 : okR se ex f (i + 1) = true := by rw [okR_s, ho, decide_eq_true he]; rfl
        rw [m1] at hmu
        unfold wjX2_guess_44
        refine b0e ?_
        unfold wjX2_guess_61
        refine b0e ?_
        unfold wjX2_guess_77
        rw [ncl (by omega), a1]
        refine b0n ⟨hv, fun hl z ez => ?_, fun hl => ?_⟩
        · have m2 : maB se ex f i = false := by unfold maB; simp [he, hl]
          rw [m2] at hma
          subst ez
          rw [nI_1]
          exact fin y ey (e2.trans hmu.symm) (e3.trans hma.symm) o1
        · have m2 : maB se ex f i = true := by unfold maB; simp [hl]
          rw [m2] at hma
          unfold wjX2_guess_91
          intro y' ey' z ez
          subst ey'; subst ez
          rw [nI_1]
          refine fin _ ey (e2.trans hmu.symm) ?_ o1
          show y.I 3 ||| _ = _
          rw [e3]; exact hma.symm
      · have m1 : muB se ex i = true := by unfold muB; simpa using he
        have m2 : maB se ex f i = true := by unfold maB; simp [he]
        rw [m1] at hmu
        rw [m2] at hma
        unfold wjX2_guess_44
        rw [ncl (by omega), a0]
        refine b1e ⟨hv, fun hl => ?_, fun hl => ?_⟩
        · have o1 : okR se ex f (i + 1) = true := by rw [okR_s, ho, decide_eq_true hl]; simp
          unfold wjX2_guess_61
          refine b1e ?_
          intro y' ey'
          subst ey'
          unfold wjX2_guess_77
          refine b1n ?_
          unfold wjX2_guess_91
          intro y' ey' z ez
          subst ey'; subst ez
          rw [nI_1]
          refine fin _ ey ?_ ?_ o1
          · show y.I 2 ||| _ = _
            rw [e2]; exact hmu.symm
          · show y.I 3 ||| _ = _
            rw [e3]; exact hma.symm
        · refine hn (okR_mono (i := i + 1) ?_ 12 (by omega)) y ey
          rw [okR_s, decide_eq_false he, decide_eq_false hl, ho]; rfl
  · refine hn (okR_mono (i := 0) ?_ 12 (by omega)) _ rfl
    show decide _ = false
    simpa using hf
theorem m_isLost {x : St} {n s K : Nat} {f : Int32} (hW : WF (x.A 4) n) (hn : n ≤ 6) (hs : s < n) (hK : K < 2 ^ 31) {se ex : Nat → Int32} (hse : ∀ c, c < 12 → x.A 4 (12 + 12 * s + c) = se c) (hex : ∀ c, c < 12 → exN (x.A 4) s K c (mN (x.A 4)) = ex c) {Post : Int32 → St → Prop} (h : ∀ x' : St, x'.2 = x.2 → (∀ k, k ≠ 21 → k ≠ 22 → x'.I k = x.I k) → x'.I 21 = bitsN (muB se ex) 12 → x'.I 22 = bitsN (maB se ex f) 12 → Post (if okR se ex f 12 then 1 else 0) x') : wpX12_isLost (nI s) (nI K) f x Post := by
  have hle : ∀ c, c < 12 → (ex c).toInt ≤ (se c).toInt := fun c hc => by
    rw [← hse c hc, ← hex c hc, hW.2.2.2.2.2 s hs c hc]
    exact (exN_T (K := K) (c := c) hW (by omega) (mN (x.A 4)) (Nat.le_refl _)).2.1
  have loop : ∀ (b : Int32) (y0 : St), b = (if okR se ex f 0 then 1 else 0) → y0.2 = x.2 → (∀ k, k ≠ 21 → k ≠ 22 → y0.I k = x.I k) → y0.I 21 = 0 → y0.I 22 = 0 → ∃ n, wLX12_isLost_24 Post (fun (y8 : Int32) (p9 : St) => vb y8 ∧ Post y8 p9) n (nI s, nI K, f, b, 0, y0) := by
    intro b y0 eb e1 e2 e3 e4
    refine it_rule (F := fun self z => wlX12_isLost_24 Post (fun (y8 : Int32) (p9 : St) => vb y8 ∧ Post y8 p9) self z.1 z.2.1 z.2.2.1 z.2.2.2.1 z.2.2.2.2.1 z.2.2.2.2.2) (fun z => ∃ (i : Nat) (y : St), z = (nI s, nI K, f, if okR se ex f i then 1 else 0, nI i, y) ∧ i ≤ 12 ∧ y.2 = x.2 ∧ (∀ k, k ≠ 21 → k ≠ 22 → y.I k = x.I k) ∧ y.I 21 = bitsN (muB se ex) i ∧ y.I 22 = bitsN (maB se ex f) i) (fun z => 12 - z.2.2.2.2.1.toNatClampNeg) ?_ _ ⟨0, y0, by rw [eb]; rfl, by omega, e1, e2, e3, e4⟩
    rintro self z ⟨i, y, rfl, hi, g1, g2, g3, g4⟩ hself
    dsimp only at hself ⊢
    unfold wlX12_isLost_24
    refine pk_le 12 i (fun hle12 => ?_) (fun hlt => ?_)
    · have e12 : i = 12 := by omega
      subst e12
      refine ⟨?_, h y g1 g2 g3 g4⟩
      cases okR se ex f 12
      · exact vb0
      · exact vb1
    · have hA : y.A 4 = x.A 4 := by show y.2.2 4 = x.2.2 4; rw [g1]
      refine m_dentOf (by omega) hlt ?_
      rw [hA, hse i hlt]
      refine m_explained (n := n) (by rw [hA]; exact hW) hn (by omega) hlt hK ?_
      rw [hA, hex i hlt]
      have hmu := bitsN_s (muB se ex) i
      have hma := bitsN_s (maB se ex f) i
      have hles := hle i hlt
      have fin : ∀ y' : St, y'.2 = x.2 → (∀ k, k ≠ 21 → k ≠ 22 → y'.I k = x.I k) → y'.I 21 = bitsN (muB se ex) (i + 1) → y'.I 22 = bitsN (maB se ex f) (i + 1) → self (nI s, nI K, f, if okR se ex f (i + 1) then 1 else 0, nI (i + 1), y') := fun y' f1 f2 f3 f4 => hself _ ⟨i + 1, y', rfl, by omega, f1, f2, f3, f4⟩ (by dsimp only; rw [ncl (by omega), ncl (by omega)]; omega)
      have core : ∀ b : Int32, b = (if okR se ex f (i + 1) then 1 else 0) → wjX12_isLost_73 Post self (fun (y8 : Int32) (p9 : St) => vb y8 ∧ Post y8 p9) (nI s) (nI K) f (nI i) (se i) (ex i) b y := by
        intro b eb
        unfold wjX12_isLost_73
        have tail : ∀ a : Int32, y.I 21 ||| a = bitsN (muB se ex) (i + 1) → wjX12_isLost_95 Post self (fun (y8 : Int32) (p9 : St) => vb y8 ∧ Post y8 p9) (nI s) (nI K) f b (nI i) (se i) (ex i) a (y.I 21) y := by
          intro a ea
          unfold wjX12_isLost_95
          intro y1 ey1
          have t1 : y1.2 = x.2 := by rw [ey1]; exact g1
          have t2 : ∀ k, k ≠ 21 → k ≠ 22 → y1.I k = x.I k := fun k k1 k2 => by
            rw [ey1, sI_I, if_neg k1]; exact g2 k k1 k2
          have t3 : y1.I 21 = bitsN (muB se ex) (i + 1) := by rw [ey1, sI_I, if_pos rfl]; exact ea
          have t4 : y1.I 22 = bitsN (maB se ex f) i := by rw [ey1, sI_I, if_neg (by decide)]; exact g4
          have last : ∀ c : Int32, bitsN (maB se ex f) i ||| c = bitsN (maB se ex f) (i + 1) → wjX12_isLost_125 Post self (fun (y8 : Int32) (p9 : St) => vb y8 ∧ Post y8 p9) (nI s) (nI K) f b (nI i) c (y1.I 22) y1 := by
            intro c ec
            unfold wjX12_isLost_125
            intro y2 ey2 z ez
            subst ez
            rw [nI_1, eb]
            refine fin y2 (by rw [ey2]; exact t1) (fun k k1 k2 => ?_) ?_ ?_
            · rw [ey2, sI_I, if_neg k2]; exact t2 k k1 k2
            · rw [ey2, sI_I, if_neg (by decide)]; exact t3
            · rw [ey2, sI_I, if_pos rfl, t4]; exact ec
          unfold wjX12_isLost_117
          refine ⟨fun q => last _ ?_, fun q => ⟨fun q2 => last _ ?_, fun q2 => last _ ?_⟩⟩
          · have : maB se ex f i = true := by
              have hne : ¬ se i = ex i := fun w => by rw [w] at q; rw [fa_lt] at q; omega
              unfold maB
              simp [hne]
            rw [this] at hma; exact hma.symm
          · have : maB se ex f i = false := by
              unfold maB
              have e : se i = ex i := by rw [fa_eq]; rw [fa_lt] at q; omega
              simp [e, q2]
            rw [this] at hma; rw [or_0]; exact hma.symm
          · have : maB se ex f i = true := by unfold maB; simp [q2]
            rw [this] at hma; exact hma.symm
        refine ⟨fun q => tail _ ?_, fun q => tail _ ?_⟩
        · have : muB se ex i = false := by
            unfold muB
            have e : se i = ex i := by rw [fa_eq]; rw [fa_le] at q; omega
            simp [e]
          rw [this] at hmu
          rw [or_0, g3]; exact hmu.symm
        · have : muB se ex i = true := by
            have hne : ¬ se i = ex i := fun w => by rw [w] at q; rw [fa_le] at q; omega
            unfold muB
            simp [hne]
          rw [this] at hmu
          rw [g3]; exact hmu.symm
      cases ho : okR se ex f i with
      | false => exact b0e (core 0 (by rw [okR_s, ho]; rfl))
      | true =>
        refine b1e ⟨fun q => core 1 (by rw [okR_s, ho, decide_eq_true q]; rfl), fun q => ⟨fun q2 => core 0 (by rw [okR_s, ho, decide_eq_false q, decide_eq_false q2]; rfl), fun q2 => core 1 (by rw [okR_s, ho, decide_eq_true q2]; simp)⟩⟩
  intro y1 ey1 y2 ey2
  subst ey1; subst ey2
  refine ⟨fun hf => loop 0 _ ?_ rfl (fun k k1 k2 => ?_) rfl rfl, fun hf => loop 1 _ ?_ rfl (fun k k1 k2 => ?_) rfl rfl⟩
  · have : okR se ex f 0 = false := by
      show decide _ = false
      rw [decide_eq_false]; rw [fa_lt]; rw [fa_le] at hf; omega
    rw [this]; rfl
  · rw [sI_I, if_neg k2, sI_I, if_neg k1]
  · have : okR se ex f 0 = true := by
      show decide _ = true
      rw [decide_eq_true]; rw [fa_lt]; rw [fa_le] at hf; omega
    rw [this]; rfl
  · rw [sI_I, if_neg k2, sI_I, if_neg k1]
/-! which words fit -/
def fitB (mu ma c : Int32) : Bool := decide (c &&& mu = mu) && decide (c &&& (ma ^^^ (-1)) = 0)
theorem fit_iff (m c : Int32) : (m &&& (c ^^^ (-1))) = 0 ↔ c &&& m = m := by
  constructor
  · intro h
    apply b_ext
    intro i hi
    have := congrArg (fun z => bt z i) h
    simp only [b_and, b_xor, b_m1 i hi, b_0] at this
    rw [b_and]
    cases hc : bt c i <;> cases hm : bt m i <;> simp_all
  · intro h
    apply b_ext
    intro i hi
    have := congrArg (fun z => bt z i) h
    simp only [b_and] at this
    rw [b_and, b_xor, b_m1 i hi, b_0]
    cases hc : bt c i <;> cases hm : bt m i <;> simp_all
theorem k_isFit {x : St} {c : Int32} {Post : Int32 → Prop} (h : Post (if fitB (x.I 2) (x.I 3) c then 1 else 0)) : wpX2_isFit c x Post := by
  unfold fitB at h
  refine ⟨fun q => ?_, fun q => ⟨fun q2 => ?_, fun q2 => ?_⟩⟩
  · rw [decide_eq_false q] at h; exact h
  · rw [decide_eq_true q, decide_eq_false q2] at h; exact h
  · rw [decide_eq_true q, decide_eq_true q2] at h; exact h
theorem m_fits {x : St} {c : Int32} {Post : Int32 → Prop} (h : Post (if fitB (x.I 21) (x.I 22) c then 1 else 0)) : wpX12_fits c x Post := by
  unfold wpX12_fits
  rw [fit_iff]
  unfold fitB at h
  refine ⟨fun q => ?_, fun q => ⟨fun q2 => ?_, fun q2 => ?_⟩⟩
  · rw [decide_eq_false q] at h; exact h
  · rw [decide_eq_true q, decide_eq_false q2] at h; exact h
  · rw [decide_eq_true q, decide_eq_true q2] at h; exact h
end
section
/-- the relation doesn't look at the model's must and may -/
theorem R_mm {t : Nat → St} {x x' : St} (h : Rel t x) (e1 : x'.2 = x.2) (e2 : ∀ k, k ≠ 21 → k ≠ 22 → x'.I k = x.I k) : Rel t x' := by
  have hA : ∀ k, x'.A k = x.A k := fun k => by show x'.2.2 k = x.2.2 k; rw [e1]
  have hL : ∀ k, x'.L k = x.L k := fun k => by show x'.2.1 k = x.2.1 k; rw [e1]
  unfold Rel NowR ObjR TxtR ImsR at *
  rw [hA, hA, hA, hA, hA, hA, hA, hL, hL, e2 0 (by decide) (by decide), e2 1 (by decide) (by decide), e2 3 (by decide) (by decide), e2 6 (by decide) (by decide), e2 11 (by decide) (by decide)]
  exact h
theorem k_words {t : Nat → St} {w : Nat} (ew : (t 2).I 11 = nI w) (hw : w ≤ 8) {Post : Int32 → Prop} (h : Post (bitsN (fun i => fitB ((t 6).I 2) ((t 6).I 3) ((t 2).A 10 i)) w)) : wpX11_wordsThatFit t Post := by
  refine for_rule (F := fun self z => wlX11_wordsThatFit_4 t Post _ self z.1 z.2) w (fun i => (bitsN (fun i => fitB ((t 6).I 2) ((t 6).I 3) ((t 2).A 10 i)) i, nI i)) ?_ ?_
  · intro self i hi hself
    dsimp only at hself ⊢
    rw [bitsN_s] at hself
    unfold wlX11_wordsThatFit_4
    rw [ew, ncl (by omega)]
    refine ⟨fun z => absurd z (nI_ge hi (by omega)), fun _ => ⟨vp_in_nI (by omega) (by omega), k_isFit ?_⟩⟩
    cases hf : fitB ((t 6).I 2) ((t 6).I 3) ((t 2).A 10 i) with
    | false =>
      rw [hf] at hself
      refine b0e ?_
      intro z ez
      subst ez
      rw [nI_1]; exact hself
    | true =>
      rw [hf] at hself
      refine b1e ?_
      intro y ey z ez
      subst ey; subst ez
      rw [nI_1]; exact hself
  · intro self
    dsimp only
    unfold wlX11_wordsThatFit_4
    rw [ew]
    exact ⟨fun _ => h, fun z => absurd (nI_le (Nat.le_refl _) (by omega)) z⟩
theorem m_wordsL {x : St} {w : Nat} {a b : Int32} (ew : x.I 3 = nI w) (hw : w ≤ 8) {Post : Int32 → St → Prop} {KX : Int32 → Int32 → Int32 → St → Prop} (h : KX a b (bitsN (fun i => fitB (x.I 21) (x.I 22) (x.A 2 i)) w) x) : ∃ n, wLX12_lost_110 Post KX n (a, b, 0, 0, x) := by
  refine for_rule (F := fun self z => wlX12_lost_110 Post KX self z.1 z.2.1 z.2.2.1 z.2.2.2.1 z.2.2.2.2) w (fun i => (a, b, bitsN (fun i => fitB (x.I 21) (x.I 22) (x.A 2 i)) i, nI i, x)) ?_ ?_
  · intro self i hi hself
    dsimp only at hself ⊢
    rw [bitsN_s] at hself
    unfold wlX12_lost_110
    rw [ew, ncl (by omega)]
    refine ⟨fun z => absurd z (nI_ge hi (by omega)), fun _ => ⟨vp_in_nI (by omega) (by omega), m_fits ?_⟩⟩
    cases hf : fitB (x.I 21) (x.I 22) (x.A 2 i) with
    | false =>
      rw [hf] at hself
      refine b0e ?_
      intro y ey z ez
      subst ey; subst ez
      rw [nI_1, or_0]; exact hself
    | true =>
      rw [hf] at hself
      refine b1e ?_
      intro y ey z ez
      subst ey; subst ez
      rw [nI_1]; exact hself
  · intro self
    dsimp only
    unfold wlX12_lost_110
    rw [ew]
    exact ⟨fun _ => h, fun z => absurd (nI_le (Nat.le_refl _) (by omega)) z⟩
def seS (st : Nat → Int32) (s c : Nat) : Int32 := st (12 + 12 * s + c)
def exS (st : Nat → Int32) (s K c : Nat) : Int32 := exN st s K c (mN st)
theorem bits_small (P : Nat → Bool) (y : Int32) : ∃ m, m < 4096 ∧ bitsN P 12 &&& y = nI m := by
  apply small12
  intro i h1 h2
  refine and_small ?_
  rw [bt_bitsN P 12 (by omega) i h2]
  simp; omega
/-- what lost answers -/
def lostV (st wo : Nat → Int32) (s K w : Nat) (f x6 : Int32) : Int32 :=
  if okR (seS st s) (exS st s K) f 12 then
    (if x6 = 0 then bitsN (muB (seS st s) (exS st s K)) 12 else if x6 = 1 then bitsN (maB (seS st s) (exS st s K) f) 12 else if x6 = 2 then (1 : Int32) <<< (bc (bitsN (maB (seS st s) (exS st s K) f) 12 &&& (bitsN (muB (seS st s) (exS st s K)) 12 ^^^ (-1))) &&& 31)
     else bitsN (fun i => fitB (bitsN (muB (seS st s) (exS st s K)) 12) (bitsN (maB (seS st s) (exS st s K) f) 12) (wo i)) w)
  else if 2 ≤ x6 then 0 else -1
def lostOK (x1 x2 x3 x4 x5 x6 : Int32) (n m : Nat) : Prop := (0 ≤ x1.toInt ∧ x1.toInt < n) ∧ (0 ≤ x2.toInt ∧ x2.toInt < ((2 ^ m : Nat) : Int)) ∧ (0 ≤ x3.toInt ∧ x3.toInt ≤ 5 ∧ 1 ≤ x4.toInt ∧ x4.toInt ≤ 9) ∧ (0 ≤ x5.toInt ∧ x5.toInt ≤ 5) ∧ 0 ≤ x6.toInt ∧ x6.toInt ≤ 3
theorem k_lost {t : Nat → St} {st wo : Nat → Int32} {n w : Nat} (hR : RP ((t 2).A 0) (t 2) st) (hW : WF st n) (hn : n ≤ 6) (eI : (t 2).I 3 = nI n) (ew : (t 2).I 11 = nI w) (hw : w ≤ 8) (hwo : ∀ i, i < w → (t 2).A 10 i = wo i) {x1 x2 x3 x4 x5 x6 : Int32} {Post : Int32 → (Nat → St) → Prop} (hb : ¬ lostOK x1 x2 x3 x4 x5 x6 n (mN st) → Post (-10) (badT t)) (hg : lostOK x1 x2 x3 x4 x5 x6 n (mN st) → ∀ s K y, x1 = nI s → s < 6 → x2 = nI K → K < 2 ^ 31 → Post (lostV st wo s K w (fo x3 x4 x5) x6) (upS t 6 y)) : wpX11_lost x1 x2 x3 x4 x5 x6 t Post := by
  have em : (t 2).A 0 1 = nI (mN st) := hR.2.1.trans hW.2.2.1
  have hm := hW.2.2.2.1
  have fail : ¬ lostOK x1 x2 x3 x4 x5 x6 n (mN st) → wjX11_lost_36 Post x1 x2 x3 x4 x5 x6 0 t := fun q => by
    unfold wjX11_lost_36 wjX11_lost_62
    exact b0e (k_bad (hb q))
  unfold wpX11_lost
  refine k_hasSheet eI hn (fun a1 a2 => b1e ?_) (fun a => b0e (fail (fun q => ?_)))
  · refine k_hasNotes em hm (fun b1 b2 => b1e ?_) (fun b => b0e (fail (fun q => ?_)))
    · refine k_isPen (fun c1 c2 c3 c4 => b1e ?_) (fun c => b0e (fail (fun q => c q.2.2.1)))
      unfold wjX11_lost_36 wjX11_lost_62
      refine b1e (k_isDepth (fun d1 d2 => b1e ?_) (fun d => b0e (k_bad (hb (fun q => ?_)))))
      · refine v_le 0 3 (by decide) (by decide) (fun e => k_bad (hb (fun q => ?_))) (fun e1 e2 => ?_)
        · have := q.2.2.2.2; omega
        · have hok : lostOK x1 x2 x3 x4 x5 x6 n (mN st) := ⟨⟨a1, a2⟩, ⟨b1, b2⟩, ⟨c1, c2, c3, c4⟩, ⟨d1, d2⟩, e1, e2⟩
          obtain ⟨s, es, hs, _⟩ := toNI a1
          obtain ⟨K, eK, hK, hK31⟩ := toNI b1
          have hgo := fun y => hg hok s K y es (by omega) eK hK31
          subst es; subst eK
          refine k_look hR hW hn (by omega) hK31 (fun x' l1 l2 => ?_)
          intro t6 et6
          unfold wpX5_forceOf
          subst et6
          refine k_guess (se := seS st s) (ex := exS st s K) (x := x') l1 l2 (fun hy y g1 g2 g3 => ?_) (fun hno y g1 => ?_)
          · intro t10 et
            have et' : t10 = upS t 6 y := by
              rw [et]; funext j; unfold upS
              by_cases hj : j = 6
              · rw [if_pos hj, if_pos hj]
              · rw [if_neg hj, if_neg hj, if_neg hj]
            have hp := hgo y
            rw [← et'] at hp
            unfold lostV at hp
            rw [hy, if_pos rfl] at hp
            have t6 : t10 6 = y := by rw [et']; rfl
            have t2 : t10 2 = t 2 := by rw [et']; rfl
            refine b1n ⟨fun q => ?_, fun q => ?_, fun q => ?_, fun q0 q1 q2 => ?_⟩
            · rw [if_pos q] at hp; rw [t6, g2]; exact hp
            · rw [if_neg (by rw [q]; decide), if_pos q] at hp; rw [t6, g3]; exact hp
            · rw [if_neg (by rw [q]; decide), if_neg (by rw [q]; decide), if_pos q] at hp
              rw [t6, g2, g3]
              exact k_bitCount hp
            · rw [if_neg q0, if_neg q1, if_neg q2] at hp
              refine k_words (by rw [t2]; exact ew) hw ?_
              rw [t6, t2, g2, g3, bitsN_cong (Q := fun i => fitB (bitsN (muB (seS st s) (exS st s K)) 12) (bitsN (maB (seS st s) (exS st s K) (fo x3 x4 x5)) 12) (wo i)) (fun i hi => by rw [hwo i hi])]
              exact hp
          · intro t10 et
            have et' : t10 = upS t 6 y := by
              rw [et]; funext j; unfold upS
              by_cases hj : j = 6
              · rw [if_pos hj, if_pos hj]
              · rw [if_neg hj, if_neg hj, if_neg hj]
            have hp := hgo y
            rw [← et'] at hp
            unfold lostV at hp
            rw [hno, if_neg (by decide)] at hp
            refine b0n ⟨fun q => ?_, fun q => ?_⟩
            · rw [if_pos q] at hp; exact hp
            · rw [if_neg q] at hp; exact hp
      · have := q.2.2.2.1; omega
    · have := q.2.1; omega
  · have := q.1; omega
theorem m_lost {x : St} {n w : Nat} (hW : WF (x.A 4) n) (hn : n ≤ 6) (eI : x.I 0 = nI n) (ew : x.I 3 = nI w) (hw : w ≤ 8) {x1 x2 x3 x4 x5 x6 : Int32} {Post : Int32 → St → Prop} (hb : ¬ lostOK x1 x2 x3 x4 x5 x6 n (mN (x.A 4)) → Post (-10) (refX x 0)) (hg : lostOK x1 x2 x3 x4 x5 x6 n (mN (x.A 4)) → ∀ s K x', x1 = nI s → s < 6 → x2 = nI K → K < 2 ^ 31 → x'.2 = x.2 → (∀ k, k ≠ 21 → k ≠ 22 → x'.I k = x.I k) → Post (lostV (x.A 4) (x.A 2) s K w (fo x3 x4 x5) x6) x') : wpX12_lost x1 x2 x3 x4 x5 x6 x Post := by
  have em := hW.2.2.1
  have hm := hW.2.2.2.1
  unfold wpX12_lost wjX12_lost_51 wpX12_badLess
  refine m_isSheet eI hn (fun a1 a2 => b1e ?_) (fun a => b0e (m_ref0 (hb (fun q => ?_))))
  · refine m_areNotes em hm (fun b1 b2 => b1e ?_) (fun b => b0e (m_ref0 (hb (fun q => ?_))))
    · refine m_isPen (fun c1 c2 c3 c4 => b1e ?_) (fun c => b0e (m_ref0 (hb (fun q => c q.2.2.1))))
      refine in_rule 0 5 (by decide) (by decide) (fun d1 d2 => b1e ?_) (fun d => b0e (m_ref0 (hb (fun q => ?_))))
      · refine in_rule 0 3 (by decide) (by decide) (fun e1 e2 => b1n ?_) (fun e => b0n (m_ref0 (hb (fun q => ?_))))
        · have hok : lostOK x1 x2 x3 x4 x5 x6 n (mN (x.A 4)) := ⟨⟨a1, a2⟩, ⟨b1, b2⟩, ⟨c1, c2, c3, c4⟩, ⟨d1, d2⟩, e1, e2⟩
          obtain ⟨s, es, hs, _⟩ := toNI a1
          obtain ⟨K, eK, hK, hK31⟩ := toNI b1
          obtain ⟨k, ek, hk, _⟩ := toNI c1
          obtain ⟨v, ev, hv, _⟩ := toNI e1
          have hgo := fun x' => hg hok s K x' es (by omega) eK hK31
          subst es; subst eK; subst ek; subst ev
          refine m_force (by omega) ?_
          refine m_isLost hW hn (by omega) hK31 (se := seS (x.A 4) s) (ex := exS (x.A 4) s K) (fun _ _ => rfl) (fun _ _ => rfl) (fun x' g1 g2 g3 g4 => ?_)
          have hp := hgo x' g1 g2
          have hA : x'.A 2 = x.A 2 := by show x'.2.2 2 = x.2.2 2; rw [g1]
          unfold lostV at hp
          rw [g3, g4]
          refine pk_le 2 v (fun q => ?_) (fun q => ?_)
          · refine m_wordsL (w := w) (by rw [g2 3 (by decide) (by decide)]; exact ew) hw ?_
            rw [hA, g3, g4]
            cases ho : okR (seS (x.A 4) s) (exS (x.A 4) s K) (fo (nI k) x4 x5) 12 with
            | false =>
              rw [ho, if_neg (by decide), if_pos (show (2 : Int32) ≤ nI v from nI_le q (by omega))] at hp
              exact b0n hp
            | true =>
              rw [ho, if_pos rfl] at hp
              have n0 : ¬ nI v = 0 := fun z => by have := (nI_eq (b := 0) (by omega) (by decide)).mp z; omega
              have n1 : ¬ nI v = 1 := fun z => by have := (nI_eq (b := 1) (by omega) (by decide)).mp z; omega
              rw [if_neg n0, if_neg n1] at hp
              refine b1n ⟨fun z => ?_, fun z => ?_⟩
              · rw [if_neg z] at hp; exact hp
              · rw [if_pos z] at hp
                obtain ⟨b, hb1, hb2⟩ := bits_small (maB (seS (x.A 4) s) (exS (x.A 4) s K) (fo (nI k) x4 x5)) (bitsN (muB (seS (x.A 4) s) (exS (x.A 4) s K)) 12 ^^^ (-1))
                rw [hb2] at hp ⊢
                exact m_ones hb1 hp
          · cases ho : okR (seS (x.A 4) s) (exS (x.A 4) s K) (fo (nI k) x4 x5) 12 with
            | false =>
              rw [ho, if_neg (by decide), if_neg (fun z => by have := (nI_leI (a := 2) (by decide) (by omega)).mp z; omega)] at hp
              exact b0n hp
            | true =>
              rw [ho, if_pos rfl] at hp
              refine b1n ⟨fun z => ?_, fun z => ?_⟩
              · rw [if_neg z, if_pos (by rcases (show v = 0 ∨ v = 1 by omega) with rfl | rfl
                                         · exact absurd rfl z
                                         · rfl)] at hp
                exact hp
              · rw [if_pos z] at hp; exact hp
        · have := q.2.2.2.2; omega
      · have := q.2.2.2.1; omega
    · have := q.2.1; omega
  · have := q.1; omega
theorem s_lost {t : Nat → St} {x : St} (h : Rel t x) (x1 x2 x3 x4 x5 x6 : Int32) : SimI (wpX11_lost x1 x2 x3 x4 x5 x6 t) (wpX12_lost x1 x2 x3 x4 x5 x6 x) := by
  obtain ⟨n, w, u, e1, e2, e3, hc, g⟩ := h.1.got
  have hn6 := g.2.1
  obtain ⟨hR, hW⟩ := g.cur
  refine k_lost (wo := x.A 2) hR hW hn6 g.2.2.1 g.2.2.2.2.1 g.2.2.2.1 (fun i hi => (g.2.2.2.2.2.2.2.1 i hi).1) (fun hb => ?_) (fun hok s K y es hs eK hK => ?_)
  · exact m_lost hW hn6 e1 e2 g.2.2.2.1 (fun _ => ⟨rfl, R_bad h⟩) (fun hok => absurd hok hb)
  · refine m_lost hW hn6 e1 e2 g.2.2.2.1 (fun hb => absurd hok hb) (fun _ s' K' x' es' hs' eK' hK' g1 g2 => ?_)
    have ess : s = s' := (nI_eq (by omega) (by omega)).mp (es.symm.trans es')
    have eKK : K = K' := (nI_eq hK hK').mp (eK.symm.trans eK')
    subst ess; subst eKK
    exact ⟨rfl, R_mm h g1 g2⟩
end
section
def pV (i : Nat) : Int32 := nI (10 * (i / 9) + i % 9 + 1)
def fsP (P : Nat → Bool) : Nat → Int32
  | 0 => -1
  | i + 1 => if fsP P i = -1 ∧ P i = true then pV i else fsP P i
theorem fsP_s (P : Nat → Bool) (i : Nat) : fsP P (i + 1) = if fsP P i = -1 ∧ P i = true then pV i else fsP P i := rfl
def cnP (P : Nat → Bool) : Nat → Nat
  | 0 => 0
  | i + 1 => if P i = true then cnP P i + 1 else cnP P i
theorem cnP_s (P : Nat → Bool) (i : Nat) : cnP P (i + 1) = if P i = true then cnP P i + 1 else cnP P i := rfl
theorem cnP_le (P : Nat → Bool) : ∀ i, cnP P i ≤ i
  | 0 => Nat.le_refl 0
  | i + 1 => by
    have := cnP_le P i
    rw [cnP_s]
    split <;> omega
def mdP (P : Nat → Bool) : Nat → Int32
  | 0 => -1
  | d + 1 => if P (53 - d) = true then pV (53 - d) else mdP P d
theorem mdP_s (P : Nat → Bool) (d : Nat) : mdP P (d + 1) = if P (53 - d) = true then pV (53 - d) else mdP P d := rfl
def mcP (P : Nat → Bool) : Nat → Nat
  | 0 => 0
  | d + 1 => if P (53 - d) = true then mcP P d + 1 else mcP P d
theorem mcP_s (P : Nat → Bool) (d : Nat) : mcP P (d + 1) = if P (53 - d) = true then mcP P d + 1 else mcP P d := rfl
def lwP (P : Nat → Bool) : Nat → Nat → Int32
  | _, 0 => -1
  | j, m + 1 => if P j = true then pV j else lwP P (j + 1) m
theorem lwP_s (P : Nat → Bool) (j m : Nat) : lwP P j (m + 1) = if P j = true then pV j else lwP P (j + 1) m := rfl
theorem pV_ne (i : Nat) (hi : i < 1000) : ¬ pV i = -1 := by
  intro h
  have h1 : (pV i).toInt = ((10 * (i / 9) + i % 9 + 1 : Nat) : Int) := nI_toInt (by omega)
  rw [h] at h1
  have h2 : (-1 : Int32).toInt = -1 := by decide
  omega
theorem md_lw (P : Nat → Bool) : ∀ d, d ≤ 54 → mdP P d = lwP P (54 - d) d
  | 0, _ => rfl
  | d + 1, hd => by
    rw [mdP_s, lwP_s, md_lw P d (by omega), show 54 - (d + 1) = 53 - d by omega, show 53 - d + 1 = 54 - d by omega]
theorem fs_lw (P : Nat → Bool) : ∀ m j, j + m ≤ 54 → fsP P (j + m) = if fsP P j = -1 then lwP P j m else fsP P j
  | 0, j, _ => by
    show fsP P j = if fsP P j = -1 then -1 else fsP P j
    by_cases h : fsP P j = -1
    · rw [if_pos h]; exact h
    · rw [if_neg h]
  | m + 1, j, hj => by
    have hs := fsP_s P j
    rw [show j + (m + 1) = (j + 1) + m by omega, fs_lw P m (j + 1) (by omega), lwP_s]
    by_cases h : fsP P j = -1
    · by_cases hp : P j = true
      · rw [if_pos ⟨h, hp⟩] at hs
        rw [hs, if_neg (pV_ne j (by omega)), if_pos h, if_pos hp]
      · rw [if_neg (fun q => hp q.2)] at hs
        rw [hs, if_pos h, if_pos h, if_neg hp]
    · rw [if_neg (fun q => h q.1)] at hs
      rw [hs, if_neg h, if_neg h]
theorem md_fs (P : Nat → Bool) : mdP P 54 = fsP P 54 := by
  rw [md_lw P 54 (by omega)]
  have := fs_lw P 54 0 (by omega)
  rw [show 0 + 54 = 54 by omega] at this
  rw [this, if_pos (show fsP P 0 = -1 from rfl)]
theorem mc_cn (P : Nat → Bool) : ∀ d, d ≤ 54 → cnP P (54 - d) + mcP P d = cnP P 54
  | 0, _ => rfl
  | d + 1, hd => by
    have ih := mc_cn P d (by omega)
    rw [mcP_s]
    have e : 54 - d = (53 - d) + 1 := by omega
    rw [e, cnP_s] at ih
    rw [show 54 - (d + 1) = 53 - d by omega]
    by_cases hp : P (53 - d) = true
    · rw [if_pos hp] at ih ⊢; omega
    · rw [if_neg hp] at ih ⊢; omega
/-- does pen i fit -/
def pnP (se ex : Nat → Int32) (d c : Int32) (i : Nat) : Bool := okR se ex (fo (nI (i / 9)) (nI (i % 9 + 1)) d) 12 && fitB (bitsN (muB se ex) 12) (bitsN (maB se ex (fo (nI (i / 9)) (nI (i % 9 + 1)) d)) 12) c
def penV (se ex : Nat → Int32) (d c x5 : Int32) : Int32 := if x5 = 0 then nI (cnP (pnP se ex d c) 54) else fsP (pnP se ex d c) 54
def penOK (x1 x2 x3 x4 x5 : Int32) (n m : Nat) : Prop := (0 ≤ x1.toInt ∧ x1.toInt < n) ∧ (0 ≤ x2.toInt ∧ x2.toInt < ((2 ^ m : Nat) : Int)) ∧ (0 ≤ x3.toInt ∧ x3.toInt ≤ 5) ∧ (1 ≤ x4.toInt ∧ x4.toInt ≤ 4095) ∧ 0 ≤ x5.toInt ∧ x5.toInt ≤ 1
theorem up6 (t : Nat → St) (a b : St) : upS (upS t 6 a) 6 b = upS t 6 b := by
  funext j; unfold upS
  by_cases hj : j = 6
  · rw [if_pos hj, if_pos hj]
  · rw [if_neg hj, if_neg hj, if_neg hj]
theorem k_penL {t : Nat → St} {x0 : St} {se ex : Nat → Int32} {d c x5 : Int32} (h0 : ∀ c, c < 12 → x0.A 0 c = se c) (h1 : ∀ c, c < 12 → x0.A 1 c = ex c) {Post : Int32 → (Nat → St) → Prop} {KX : Int32 → Int32 → Int32 → (Nat → St) → Prop} (h : ∀ y : St, KX x5 (nI (cnP (pnP se ex d c) 54)) (fsP (pnP se ex d c) 54) (upS t 6 y)) : ∃ n, wLX11_pen_94 Post KX n (d, c, x5, 0, -1, 0, upS t 6 x0) := by
  refine it_rule (F := fun self z => wlX11_pen_94 Post KX self z.1 z.2.1 z.2.2.1 z.2.2.2.1 z.2.2.2.2.1 z.2.2.2.2.2.1 z.2.2.2.2.2.2) (fun z => ∃ (k : Nat) (y : St), z = (d, c, x5, nI (cnP (pnP se ex d c) (9 * k)), fsP (pnP se ex d c) (9 * k), nI k, upS t 6 y) ∧ k ≤ 6 ∧ y.2 = x0.2) (fun z => 6 - z.2.2.2.2.2.1.toNatClampNeg) ?_ _ ⟨0, x0, rfl, by omega, rfl⟩
  rintro self z ⟨k, y, rfl, hk, ey⟩ hself
  dsimp only at hself ⊢
  unfold wlX11_pen_94
  refine pk_le 6 k (fun hle => ?_) (fun hlt => ?_)
  · have e6 : k = 6 := by omega
    subst e6
    exact h y
  · refine it_rule (F := fun self2 z => wlX11_pen_104 Post _ self2 z.1 z.2.1 z.2.2.1 z.2.2.2.1 z.2.2.2.2.1 z.2.2.2.2.2.1 z.2.2.2.2.2.2.1 z.2.2.2.2.2.2.2) (fun z => ∃ (j : Nat) (y : St), z = (d, c, x5, nI (cnP (pnP se ex d c) (9 * k + j)), fsP (pnP se ex d c) (9 * k + j), nI k, nI (1 + j), upS t 6 y) ∧ j ≤ 9 ∧ y.2 = x0.2) (fun z => 10 - z.2.2.2.2.2.2.1.toNatClampNeg) ?_ _ ⟨0, y, rfl, by omega, ey⟩
    rintro self2 z ⟨j, y, rfl, hj, ey⟩ hself2
    dsimp only at hself2 ⊢
    unfold wlX11_pen_104
    refine pk_lt 9 (1 + j) (fun hlt9 => ?_) (fun hle9 => ?_)
    · have e9 : j = 9 := by omega
      subst e9
      intro z ez
      subst ez
      rw [nI_1]
      exact hself _ ⟨k + 1, y, by rw [show 9 * (k + 1) = 9 * k + 9 by omega], by omega, ey⟩ (by dsimp only; rw [ncl (by omega), ncl (by omega)]; omega)
    · unfold wpX5_forceOf
      have ei : (9 * k + j) / 9 = k := by omega
      have em : (9 * k + j) % 9 = j := by omega
      have hcl := cnP_le (pnP se ex d c) (9 * k + j)
      have hcn := cnP_s (pnP se ex d c) (9 * k + j)
      have hfs := fsP_s (pnP se ex d c) (9 * k + j)
      have epn : pnP se ex d c (9 * k + j) = (okR se ex (fo (nI k) (nI (1 + j)) d) 12 && fitB (bitsN (muB se ex) 12) (bitsN (maB se ex (fo (nI k) (nI (1 + j)) d)) 12) c) := by
        unfold pnP
        rw [ei, em, show j + 1 = 1 + j by omega]
      have next : ∀ (y' : St) (a b : Int32), y'.2 = x0.2 → a = nI (cnP (pnP se ex d c) (9 * k + j + 1)) → b = fsP (pnP se ex d c) (9 * k + j + 1) → self2 (d, c, x5, a, b, nI k, nI (1 + j) + 1, upS t 6 y') := by
        intro y' a b e1 e2 e3
        rw [nI_1, e2, e3]
        exact hself2 _ ⟨j + 1, y', by rw [show 9 * k + (j + 1) = 9 * k + j + 1 by omega, show 1 + (j + 1) = 1 + j + 1 by omega], by omega, e1⟩ (by dsimp only; rw [ncl (by omega), ncl (by omega)]; omega)
      refine k_guess (x := y) (se := se) (ex := ex) (fun c hc => by rw [← h0 c hc]; show y.2.2 0 c = x0.2.2 0 c; rw [ey]) (fun c hc => by rw [← h1 c hc]; show y.2.2 1 c = x0.2.2 1 c; rw [ey]) (fun hy y' g1 g2 g3 => ?_) (fun hno y' g1 => ?_)
      · intro t11 et
        rw [up6] at et
        subst et
        rw [hy, Bool.true_and] at epn
        refine b1e (k_isFit ?_)
        rw [show upS t 6 y' 6 = y' from rfl, g2, g3]
        cases hf : fitB (bitsN (muB se ex) 12) (bitsN (maB se ex (fo (nI k) (nI (1 + j)) d)) 12) c with
        | false =>
          rw [hf] at epn
          rw [epn, if_neg (by decide)] at hcn
          rw [epn, if_neg (fun q => absurd q.2 (by decide))] at hfs
          refine b0e ?_
          intro z ez
          subst ez
          exact next y' _ _ (g1.trans ey) (by rw [hcn]) hfs.symm
        | true =>
          rw [hf] at epn
          rw [epn, if_pos (by decide)] at hcn
          refine b1e ?_
          intro z ez
          subst ez
          have ec : nI (cnP (pnP se ex d c) (9 * k + j)) + 1 = nI (cnP (pnP se ex d c) (9 * k + j + 1)) := by rw [nI_1, hcn]
          refine ⟨fun q z ez => ?_, fun q z ez y2 ey2 => ?_⟩
          · subst ez
            rw [if_neg (fun w => q w.1)] at hfs
            exact next y' _ _ (g1.trans ey) ec hfs.symm
          · subst ez; subst ey2
            rw [if_pos ⟨q, epn⟩] at hfs
            refine next y' _ _ (g1.trans ey) ec ?_
            rw [hfs]
            unfold pV
            rw [ei, em]
            show nI 10 * nI k + nI (1 + j) = _
            rw [pk_mul, nI_add]; congr 1; omega
      · intro t11 et
        rw [up6] at et
        subst et
        rw [hno, Bool.false_and] at epn
        rw [epn, if_neg (by decide)] at hcn
        rw [epn, if_neg (fun q => absurd q.2 (by decide))] at hfs
        refine b0e ?_
        intro z ez
        subst ez
        exact next y' _ _ (g1.trans ey) (by rw [hcn]) hfs.symm
theorem m_penL {x : St} {n s K : Nat} {d c x5 : Int32} (hW : WF (x.A 4) n) (hn : n ≤ 6) (hs : s < n) (hK : K < 2 ^ 31) {Post : Int32 → St → Prop} {KX : Int32 → Int32 → Int32 → St → Prop} (h : ∀ x' : St, x'.2 = x.2 → (∀ k, k ≠ 21 → k ≠ 22 → x'.I k = x.I k) → KX x5 (nI (mcP (pnP (seS (x.A 4) s) (exS (x.A 4) s K) d c) 54)) (mdP (pnP (seS (x.A 4) s) (exS (x.A 4) s K) d c) 54) x') : ∃ n, wLX12_pen_67 Post KX n (nI s, nI K, d, c, x5, 0, -1, 53, x) := by
  generalize eP : pnP (seS (x.A 4) s) (exS (x.A 4) s K) d c = P at h
  refine it_rule (F := fun self z => wlX12_pen_67 Post KX self z.1 z.2.1 z.2.2.1 z.2.2.2.1 z.2.2.2.2.1 z.2.2.2.2.2.1 z.2.2.2.2.2.2.1 z.2.2.2.2.2.2.2.1 z.2.2.2.2.2.2.2.2) (fun z => ∃ (e : Nat) (y : St), z = (nI s, nI K, d, c, x5, nI (mcP P e), mdP P e, nI (54 - e) + (-1), y) ∧ e ≤ 54 ∧ y.2 = x.2 ∧ ∀ k, k ≠ 21 → k ≠ 22 → y.I k = x.I k) (fun z => (z.2.2.2.2.2.2.2.1 + 1).toNatClampNeg) ?_ _ ⟨0, x, by rw [show nI (54 - 0) + (-1) = 53 by decide]; rfl, by omega, rfl, fun _ _ _ => rfl⟩
  rintro self z ⟨e, y, rfl, he, g1, g2⟩ hself
  dsimp only at hself ⊢
  unfold wlX12_pen_67
  by_cases h54 : e = 54
  · subst h54
    exact ⟨fun _ => h y g1 g2, fun q => absurd (by decide) q⟩
  · have ek : nI (54 - e) + (-1) = nI (53 - e) := by
      have := pk_m1 (53 - e)
      rw [show 53 - e + 1 = 54 - e by omega] at this
      exact this
    have hA : y.A 4 = x.A 4 := by show y.2.2 4 = x.2.2 4; rw [g1]
    rw [ek]
    have ed : nI (53 - e) / (9 : Int32) = nI ((53 - e) / 9) := pk_div (d := 9) (by omega) (by decide) (by decide)
    have er : nI (53 - e) - nI (53 - e) / (9 : Int32) * 9 = nI ((53 - e) % 9) := pk_rem (d := 9) (by omega) (by decide) (by decide)
    have hmc := mcP_s P e
    have hmd := mdP_s P e
    refine ⟨fun q => absurd q (nI_pos (by omega)), fun _ => ?_⟩
    rw [er, ed, nI_1]
    have next : ∀ (y' : St) (a b : Int32), y'.2 = x.2 → (∀ k, k ≠ 21 → k ≠ 22 → y'.I k = x.I k) → a = nI (mcP P (e + 1)) → b = mdP P (e + 1) → self (nI s, nI K, d, c, x5, a, b, nI (53 - e) + (-1), y') := by
      intro y' a b f1 f2 f3 f4
      rw [f3, f4]
      refine hself _ ⟨e + 1, y', by rw [show 54 - (e + 1) = 53 - e by omega], by omega, f1, f2⟩ ?_
      dsimp only
      rw [ek, nI_1, ncl (by omega)]
      have : nI (53 - e) + (-1) + 1 = nI (53 - e) := by
        rw [Int32.add_assoc]
        have : (-1 : Int32) + 1 = 0 := by decide
        rw [this, Int32.add_zero]
      rw [this, ncl (by omega)]
      omega
    refine m_force (by omega) ?_
    refine m_isLost (n := n) (by rw [hA]; exact hW) hn hs hK (se := seS (x.A 4) s) (ex := exS (x.A 4) s K) (fun _ _ => by rw [hA]; rfl) (fun _ _ => by rw [hA]; rfl) (fun x' f1 f2 f3 f4 => ?_)
    have f1' : x'.2 = x.2 := f1.trans g1
    have f2' : ∀ k, k ≠ 21 → k ≠ 22 → x'.I k = x.I k := fun k k1 k2 => (f2 k k1 k2).trans (g2 k k1 k2)
    have epn : P (53 - e) = (okR (seS (x.A 4) s) (exS (x.A 4) s K) (fo (nI ((53 - e) / 9)) (nI ((53 - e) % 9 + 1)) d) 12 && fitB (bitsN (muB (seS (x.A 4) s) (exS (x.A 4) s K)) 12) (bitsN (maB (seS (x.A 4) s) (exS (x.A 4) s K) (fo (nI ((53 - e) / 9)) (nI ((53 - e) % 9 + 1)) d)) 12) c) := by rw [← eP]; rfl
    have no : P (53 - e) = false → wjX12_pen_111 Post self KX (nI s) (nI K) d c x5 (nI (mcP P e)) (mdP P e) (nI (53 - e)) 0 x' := by
      intro hp
      rw [hp, if_neg (by decide)] at hmc hmd
      unfold wjX12_pen_111
      refine b0e ?_
      unfold wjX12_pen_125
      intro a ea
      refine b0e ?_
      intro z ez
      subst ez
      refine next x' _ _ f1' f2' ?_ hmd.symm
      rw [ea, hmc]
      show nI (mcP P e) + nI 0 = _
      rw [nI_add]; rfl
    have yes : P (53 - e) = true → wjX12_pen_111 Post self KX (nI s) (nI K) d c x5 (nI (mcP P e)) (mdP P e) (nI (53 - e)) 1 x' := by
      intro hp
      rw [hp, if_pos rfl] at hmc hmd
      unfold wjX12_pen_111
      refine b1e ?_
      unfold wjX12_pen_125
      intro a ea
      refine b1e ?_
      intro b eb z ez
      subst ez
      refine next x' _ _ f1' f2' ?_ ?_
      · rw [ea, hmc]; exact nI_1 _
      · rw [eb, hmd, er, ed]
        unfold pV
        show nI 10 * nI _ + nI _ + nI 1 = _
        rw [pk_mul, nI_add, nI_add]
    cases ho : okR (seS (x.A 4) s) (exS (x.A 4) s K) (fo (nI ((53 - e) / 9)) (nI ((53 - e) % 9 + 1)) d) 12 with
    | false =>
      rw [ho] at epn
      exact b0e (no epn)
    | true =>
      rw [ho] at epn
      refine b1e (m_fits ?_)
      rw [f3, f4]
      cases hf : fitB (bitsN (muB (seS (x.A 4) s) (exS (x.A 4) s K)) 12) (bitsN (maB (seS (x.A 4) s) (exS (x.A 4) s K) (fo (nI ((53 - e) / 9)) (nI ((53 - e) % 9 + 1)) d)) 12) c with
      | false =>
        rw [hf] at epn
        exact b0e (no epn)
      | true =>
        rw [hf] at epn
        exact b1e (yes epn)
theorem k_pen {t : Nat → St} {st : Nat → Int32} {n : Nat} (hR : RP ((t 2).A 0) (t 2) st) (hW : WF st n) (hn : n ≤ 6) (eI : (t 2).I 3 = nI n) {x1 x2 x3 x4 x5 : Int32} {Post : Int32 → (Nat → St) → Prop} (hb : ¬ penOK x1 x2 x3 x4 x5 n (mN st) → Post (-10) (badT t)) (hg : penOK x1 x2 x3 x4 x5 n (mN st) → ∀ s K y, x1 = nI s → s < 6 → x2 = nI K → K < 2 ^ 31 → Post (penV (seS st s) (exS st s K) x3 x4 x5) (upS t 6 y)) : wpX11_pen x1 x2 x3 x4 x5 t Post := by
  have em : (t 2).A 0 1 = nI (mN st) := hR.2.1.trans hW.2.2.1
  have hm := hW.2.2.2.1
  have fail : ¬ penOK x1 x2 x3 x4 x5 n (mN st) → wjX11_pen_34 Post x1 x2 x3 x4 x5 0 t := fun q => by
    unfold wjX11_pen_34 wjX11_pen_65
    exact b0e (k_bad (hb q))
  unfold wpX11_pen
  refine k_hasSheet eI hn (fun a1 a2 => b1e ?_) (fun a => b0e (fail (fun q => ?_)))
  · refine k_hasNotes em hm (fun b1 b2 => b1e ?_) (fun b => b0e (fail (fun q => ?_)))
    · refine k_isDepth (fun c1 c2 => b1e ?_) (fun c => b0e (fail (fun q => ?_)))
      · unfold wjX11_pen_34 wjX11_pen_65
        refine b1e (k_isCells (fun d1 d2 => b1e ?_) (fun d => b0e (k_bad (hb (fun q => ?_)))))
        · refine ⟨fun e0 => k_bad (hb (fun q => ?_)), fun e0 => ?_⟩
          · have := q.2.2.2.1.1
            rw [e0, z0I] at this
            omega
          · refine v_le 0 1 (by decide) (by decide) (fun e => k_bad (hb (fun q => ?_))) (fun e1 e2 => ?_)
            · have := q.2.2.2.2; omega
            · have d3 : 1 ≤ x4.toInt := by
                have : x4.toInt ≠ 0 := fun w => e0 (by rw [fa_eq, z0I]; exact w)
                omega
              have hok : penOK x1 x2 x3 x4 x5 n (mN st) := ⟨⟨a1, a2⟩, ⟨b1, b2⟩, ⟨c1, c2⟩, ⟨d3, d2⟩, e1, e2⟩
              obtain ⟨s, es, hs, _⟩ := toNI a1
              obtain ⟨K, eK, hK, hK31⟩ := toNI b1
              have hgo := fun y => hg hok s K y es (by omega) eK hK31
              subst es; subst eK
              refine k_look hR hW hn (by omega) hK31 (fun x' l1 l2 => ?_)
              intro t6 et6 z ez
              subst et6; subst ez
              refine k_penL (se := seS st s) (ex := exS st s K) l1 l2 (fun y => ?_)
              have hp := hgo y
              unfold penV at hp
              refine ⟨fun q => ?_, fun q => ?_⟩
              · rw [if_neg q] at hp; exact hp
              · rw [if_pos q] at hp; exact hp
        · have := q.2.2.2.1; omega
      · have := q.2.2.1; omega
    · have := q.2.1; omega
  · have := q.1; omega
theorem m_pen {x : St} {n : Nat} (hW : WF (x.A 4) n) (hn : n ≤ 6) (eI : x.I 0 = nI n) {x1 x2 x3 x4 x5 : Int32} {Post : Int32 → St → Prop} (hb : ¬ penOK x1 x2 x3 x4 x5 n (mN (x.A 4)) → Post (-10) (refX x 0)) (hg : penOK x1 x2 x3 x4 x5 n (mN (x.A 4)) → ∀ s K x', x1 = nI s → s < 6 → x2 = nI K → K < 2 ^ 31 → x'.2 = x.2 → (∀ k, k ≠ 21 → k ≠ 22 → x'.I k = x.I k) → Post (penV (seS (x.A 4) s) (exS (x.A 4) s K) x3 x4 x5) x') : wpX12_pen x1 x2 x3 x4 x5 x Post := by
  have em := hW.2.2.1
  have hm := hW.2.2.2.1
  unfold wpX12_pen wjX12_pen_52 wpX12_badLess
  refine m_isSheet eI hn (fun a1 a2 => b1e ?_) (fun a => b0e (m_ref0 (hb (fun q => ?_))))
  · refine m_areNotes em hm (fun b1 b2 => b1e ?_) (fun b => b0e (m_ref0 (hb (fun q => ?_))))
    · refine in_rule 0 5 (by decide) (by decide) (fun c1 c2 => b1e ?_) (fun c => b0e (m_ref0 (hb (fun q => ?_))))
      · refine in_rule 1 4095 (by decide) (by decide) (fun d1 d2 => b1e ?_) (fun d => b0e (m_ref0 (hb (fun q => ?_))))
        · refine in_rule 0 1 (by decide) (by decide) (fun e1 e2 => b1n ?_) (fun e => b0n (m_ref0 (hb (fun q => ?_))))
          · have hok : penOK x1 x2 x3 x4 x5 n (mN (x.A 4)) := ⟨⟨a1, a2⟩, ⟨b1, b2⟩, ⟨c1, c2⟩, ⟨d1, d2⟩, e1, e2⟩
            obtain ⟨s, es, hs, _⟩ := toNI a1
            obtain ⟨K, eK, hK, hK31⟩ := toNI b1
            have hgo := fun x' => hg hok s K x' es (by omega) eK hK31
            subst es; subst eK
            intro z ez
            subst ez
            refine m_penL hW hn (by omega) hK31 (fun x' g1 g2 => ?_)
            have hp := hgo x' g1 g2
            unfold penV at hp
            rw [md_fs, show mcP (pnP (seS (x.A 4) s) (exS (x.A 4) s K) x3 x4) 54 = cnP (pnP (seS (x.A 4) s) (exS (x.A 4) s K) x3 x4) 54 from by
              have := mc_cn (pnP (seS (x.A 4) s) (exS (x.A 4) s K) x3 x4) 54 (by omega)
              rw [show 54 - 54 = 0 by omega, show cnP (pnP (seS (x.A 4) s) (exS (x.A 4) s K) x3 x4) 0 = 0 from rfl] at this
              omega]
            refine ⟨fun q => ?_, fun q => ?_⟩
            · rw [if_neg q] at hp; exact hp
            · rw [if_pos q] at hp; exact hp
          · have := q.2.2.2.2; omega
        · have := q.2.2.2.1; omega
      · have := q.2.2.1; omega
    · have := q.2.1; omega
  · have := q.1; omega
theorem s_pen {t : Nat → St} {x : St} (h : Rel t x) (x1 x2 x3 x4 x5 : Int32) : SimI (wpX11_pen x1 x2 x3 x4 x5 t) (wpX12_pen x1 x2 x3 x4 x5 x) := by
  obtain ⟨n, w, u, e1, e2, e3, hc, g⟩ := h.1.got
  have hn6 := g.2.1
  obtain ⟨hR, hW⟩ := g.cur
  refine k_pen hR hW hn6 g.2.2.1 (fun hb => ?_) (fun hok s K y es hs eK hK => ?_)
  · exact m_pen hW hn6 e1 (fun _ => ⟨rfl, R_bad h⟩) (fun hok => absurd hok hb)
  · refine m_pen hW hn6 e1 (fun hb => absurd hok hb) (fun _ s' K' x' es' hs' eK' hK' g1 g2 => ?_)
    have ess : s = s' := (nI_eq (by omega) (by omega)).mp (es.symm.trans es')
    have eKK : K = K' := (nI_eq hK hK').mp (eK.symm.trans eK')
    subst ess; subst eKK
    exact ⟨rfl, R_mm h g1 g2⟩
end
section
/-! rows that agree where it matters -/
theorem tN_c {st st' : Nat → Int32} (h : ∀ k, k < 126 → st' k = st k) : tN st' = tN st := by unfold tN; rw [h 125 (by decide)]
theorem mN_c {st st' : Nat → Int32} (h : ∀ k, k < 126 → st' k = st k) : mN st' = mN st := by unfold mN; rw [h 124 (by decide)]
theorem frc_c {st st' : Nat → Int32} {s c k : Nat} (h : ∀ i, 84 + 4 * k ≤ i → i < 88 + 4 * k → st' i = st i) : frc st' s c k = frc st s c k := by
  unfold frc onN ceN
  rw [h (84 + 4 * k) (by omega) (by omega), h (85 + 4 * k) (by omega) (by omega), h (86 + 4 * k) (by omega) (by omega), h (87 + 4 * k) (by omega) (by omega)]
theorem mx_c {st st' : Nat → Int32} {s c : Nat} : ∀ m, (∀ i, 84 ≤ i → i < 84 + 4 * m → st' i = st i) → mx st' s c m = mx st s c m
  | 0, _ => rfl
  | m + 1, h => by
    rw [mx_s, mx_s, mx_c m (fun i h1 h2 => h i h1 (by omega)), frc_c (fun i h1 h2 => h i (by omega) (by omega))]
theorem GN_c {st st' : Nat → Int32} {n k : Nat} (h : ∀ i, 84 + 4 * k ≤ i → i < 88 + 4 * k → st' i = st i) (ht : tN st ≤ tN st') (g : GN st n k) : GN st' n k := by
  unfold GN kN prN ceN onN at *
  rw [h (84 + 4 * k) (by omega) (by omega), h (85 + 4 * k) (by omega) (by omega), h (86 + 4 * k) (by omega) (by omega), h (87 + 4 * k) (by omega) (by omega)]
  obtain ⟨a1, a2, a3, a4, a5, a6, a7, a8, a9, a10⟩ := g
  exact ⟨a1, a2, a3, a4, a5, a6, a7, a8, a9, by omega⟩
theorem WF_c {st st' : Nat → Int32} {n : Nat} (hn : n ≤ 6) (h : ∀ k, k < 126 → st' k = st k) (w : WF st n) : WF st' n := by
  obtain ⟨w1, w2, w3, w4, w5, w6⟩ := w
  have e1 := tN_c h
  have e2 := mN_c h
  refine ⟨by rw [h 125 (by decide), e1]; exact w1, by rw [e1]; exact w2, by rw [h 124 (by decide), e2]; exact w3, by rw [e2]; exact w4, fun k hk => ?_, fun s hs c hc => ?_⟩
  · rw [e2] at hk
    exact GN_c (fun i _ h2 => h i (by omega)) (by rw [e1]; exact Nat.le_refl _) (w5 k hk)
  · rw [h _ (by omega), w6 s hs c hc, e2, mx_c _ (fun i _ h2 => h i (by omega))]
theorem RP_c {pg pg' st st' : Nat → Int32} {p p' : St} (hpg : ∀ i, i < 86 → pg' i = pg i) (h : ∀ k, k < 126 → st' k = st k) (hm : mN st ≤ 10) (hn : ∀ k, k < mN st → p'.A 5 k = p.A 5 k ∧ p'.A 6 k = p.A 6 k ∧ p'.A 7 k = p.A 7 k ∧ p'.A 8 k = p.A 8 k ∧ ∀ d, d < 6 → p'.A 9 (6 * k + d) = p.A 9 (6 * k + d)) (r : RP pg p st) : RP pg' p' st' := by
  obtain ⟨r1, r2, r3, r4⟩ := r
  refine ⟨by rw [hpg 0 (by decide), h 125 (by decide)]; exact r1, by rw [hpg 1 (by decide), h 124 (by decide)]; exact r2, fun s hs => ?_, fun k hk => ?_⟩
  · obtain ⟨a1, a2, a3⟩ := r3 s hs
    refine ⟨by rw [hpg _ (by omega), h _ (by omega)]; exact a1, by rw [hpg _ (by omega), h _ (by omega)]; exact a2, fun c hc => by rw [hpg _ (by omega), h _ (by omega)]; exact a3 c hc⟩
  · rw [mN_c h] at hk
    obtain ⟨a1, a2, a3, a4, a5⟩ := r4 k hk
    obtain ⟨b1, b2, b3, b4, b5⟩ := hn k hk
    rw [h _ (show 84 + 4 * k < 126 by omega), h _ (show 85 + 4 * k < 126 by omega), h _ (show 86 + 4 * k < 126 by omega), h _ (show 87 + 4 * k < 126 by omega)]
    exact ⟨b1.trans a1, b2.trans a2, b3.trans a3, b4.trans a4, fun d hd => (b5 d hd).trans (a5 d hd)⟩
/-- a pad and its row, agreeing with another pad and row -/
theorem PadN_c {p p' : St} {st ah wo st' ah' wo' : Nat → Int32} {n w u : Nat} (e3 : p'.I 3 = p.I 3) (e11 : p'.I 11 = p.I 11) (e2 : p'.I 2 = p.I 2) (h0 : ∀ i, i < 86 → p'.A 0 i = p.A 0 i) (h1 : ∀ i, i < 86 * u → p'.A 1 i = p.A 1 i) (hk : ∀ k, k < 10 → p'.A 5 k = p.A 5 k ∧ p'.A 6 k = p.A 6 k ∧ p'.A 7 k = p.A 7 k ∧ p'.A 8 k = p.A 8 k) (h9 : ∀ k, k < 60 → p'.A 9 k = p.A 9 k) (h10 : ∀ k, k < w → p'.A 10 k = p.A 10 k)
    (hs : ∀ k, k < 126 → st' k = st k) (ha : ∀ k, k < 126 * u → ah' k = ah k) (hw : ∀ k, k < w → wo' k = wo k) (h : PadN p st ah wo n w u) : PadN p' st' ah' wo' n w u := by
  obtain ⟨g1, g2, g3, g4, g5, g6, g7, g8, g9, g10⟩ := h
  have hst : ∀ j, j ≤ u → ∀ k, k < 126 → stk st' ah' u j k = stk st ah u j k := by
    intro j hj k hk2
    unfold stk
    by_cases hju : j = u
    · rw [if_pos hju, if_pos hju]; exact hs k hk2
    · rw [if_neg hju, if_neg hju]
      exact ha _ (by
        have : 126 * j + 126 ≤ 126 * u := by omega
        omega)
  have hpg : ∀ j, j ≤ u → ∀ i, i < 86 → pgk p' u j i = pgk p u j i := by
    intro j hj i hi
    unfold pgk
    by_cases hju : j = u
    · rw [if_pos hju, if_pos hju]; exact h0 i hi
    · rw [if_neg hju, if_neg hju]
      exact h1 _ (by
        have : 86 * j + 86 ≤ 86 * u := by omega
        omega)
  refine ⟨g1, g2, e3.trans g3, g4, e11.trans g5, g6, e2.trans g7, fun i hi => ?_, fun j hj => ?_, fun i j hij hj => ?_⟩
  · rw [h10 i hi, hw i hi]; exact g8 i hi
  · obtain ⟨r, wf⟩ := g9 j hj
    have hm := wf.2.2.2.1
    refine ⟨RP_c (hpg j hj) (hst j hj) hm (fun k hkm => ?_) r, WF_c g2 (hst j hj) wf⟩
    obtain ⟨b1, b2, b3, b4⟩ := hk k (by omega)
    exact ⟨b1, b2, b3, b4, fun d hd => h9 _ (by omega)⟩
  · rw [mN_c (hst i (by omega)), mN_c (hst j hj)]
    exact g10 i j hij hj
/-! a pad begun anew -/
theorem k_beginAnew {p : St} {x1 : Int32} {Post : St → Prop} (h : ∀ p' : St, p'.I 3 = x1 → p'.I 4 = 0 → p'.I 2 = 0 → p'.I 11 = 0 → (∀ i, i < 86 → p'.A 0 i = 0) → (∀ k, k ≠ 0 → p'.A k = p.A k) → Post p') : wpX4_beginAnew x1 p Post := by
  intro p1 e1 p2 e2 p3 e3 p4 e4
  subst e1; subst e2; subst e3; subst e4
  refine it_rule (F := fun self z => wlX4_beginAnew_22 Post _ self z.1 z.2) (fun z => ∃ (i : Nat) (y : St), z = (nI i, y) ∧ i ≤ 86 ∧ y.I 3 = x1 ∧ y.I 4 = 0 ∧ y.I 2 = 0 ∧ y.I 11 = 0 ∧ (∀ j, j < i → y.A 0 j = 0) ∧ ∀ k, k ≠ 0 → y.A k = p.A k) (fun z => 86 - z.1.toNatClampNeg) ?_ _ ⟨0, _, rfl, by omega, rfl, rfl, rfl, rfl, fun j hj => absurd hj (Nat.not_lt_zero j), fun _ _ => rfl⟩
  rintro self z ⟨i, y, rfl, hi, a1, a2, a3, a4, a5, a6⟩ hself
  dsimp only at hself ⊢
  unfold wlX4_beginAnew_22
  refine pk_le 86 i (fun hle => ?_) (fun hlt => ⟨vp_in_nI (by omega) (by omega), fun y' ey z ez => ?_⟩)
  · have e86 : i = 86 := by omega
    subst e86
    exact h y a1 a2 a3 a4 a5 a6
  · rw [ncl (by omega)] at ey
    subst ey; subst ez
    rw [nI_1]
    refine hself _ ⟨i + 1, _, rfl, by omega, a1, a2, a3, a4, fun j hj => ?_, fun k hk => ?_⟩ (by dsimp only; rw [ncl (by omega), ncl (by omega)]; omega)
    · show upd (y.A 0) i 0 j = 0
      unfold upd
      by_cases hji : j = i
      · rw [if_pos hji]
      · rw [if_neg hji]; exact a5 j (by omega)
    · rw [sA_A, if_neg hk]; exact a6 k hk
theorem m_empty {p : St} {Post : St → Prop} (h : ∀ p' : St, p'.I 1 = 0 → p'.I 6 = 0 → (∀ k, k ≠ 1 → k ≠ 6 → p'.I k = p.I k) → (∀ k, p'.L k = p.L k) → (∀ i, i < 126 → p'.A 4 i = 0) → (∀ k, k ≠ 4 → p'.A k = p.A k) → Post p') : wpX12_empty p Post := by
  unfold wpX12_empty
  refine it_rule (F := fun self z => wlX12_empty_2 Post _ self z.1 z.2) (fun z => ∃ (i : Nat) (y : St), z = (nI i, y) ∧ i ≤ 126 ∧ (∀ k, y.I k = p.I k) ∧ (∀ k, y.L k = p.L k) ∧ (∀ j, j < i → y.A 4 j = 0) ∧ ∀ k, k ≠ 4 → y.A k = p.A k) (fun z => 126 - z.1.toNatClampNeg) ?_ _ ⟨0, p, rfl, by omega, fun _ => rfl, fun _ => rfl, fun j hj => absurd hj (Nat.not_lt_zero j), fun _ _ => rfl⟩
  rintro self z ⟨i, y, rfl, hi, a1, a2, a5, a6⟩ hself
  dsimp only at hself ⊢
  unfold wlX12_empty_2
  refine pk_le 126 i (fun hle => ?_) (fun hlt => ⟨vp_in_nI (by omega) (by omega), fun y' ey z ez => ?_⟩)
  · have e126 : i = 126 := by omega
    subst e126
    intro y1 e1 y2 e2
    subst e1; subst e2
    refine h _ rfl rfl (fun k k1 k2 => ?_) a2 a5 a6
    rw [sI_I, if_neg k2, sI_I, if_neg k1]; exact a1 k
  · rw [ncl (by omega)] at ey
    subst ey; subst ez
    rw [nI_1]
    refine hself _ ⟨i + 1, _, rfl, by omega, a1, a2, fun j hj => ?_, fun k hk => ?_⟩ (by dsimp only; rw [ncl (by omega), ncl (by omega)]; omega)
    · show upd (y.A 4) i 0 j = 0
      unfold upd
      by_cases hji : j = i
      · rw [if_pos hji]
      · rw [if_neg hji]; exact a5 j (by omega)
    · rw [sA_A, if_neg hk]; exact a6 k hk
theorem PadN_new {p : St} {st ah wo : Nat → Int32} {n : Nat} (h1 : 1 ≤ n) (h6 : n ≤ 6) (e3 : p.I 3 = nI n) (e11 : p.I 11 = 0) (e2 : p.I 2 = 0) (h0 : ∀ i, i < 86 → p.A 0 i = 0) (hs : ∀ k, k < 126 → st k = 0) : PadN p st ah wo n 0 0 := by
  have et : tN st = 0 := by unfold tN; rw [hs 125 (by decide)]; decide
  have em : mN st = 0 := by unfold mN; rw [hs 124 (by decide)]; decide
  refine ⟨h1, h6, e3, by omega, e11, by omega, e2, fun i hi => absurd hi (Nat.not_lt_zero i), fun j hj => ?_, fun i j hij hj => ?_⟩
  · have ej : j = 0 := by omega
    subst ej
    unfold pgk stk
    rw [if_pos rfl, if_pos rfl]
    refine ⟨⟨by rw [h0 0 (by decide), hs 125 (by decide)], by rw [h0 1 (by decide), hs 124 (by decide)], fun s hs6 => ⟨by rw [h0 _ (by omega), hs _ (by omega)], by rw [h0 _ (by omega), hs _ (by omega)], fun c hc => by rw [h0 _ (by omega), hs _ (by omega)]⟩, fun k hk => by rw [em] at hk; omega⟩, by rw [et, hs 125 (by decide)]; rfl, by omega, by rw [em, hs 124 (by decide)]; rfl, by omega, fun k hk => by rw [em] at hk; omega, fun s hs6 c hc => ?_⟩
    rw [em, hs _ (by omega)]; rfl
  · have ej : j = 0 := by omega
    have ei : i = 0 := by omega
    rw [ei, ej]; exact Nat.le_refl _
theorem s_pad {t : Nat → St} {x : St} (h : Rel t x) (x1 : Int32) : SimI (wpX11_pad x1 t) (wpX12_pad x1 x) := by
  obtain ⟨n, w, u, e1, e2, e3, hc, g⟩ := h.1.got
  obtain ⟨hN, hO, hT, hM⟩ := id h
  unfold SimI wpX11_pad wpX12_pad wjX11_pad_11 wpX12_bad
  refine v_le 1 6 (by decide) (by decide) (fun a => k_bad ?_) (fun a b => ?_)
  · exact in_rule 1 6 (by decide) (by decide) (fun a1 a2 => absurd a (by omega)) (fun _ => b0n (m_ref0 ⟨rfl, R_bad h⟩))
  · intro r er
    refine k_beginAnew (fun p' f1 f2 f3 f4 f5 f6 => ?_)
    intro t5 et
    refine in_rule 1 6 (by decide) (by decide) (fun _ _ => b1n ?_) (fun z => absurd z (by omega))
    intro r2 er2 y1 ey1 y2 ey2
    subst ey1; subst ey2
    refine m_empty (fun x' g1 g2 g3 g4 g5 g6 => ?_)
    obtain ⟨k, ek, hk, _⟩ := toNI (show 0 ≤ x1.toInt by omega)
    subst et
    refine ⟨by rw [er, er2, g.2.2.1, e1], ⟨by rw [g1]; exact f2, k, 0, 0, ?_, ?_, g2, PadN_new (by omega) (by omega) (by rw [← ek]; exact f1) f4 f3 f5 g5⟩, ?_, ?_, ?_⟩
    · rw [g3 0 (by decide) (by decide), ← ek]; rfl
    · rw [g3 3 (by decide) (by decide)]; rfl
    · unfold ObjR at hO ⊢
      rw [g4, g4, g6 9 (by decide)]
      exact hO
    · unfold TxtR at hT ⊢
      rw [g3 11 (by decide) (by decide), g6 10 (by decide)]
      exact hT
    · unfold ImsR at hM ⊢
      rw [g6 27 (by decide), g6 28 (by decide)]
      exact hM
end
section
def shU (u : Nat) : Nat := if u = 8 then 1 else 0
def upU (u : Nat) : Nat := if u = 8 then 8 else u + 1
theorem k_keep {p : St} {u : Nat} (eu : p.I 2 = nI u) (hu : u ≤ 8) {Post : St → Prop} (h : ∀ p' : St, (∀ k, k ≠ 2 → p'.I k = p.I k) → p'.I 2 = nI (upU u) → (∀ k, k ≠ 1 → p'.A k = p.A k) → (∀ j, j < upU u → ∀ i, i < 86 → p'.A 1 (86 * j + i) = pgk p u (j + shU u) i) → Post p') : wpX4_keepForUndo p Post := by
  have e86 : ∀ v : Nat, nI v * (86 : Int32) = nI (86 * v) := fun v => by
    show nI v * nI 86 = _
    rw [pk_mul]; congr 1; omega
  unfold wpX4_keepForUndo wjX4_keepForUndo_32
  rw [eu]
  refine pk_lt u 8 (fun hlt => ?_) (fun hge => ?_)
  · have s0 : shU u = 0 := by unfold shU; rw [if_neg (by omega)]
    have u0 : upU u = u + 1 := by unfold upU; rw [if_neg (by omega)]
    rw [e86, ncl (by omega)]
    refine ⟨nI_pos (by omega), by omega, fun p1 e1 p2 e2 => ?_⟩
    subst e1; subst e2
    refine h _ (fun k hk => by rw [sI_I, if_neg hk]; rfl) ?_ (fun k hk => by rw [sI_A, sA_A, if_neg hk]) (fun j hj i hi => ?_)
    · rw [sI_I, if_pos rfl, u0]
      show p.I 2 + 1 = _
      rw [eu]; exact nI_1 u
    · rw [u0] at hj
      show va_cpy (p.A 0) (p.A 1) 0 (86 * u) 86 (86 * j + i) = _
      rw [s0, Nat.add_zero]
      unfold pgk
      by_cases hju : j = u
      · subst hju
        rw [if_pos rfl, pk_cpy_in (by omega) (by omega)]
        congr 1; omega
      · rw [if_neg hju, pk_cpy_out (by omega)]
  · have e8 : u = 8 := by omega
    subst e8
    have s0 : shU 8 = 1 := rfl
    have u0 : upU 8 = 8 := rfl
    intro p3 e3 p4 e4
    subst e3; subst e4
    have e7 : ((p.sA 1 (va_cpy (p.A 1) (p.A 1) 86 0 602)).sI 2 7).I 2 * 86 = nI (86 * 7) := e86 7
    rw [e7, ncl (by omega)]
    refine ⟨nI_pos (by omega), by omega, fun p1 e1 p2 e2 => ?_⟩
    subst e1; subst e2
    refine h _ (fun k hk => ?_) rfl (fun k hk => ?_) (fun j hj i hi => ?_)
    · rw [sI_I, if_neg hk]
      show ((p.sA 1 _).sI 2 7).I k = _
      rw [sI_I, if_neg hk]; rfl
    · rw [sI_A, sA_A, if_neg hk, sI_A, sA_A, if_neg hk]
    · rw [u0] at hj
      show va_cpy (p.A 0) (va_cpy (p.A 1) (p.A 1) 86 0 602) 0 (86 * 7) 86 (86 * j + i) = _
      rw [s0]
      unfold pgk
      by_cases hj7 : j = 7
      · subst hj7
        rw [if_pos rfl, pk_cpy_in (by omega) (by omega), show 0 + (86 * 7 + i - 86 * 7) = i by omega]
      · rw [if_neg (by omega), pk_cpy_out (by omega), pk_cpy_in (by omega) (by omega), show 86 + (86 * j + i - 0) = 86 * (j + 1) + i by omega]
theorem m_noteL {x : St} {v : Nat} (ev : x.I 6 = nI v) (hv : v < 8) {Post : St → Prop} {KX : St → Prop} (h : ∀ x' : St, (∀ k, x'.I k = x.I k) → (∀ k, x'.L k = x.L k) → (∀ k, k ≠ 5 → x'.A k = x.A k) → (∀ i, x'.A 5 i = if 126 * v ≤ i ∧ i < 126 * v + 126 then x.A 4 (i - 126 * v) else x.A 5 i) → KX x') : ∃ n, wLX12_note_51 Post KX n (0, x) := by
  refine it_rule (F := fun self z => wlX12_note_51 Post KX self z.1 z.2) (fun z => ∃ (j : Nat) (y : St), z = (nI j, y) ∧ j ≤ 126 ∧ (∀ k, y.I k = x.I k) ∧ (∀ k, y.L k = x.L k) ∧ (∀ k, k ≠ 5 → y.A k = x.A k) ∧ ∀ i, y.A 5 i = if 126 * v ≤ i ∧ i < 126 * v + j then x.A 4 (i - 126 * v) else x.A 5 i) (fun z => 126 - z.1.toNatClampNeg) ?_ _ ⟨0, x, rfl, by omega, fun _ => rfl, fun _ => rfl, fun _ _ => rfl, fun i => by rw [if_neg (by omega)]⟩
  rintro self z ⟨j, y, rfl, hj, a1, a2, a3, a4⟩ hself
  dsimp only at hself ⊢
  unfold wlX12_note_51
  have e : (126 : Int32) * y.I 6 + nI j = nI (126 * v + j) := by
    rw [a1, ev]
    show nI 126 * nI v + nI j = _
    rw [pk_mul, nI_add]
  refine pk_le 126 j (fun hle => ?_) (fun hlt => ?_)
  · have e126 : j = 126 := by omega
    subst e126
    exact h y a1 a2 a3 a4
  · rw [e]
    refine ⟨vp_in_nI (by omega) (by omega), vp_in_nI (by omega) (by omega), fun y' ey z ez => ?_⟩
    rw [ncl (by omega), ncl (by omega)] at ey
    subst ey; subst ez
    rw [nI_1]
    refine hself _ ⟨j + 1, _, rfl, by omega, a1, a2, fun k hk => ?_, fun i => ?_⟩ (by dsimp only; rw [ncl (by omega), ncl (by omega)]; omega)
    · rw [sA_A, if_neg hk]; exact a3 k hk
    · show upd (y.A 5) (126 * v + j) (y.A 4 j) i = _
      unfold upd
      by_cases hi : i = 126 * v + j
      · rw [if_pos hi, if_pos (by omega), a3 4 (by decide), hi]
        congr 1; omega
      · rw [if_neg hi, a4 i]
        by_cases hr : 126 * v ≤ i ∧ i < 126 * v + j
        · rw [if_pos hr, if_pos (by omega)]
        · rw [if_neg hr, if_neg (by omega)]
theorem m_shiftL {x : St} {Post : St → Prop} {KX : St → Prop} (h : ∀ x' : St, (∀ k, x'.I k = x.I k) → (∀ k, x'.L k = x.L k) → (∀ k, k ≠ 5 → x'.A k = x.A k) → (∀ i, x'.A 5 i = if i < 882 then x.A 5 (i + 126) else x.A 5 i) → KX x') : ∃ n, wLX12_note_11 Post KX n (0, x) := by
  refine it_rule (F := fun self z => wlX12_note_11 Post KX self z.1 z.2) (fun z => ∃ (j : Nat) (y : St), z = (nI j, y) ∧ j ≤ 882 ∧ (∀ k, y.I k = x.I k) ∧ (∀ k, y.L k = x.L k) ∧ (∀ k, k ≠ 5 → y.A k = x.A k) ∧ ∀ i, y.A 5 i = if i < j then x.A 5 (i + 126) else x.A 5 i) (fun z => 882 - z.1.toNatClampNeg) ?_ _ ⟨0, x, rfl, by omega, fun _ => rfl, fun _ => rfl, fun _ _ => rfl, fun i => by rw [if_neg (by omega)]⟩
  rintro self z ⟨j, y, rfl, hj, a1, a2, a3, a4⟩ hself
  dsimp only at hself ⊢
  unfold wlX12_note_11
  have e : nI j + (126 : Int32) = nI (j + 126) := by
    show nI j + nI 126 = _
    rw [nI_add]
  refine pk_le 882 j (fun hle => ?_) (fun hlt => ?_)
  · have e882 : j = 882 := by omega
    subst e882
    exact h y a1 a2 a3 a4
  · rw [e]
    refine ⟨vp_in_nI (by omega) (by omega), vp_in_nI (by omega) (by omega), fun y' ey z ez => ?_⟩
    rw [ncl (by omega), ncl (by omega)] at ey
    subst ey; subst ez
    rw [nI_1]
    refine hself _ ⟨j + 1, _, rfl, by omega, a1, a2, fun k hk => ?_, fun i => ?_⟩ (by dsimp only; rw [ncl (by omega), ncl (by omega)]; omega)
    · rw [sA_A, if_neg hk]; exact a3 k hk
    · show upd (y.A 5) j (y.A 5 (j + 126)) i = _
      unfold upd
      by_cases hi : i = j
      · rw [if_pos hi, if_pos (by omega), a4 (j + 126), if_neg (by omega), hi]
      · rw [if_neg hi, a4 i]
        by_cases hr : i < j
        · rw [if_pos hr, if_pos (by omega)]
        · rw [if_neg hr, if_neg (by omega)]
theorem m_note {x : St} {u : Nat} (eu : x.I 6 = nI u) (hu : u ≤ 8) {Post : St → Prop} (h : ∀ x' : St, (∀ k, k ≠ 6 → x'.I k = x.I k) → x'.I 6 = nI (upU u) → (∀ k, x'.L k = x.L k) → (∀ k, k ≠ 5 → x'.A k = x.A k) → (∀ j, j < upU u → ∀ k, k < 126 → x'.A 5 (126 * j + k) = stk (x.A 4) (x.A 5) u (j + shU u) k) → Post x') : wpX12_note x Post := by
  refine ⟨fun hne => ?_, fun he => ?_⟩
  · have hu8 : u ≠ 8 := fun q => hne (by rw [eu, q]; rfl)
    have s0 : shU u = 0 := by unfold shU; rw [if_neg hu8]
    have u0 : upU u = u + 1 := by unfold upU; rw [if_neg hu8]
    refine m_noteL eu (by omega) (fun y a1 a2 a3 a4 => ?_)
    intro y1 e1
    subst e1
    refine h _ (fun k hk => by rw [sI_I, if_neg hk]; exact a1 k) ?_ a2 a3 (fun j hj k hk => ?_)
    · rw [sI_I, if_pos rfl, a1, eu, u0]; exact nI_1 u
    · rw [u0] at hj
      show y.A 5 (126 * j + k) = _
      have e0 : j + shU u = j := by rw [s0]; rfl
      rw [a4, e0]
      unfold stk
      by_cases hju : j = u
      · rw [if_pos hju, if_pos (by omega), show 126 * j + k - 126 * u = k by rw [hju]; omega]
      · rw [if_neg hju, if_neg (by omega)]
  · have e8 : u = 8 := (nI_eq (b := 8) (by omega) (by decide)).mp (eu.symm.trans he)
    subst e8
    have s0 : shU 8 = 1 := rfl
    have u0 : upU 8 = 8 := rfl
    refine m_shiftL (fun y a1 a2 a3 a4 => ?_)
    intro y1 e1
    subst e1
    refine m_noteL (v := 7) ?_ (by omega) (fun z b1 b2 b3 b4 => ?_)
    · rw [sI_I, if_pos rfl, a1, eu]; decide
    · intro y2 e2
      subst e2
      refine h _ (fun k hk => ?_) ?_ (fun k => (b2 k).trans (a2 k)) (fun k hk => (b3 k hk).trans (a3 k hk)) (fun j hj k hk => ?_)
      · rw [sI_I, if_neg hk, b1, sI_I, if_neg hk]; exact a1 k
      · rw [sI_I, if_pos rfl, b1, sI_I, if_pos rfl, a1, eu]; decide
      · rw [u0] at hj
        show z.A 5 (126 * j + k) = _
        rw [b4, s0]
        unfold stk
        by_cases hj7 : j = 7
        · subst hj7
          rw [if_pos rfl, if_pos (by omega)]
          show y.A 4 _ = _
          rw [a3 4 (by decide), show 126 * 7 + k - 126 * 7 = k by omega]
        · rw [if_neg (by omega), if_neg (by omega)]
          show y.A 5 (126 * j + k) = _
          rw [a4, if_pos (by omega), show 126 * j + k + 126 = 126 * (j + 1) + k by omega]
theorem PadN_push {p p' : St} {st ah wo ah' : Nat → Int32} {n w u : Nat} (hI : ∀ k, k ≠ 2 → p'.I k = p.I k) (h2 : p'.I 2 = nI (upU u)) (hA : ∀ k, k ≠ 1 → p'.A k = p.A k) (h1 : ∀ j, j < upU u → ∀ i, i < 86 → p'.A 1 (86 * j + i) = pgk p u (j + shU u) i) (ha : ∀ j, j < upU u → ∀ k, k < 126 → ah' (126 * j + k) = stk st ah u (j + shU u) k) (h : PadN p st ah wo n w u) : PadN p' st ah' wo n w (upU u) := by
  obtain ⟨g1, g2, g3, g4, g5, g6, g7, g8, g9, g10⟩ := h
  have hup : upU u ≤ 8 ∧ ∀ j, j < upU u → j + shU u ≤ u := by
    unfold upU shU
    by_cases h8 : u = 8
    · rw [if_pos h8, if_pos h8]; exact ⟨by omega, fun j hj => by omega⟩
    · rw [if_neg h8, if_neg h8]; exact ⟨by omega, fun j hj => by omega⟩
  have hst : ∀ j, j ≤ upU u → ∃ i, i ≤ u ∧ (j < upU u → i = j + shU u) ∧ (j = upU u → i = u) ∧ (∀ k, k < 126 → stk st ah' (upU u) j k = stk st ah u i k) ∧ ∀ k, k < 86 → pgk p' (upU u) j k = pgk p u i k := by
    intro j hj
    by_cases hju : j = upU u
    · refine ⟨u, Nat.le_refl u, fun q => by omega, fun _ => rfl, fun k hk => ?_, fun k hk => ?_⟩
      · unfold stk; rw [if_pos hju, if_pos rfl]
      · unfold pgk; rw [if_pos hju, if_pos rfl, hA 0 (by decide)]
    · refine ⟨j + shU u, hup.2 j (by omega), fun _ => rfl, fun q => absurd q hju, fun k hk => ?_, fun k hk => ?_⟩
      · rw [← ha j (by omega) k hk]
        unfold stk; rw [if_neg hju]
      · rw [← h1 j (by omega) k hk]
        unfold pgk; rw [if_neg hju]
  refine ⟨g1, g2, by rw [hI 3 (by decide)]; exact g3, g4, by rw [hI 11 (by decide)]; exact g5, hup.1, h2, fun i hi => by rw [hA 10 (by decide)]; exact g8 i hi, fun j hj => ?_, fun i j hij hj => ?_⟩
  · obtain ⟨i, hi, -, -, hs, hp⟩ := hst j hj
    obtain ⟨r, wf⟩ := g9 i hi
    exact ⟨RP_c hp hs wf.2.2.2.1 (fun k hk => by rw [hA 5 (by decide), hA 6 (by decide), hA 7 (by decide), hA 8 (by decide), hA 9 (by decide)]; exact ⟨rfl, rfl, rfl, rfl, fun _ _ => rfl⟩) r, WF_c g2 hs wf⟩
  · obtain ⟨a, ha1, ha2, ha3, hs, -⟩ := hst i (by omega)
    obtain ⟨b, hb1, hb2, hb3, hs2, -⟩ := hst j hj
    rw [mN_c hs, mN_c hs2]
    refine g10 a b ?_ hb1
    by_cases hju : j = upU u
    · rw [hb3 hju]; exact ha1
    · rw [ha2 (by omega), hb2 (by omega)]; omega
theorem k_usedUp {p : St} {T n : Nat} (eT : p.A 0 0 = nI T) (eI : p.I 3 = nI n) (hT : T ≤ 6) (hn : n ≤ 6) {Post : Int32 → Prop} (h0 : T < n → Post 0) (h1 : ¬ T < n → Post 1) : wpX4_isUsedUp p Post := by
  unfold wpX4_isUsedUp
  rw [eT, eI]
  exact pk_lt T n h0 (fun q => h1 (by omega))
theorem s_tear {t : Nat → St} {x : St} (h : Rel t x) : SimI (wpX11_tear t) (wpX12_tear x) := by
  obtain ⟨n, w, u, e1, e2, e3, hc, g⟩ := h.1.got
  obtain ⟨hN, hO, hT, hM⟩ := id h
  obtain ⟨q0, q1, q2, q3, q4, q5⟩ := g.nums
  have hn6 := g.2.1
  unfold SimI wpX11_tear wpX12_tear
  refine k_usedUp q0 g.2.2.1 (by omega) hn6 (fun hlt => b0e ?_) (fun hge => b1e (k_no ?_))
  · refine k_keep g.2.2.2.2.2.2.1 g.2.2.2.2.2.1 (fun p' f1 f2 f3 f4 => ?_)
    intro t3 et3 p1 ep1 t6 et6
    subst et3
    refine ⟨fun _ => ?_, fun e => absurd ((nI_eq (by omega) (by omega)).mp (q2.symm.trans (e.trans e1))) (by omega)⟩
    refine m_note e3 g.2.2.2.2.2.1 (fun x' g1 g2 g3 g4 g5 => ?_)
    intro x2 ex2
    have hpush := PadN_push f1 f2 f3 f4 g5 g
    have hp0 : (upS t 2 p') 2 = p' := rfl
    rw [hp0] at ep1
    subst ep1; subst et6; subst ex2
    have eP : (p'.A 0) 0 + 1 = nI (tN (x.A 4) + 1) := by rw [f3 0 (by decide), q0]; exact nI_1 _
    have eX : (x'.A 4) 125 + 1 = nI (tN (x.A 4) + 1) := by rw [g4 4 (by decide), q2]; exact nI_1 _
    refine ⟨?_, ⟨?_, n, w, upU u, ?_, ?_, g2, ?_⟩, ?_, ?_, ?_⟩
    · show (p'.A 0) 0 + 1 - 1 = (x'.A 4) 125 + 1 - 1
      rw [eP, eX]
    · show p'.I 4 = x'.I 1
      rw [f1 4 (by decide), g1 1 (by decide)]; exact hc
    · show x'.I 0 = _
      rw [g1 0 (by decide)]; exact e1
    · show x'.I 3 = _
      rw [g1 3 (by decide)]; exact e2
    · -- the pad, one sheet less
      have hstA : ∀ k, k ≠ 125 → upd (x'.A 4) 125 ((x'.A 4) 125 + 1) k = x.A 4 k := fun k hk => by
        unfold upd; rw [if_neg hk, g4 4 (by decide)]
      have hst125 : upd (x'.A 4) 125 ((x'.A 4) 125 + 1) 125 = nI (tN (x.A 4) + 1) := by unfold upd; rw [if_pos rfl, eX]
      obtain ⟨a1, a2, a3, a4, a5, a6, a7, a8, a9, a10⟩ := hpush
      show PadN (p'.sA 0 (upd (p'.A 0) 0 ((p'.A 0) 0 + 1))) (upd (x'.A 4) 125 ((x'.A 4) 125 + 1)) (x'.A 5) (x'.A 2) n w (upU u)
      have etN : tN (upd (x'.A 4) 125 ((x'.A 4) 125 + 1)) = tN (x.A 4) + 1 := by
        unfold tN at *
        rw [hst125, ncl (by omega)]
      have emN : mN (upd (x'.A 4) 125 ((x'.A 4) 125 + 1)) = mN (x.A 4) := by
        unfold mN
        rw [hstA 124 (by decide)]
      have hstk : ∀ j, j ≤ upU u → j ≠ upU u → stk (upd (x'.A 4) 125 ((x'.A 4) 125 + 1)) (x'.A 5) (upU u) j = stk (x.A 4) (x'.A 5) (upU u) j := fun j _ hj => by
        unfold stk; rw [if_neg hj, if_neg hj]
      have hpgk : ∀ j, j ≤ upU u → j ≠ upU u → pgk (p'.sA 0 (upd (p'.A 0) 0 ((p'.A 0) 0 + 1))) (upU u) j = pgk p' (upU u) j := fun j _ hj => by
        unfold pgk; rw [if_neg hj, if_neg hj]; rfl
      refine ⟨a1, a2, a3, a4, a5, a6, a7, fun i hi => by rw [g4 2 (by decide)]; exact a8 i hi, fun j hj => ?_, fun i j hij hj => ?_⟩
      · by_cases hju : j = upU u
        · have ec := a9 (upU u) (Nat.le_refl _)
          unfold pgk stk at ec ⊢
          rw [if_pos rfl, if_pos rfl] at ec
          rw [if_pos hju, if_pos hju]
          obtain ⟨⟨r1, r2, r3, r4⟩, w1, w2, w3, w4, w5, w6⟩ := ec
          refine ⟨⟨?_, ?_, fun s hs => ⟨?_, ?_, fun c hc => ?_⟩, fun k hk => ?_⟩, ?_, by omega, ?_, by omega, fun k hk => ?_, fun s hs c hc => ?_⟩
          · rw [hst125]
            show upd (p'.A 0) 0 ((p'.A 0) 0 + 1) 0 = _
            unfold upd; rw [if_pos rfl]; exact eP
          · rw [hstA 124 (by decide)]
            show upd (p'.A 0) 0 ((p'.A 0) 0 + 1) 1 = _
            unfold upd; rw [if_neg (by decide)]; exact r2
          · rw [hstA _ (by omega)]
            show upd (p'.A 0) 0 ((p'.A 0) 0 + 1) (2 + 14 * s) = _
            unfold upd; rw [if_neg (by omega)]; exact (r3 s hs).1
          · rw [hstA _ (by omega)]
            show upd (p'.A 0) 0 ((p'.A 0) 0 + 1) (3 + 14 * s) = _
            unfold upd; rw [if_neg (by omega)]; exact (r3 s hs).2.1
          · rw [hstA _ (by omega)]
            show upd (p'.A 0) 0 ((p'.A 0) 0 + 1) (4 + 14 * s + c) = _
            unfold upd; rw [if_neg (by omega)]; exact (r3 s hs).2.2 c hc
          · rw [emN] at hk
            rw [hstA _ (by omega), hstA _ (by omega), hstA _ (by omega), hstA _ (by omega)]
            exact r4 k hk
          · rw [hst125, etN]
          · rw [hstA 124 (by decide), emN]; exact w3
          · rw [emN] at hk
            exact GN_c (fun i h1 h2 => hstA i (by omega)) (by rw [etN]; omega) (w5 k hk)
          · rw [hstA _ (by omega), w6 s hs c hc, emN, mx_c _ (fun i h1 h2 => hstA i (by omega))]
        · rw [hstk j hj hju, hpgk j hj hju]
          obtain ⟨⟨r1, r2, r3, r4⟩, wf⟩ := a9 j hj
          exact ⟨⟨r1, r2, r3, r4⟩, wf⟩
      · have hmono := a10 i j hij hj
        have e0 : ∀ j, j ≤ upU u → mN (stk (upd (x'.A 4) 125 ((x'.A 4) 125 + 1)) (x'.A 5) (upU u) j) = mN (stk (x.A 4) (x'.A 5) (upU u) j) := fun j hj => by
          by_cases hju : j = upU u
          · unfold stk; rw [if_pos hju, if_pos hju]; exact emN
          · rw [hstk j hj hju]
        rw [e0 i (by omega), e0 j hj]; exact hmono
    · unfold ObjR at hO ⊢
      show _ = x'.L 7 ∧ _ = x'.L 8 ∧ _ = (x'.A 9) 0 ∧ _ = (x'.A 9) 1 ∧ _ = (x'.A 9) 2
      rw [g3, g3, g4 9 (by decide)]
      exact hO
    · unfold TxtR at hT ⊢
      obtain ⟨b, b1, b2, b3, b4⟩ := hT
      refine ⟨b, b1, b2, ?_, ?_⟩
      · show x'.I 11 = _
        rw [g1 11 (by decide)]; exact b3
      · show ∀ k, k < b → _ = x'.A 10 k ∧ ∃ c, c < 128 ∧ x'.A 10 k = nI c
        rw [g4 10 (by decide)]; exact b4
    · unfold ImsR at hM ⊢
      show ∃ b0 b1 : Nat, b0 < 2 ∧ b1 < 2 ∧ _ ∧ x'.A 27 0 = nI b0 ∧ x'.A 27 1 = nI b1 ∧ (b0 = 1 → ImgR _ (x'.A 28) 0) ∧ (b1 = 1 → ImgR _ (x'.A 28) 1)
      rw [g4 27 (by decide), g4 28 (by decide)]
      exact hM
  · have eT : tN (x.A 4) = n := by omega
    refine ⟨fun hne => absurd (by rw [q2, eT, e1]) hne, fun _ => m_ref1 ⟨rfl, R_no h⟩⟩
end
section
/-- what of the model the other parts look at -/
theorem R_rest {t t' : Nat → St} {x x' : St} (h : Rel t x) (h0 : t' 0 = t 0) (h4 : t' 4 = t 4) (h5 : t' 5 = t 5) (h8 : t' 8 = t 8) (hL : ∀ k, x'.L k = x.L k) (h11 : x'.I 11 = x.I 11) (a9 : x'.A 9 = x.A 9) (a10 : x'.A 10 = x.A 10) (a27 : x'.A 27 = x.A 27) (a28 : x'.A 28 = x.A 28) (hN : NowR (t' 2) x') : Rel t' x' := by
  obtain ⟨-, hO, hT, hM⟩ := h
  refine ⟨hN, ?_, ?_, ?_⟩
  · unfold ObjR at hO ⊢
    rw [h0, hL, hL, a9]; exact hO
  · unfold TxtR at hT ⊢
    rw [h8, h11, a10]; exact hT
  · unfold ImsR at hM ⊢
    rw [h0, h4, h5, a27, a28]; exact hM
theorem m_undoL {x : St} {v : Nat} (ev : x.I 6 = nI v) (hv : v < 8) {Post : Int32 → St → Prop} {KX : St → Prop} (h : ∀ x' : St, (∀ k, x'.I k = x.I k) → (∀ k, x'.L k = x.L k) → (∀ k, k ≠ 4 → x'.A k = x.A k) → (∀ i, i < 126 → x'.A 4 i = x.A 5 (126 * v + i)) → KX x') : ∃ n, wLX12_undo_27 Post KX n (0, x) := by
  refine it_rule (F := fun self z => wlX12_undo_27 Post KX self z.1 z.2) (fun z => ∃ (j : Nat) (y : St), z = (nI j, y) ∧ j ≤ 126 ∧ (∀ k, y.I k = x.I k) ∧ (∀ k, y.L k = x.L k) ∧ (∀ k, k ≠ 4 → y.A k = x.A k) ∧ ∀ i, i < j → y.A 4 i = x.A 5 (126 * v + i)) (fun z => 126 - z.1.toNatClampNeg) ?_ _ ⟨0, x, rfl, by omega, fun _ => rfl, fun _ => rfl, fun _ _ => rfl, fun i hi => absurd hi (Nat.not_lt_zero i)⟩
  rintro self z ⟨j, y, rfl, hj, a1, a2, a3, a4⟩ hself
  dsimp only at hself ⊢
  unfold wlX12_undo_27
  have e : (126 : Int32) * y.I 6 + nI j = nI (126 * v + j) := by
    rw [a1, ev]
    show nI 126 * nI v + nI j = _
    rw [pk_mul, nI_add]
  refine pk_le 126 j (fun hle => ?_) (fun hlt => ?_)
  · have e126 : j = 126 := by omega
    subst e126
    exact h y a1 a2 a3 a4
  · rw [e]
    refine ⟨vp_in_nI (by omega) (by omega), vp_in_nI (by omega) (by omega), fun y' ey z ez => ?_⟩
    rw [ncl (by omega), ncl (by omega)] at ey
    subst ey; subst ez
    rw [nI_1]
    refine hself _ ⟨j + 1, _, rfl, by omega, a1, a2, fun k hk => ?_, fun i hi => ?_⟩ (by dsimp only; rw [ncl (by omega), ncl (by omega)]; omega)
    · rw [sA_A, if_neg hk]; exact a3 k hk
    · show upd (y.A 4) j (y.A 5 (126 * v + j)) i = _
      unfold upd
      by_cases hij : i = j
      · rw [if_pos hij, a3 5 (by decide), hij]
      · rw [if_neg hij]; exact a4 i (by omega)
theorem PadN_pop {p p' : St} {st ah wo st' : Nat → Int32} {n w v : Nat} (hI : ∀ k, k ≠ 2 → p'.I k = p.I k) (h2 : p'.I 2 = nI v) (hA : ∀ k, k ≠ 0 → p'.A k = p.A k) (h0 : ∀ i, i < 86 → p'.A 0 i = p.A 1 (86 * v + i)) (hs : ∀ k, k < 126 → st' k = ah (126 * v + k)) (h : PadN p st ah wo n w (v + 1)) : PadN p' st' ah wo n w v := by
  obtain ⟨g1, g2, g3, g4, g5, g6, g7, g8, g9, g10⟩ := h
  have hst : ∀ j, j ≤ v → (∀ k, k < 126 → stk st' ah v j k = stk st ah (v + 1) j k) ∧ ∀ k, k < 86 → pgk p' v j k = pgk p (v + 1) j k := by
    intro j hj
    by_cases hjv : j = v
    · refine ⟨fun k hk => ?_, fun k hk => ?_⟩
      · unfold stk; rw [if_pos hjv, if_neg (by omega), hs k hk, hjv]
      · unfold pgk; rw [if_pos hjv, if_neg (by omega), h0 k hk, hjv]
    · refine ⟨fun k hk => ?_, fun k hk => ?_⟩
      · unfold stk; rw [if_neg hjv, if_neg (by omega)]
      · unfold pgk; rw [if_neg hjv, if_neg (by omega), hA 1 (by decide)]
  refine ⟨g1, g2, by rw [hI 3 (by decide)]; exact g3, g4, by rw [hI 11 (by decide)]; exact g5, by omega, h2, fun i hi => by rw [hA 10 (by decide)]; exact g8 i hi, fun j hj => ?_, fun i j hij hj => ?_⟩
  · obtain ⟨r, wf⟩ := g9 j (by omega)
    exact ⟨RP_c (hst j hj).2 (hst j hj).1 wf.2.2.2.1 (fun k hk => by rw [hA 5 (by decide), hA 6 (by decide), hA 7 (by decide), hA 8 (by decide), hA 9 (by decide)]; exact ⟨rfl, rfl, rfl, rfl, fun _ _ => rfl⟩) r, WF_c g2 (hst j hj).1 wf⟩
  · rw [mN_c (hst i (by omega)).1, mN_c (hst j hj).1]
    exact g10 i j hij (by omega)
theorem s_undo {t : Nat → St} {x : St} (h : Rel t x) : SimI (wpX11_undo t) (wpX12_undo x) := by
  obtain ⟨n, w, u, e1, e2, e3, hc, g⟩ := h.1.got
  have hu8 := g.2.2.2.2.2.1
  have e2' := g.2.2.2.2.2.2.1
  unfold SimI wpX11_undo wpX12_undo
  rw [e2', e3]
  refine pk_lt 0 u (fun hlt => ?_) (fun hge => k_no ?_)
  · obtain ⟨v, rfl⟩ : ∃ v, u = v + 1 := ⟨u - 1, by omega⟩
    unfold wpX4_goBack
    rw [e2']
    refine ⟨fun q => absurd q (nI_nle (by omega) (by omega)), fun _ p1 ep1 => ?_⟩
    rw [nI_pred] at ep1
    have ei2 : p1.I 2 = nI v := by rw [ep1]; rfl
    have e86 : p1.I 2 * (86 : Int32) = nI (86 * v) := by
      rw [ei2]
      show nI v * nI 86 = _
      rw [pk_mul]; congr 1; omega
    rw [e86, ncl (by omega)]
    refine ⟨nI_pos (by omega), by omega, fun p2 ep2 t2 et2 => k_noteCount ?_⟩
    refine ⟨fun _ x1 ex1 => ?_, fun e => absurd ((nI_eq (b := 0) (by omega) (by decide)).mp e) (by omega)⟩
    rw [nI_pred] at ex1
    have ev : x1.I 6 = nI v := by rw [ex1]; rfl
    refine m_undoL ev (by omega) (fun x' a1 a2 a3 a4 => ?_)
    subst et2
    have hI : ∀ k, k ≠ 2 → p2.I k = (t 2).I k := fun k hk => by rw [ep2, sA_I, ep1, sI_I, if_neg hk]
    have h2 : p2.I 2 = nI v := by rw [ep2, sA_I]; exact ei2
    have hA : ∀ k, k ≠ 0 → p2.A k = (t 2).A k := fun k hk => by rw [ep2, sA_A, if_neg hk, ep1, sI_A]
    have h0 : ∀ i, i < 86 → p2.A 0 i = (t 2).A 1 (86 * v + i) := fun i hi => by
      rw [ep2, sA_A, if_pos rfl, pk_cpy_in (by omega) (by omega), ep1, sI_A, show i - 0 = i by omega]
    have hx1A : ∀ k, x1.A k = x.A k := fun k => by rw [ex1]; rfl
    have hs : ∀ k, k < 126 → x'.A 4 k = x.A 5 (126 * v + k) := fun k hk => by rw [a4 k hk, hx1A]
    have hP := PadN_pop hI h2 hA h0 hs g
    have hx'A : ∀ k, k ≠ 4 → x'.A k = x.A k := fun k hk => by rw [a3 k hk, hx1A]
    have hx'I : ∀ k, k ≠ 6 → x'.I k = x.I k := fun k hk => by rw [a1 k, ex1, sI_I, if_neg hk]
    have hnum := hP.nums
    refine ⟨?_, R_rest h rfl rfl rfl rfl (fun k => by rw [a2 k, ex1]; rfl) (hx'I 11 (by decide)) (hx'A 9 (by decide)) (hx'A 10 (by decide)) (hx'A 27 (by decide)) (hx'A 28 (by decide)) ?_⟩
    · show p2.A 0 1 = x'.A 4 124
      rw [hnum.2.1, hnum.2.2.2.1]
    · show NowR p2 x'
      refine ⟨by rw [hI 4 (by decide), hx'I 1 (by decide)]; exact hc, n, w, v, by rw [hx'I 0 (by decide)]; exact e1, by rw [hx'I 3 (by decide)]; exact e2, by rw [a1 6]; exact ev, ?_⟩
      rw [hx'A 5 (by decide), hx'A 2 (by decide)]
      exact hP
  · have e0 : u = 0 := by omega
    subst e0
    exact ⟨fun q => absurd rfl q, fun _ => m_ref1 ⟨rfl, R_no h⟩⟩
/-! images -/
theorem k_copyFrom {p q : St} {u : Nat} (eu : q.I 2 = nI u) (hu : u ≤ 8) {Post : St → Prop} (h : ∀ p' : St, p'.I 3 = q.I 3 → p'.I 4 = q.I 4 → p'.I 2 = q.I 2 → p'.I 11 = q.I 11 → (∀ i, i < 86 → p'.A 0 i = q.A 0 i) → (∀ i, i < 86 * u → p'.A 1 i = q.A 1 i) → (∀ k, k < 10 → p'.A 5 k = q.A 5 k ∧ p'.A 6 k = q.A 6 k ∧ p'.A 7 k = q.A 7 k ∧ p'.A 8 k = q.A 8 k) → (∀ k, k < 60 → p'.A 9 k = q.A 9 k) → (∀ k, k < 8 → p'.A 10 k = q.A 10 k) → Post p') : wpX4_copyFrom p q Post := by
  intro p1 e1 p2 e2 p3 e3 p4 e4 p5 e5
  have i2 : p5.I 2 = q.I 2 := by rw [e5, e4, e3]; rfl
  have e86 : p5.I 2 * 86 = nI (86 * u) := by
    rw [i2, eu]
    show nI u * nI 86 = _
    rw [pk_mul]; congr 1; omega
  rw [e86, ncl (by omega)]
  refine ⟨nI_pos (by omega), by omega, by omega, fun p6 e6 p7 e7 p8 e8 p9 e9 p10 e10 p11 e11 p12 e12 => ?_⟩
  refine h p12 ?_ ?_ ?_ ?_ (fun i hi => ?_) (fun i hi => ?_) (fun k hk => ⟨?_, ?_, ?_, ?_⟩) (fun k hk => ?_) (fun k hk => ?_)
  · rw [e12, e11, e10, e9, e8, e7, e6, e5, e4, e3, e2, e1]; rfl
  · rw [e12, e11, e10, e9, e8, e7, e6, e5, e4, e3, e2]; rfl
  · rw [e12, e11, e10, e9, e8, e7, e6]; exact i2
  · rw [e12, e11, e10, e9, e8, e7, e6, e5, e4]; rfl
  · have : p12.A 0 = va_cpy (q.A 0) (p4.A 0) 0 0 86 := by rw [e12, e11, e10, e9, e8, e7, e6, e5]; rfl
    rw [this, pk_cpy_in (by omega) (by omega), show 0 + (i - 0) = i by omega]
  · have : p12.A 1 = va_cpy (q.A 1) (p5.A 1) 0 0 (86 * u) := by rw [e12, e11, e10, e9, e8, e7, e6]; rfl
    rw [this, pk_cpy_in (by omega) (by omega), show 0 + (i - 0) = i by omega]
  · have : p12.A 5 = va_cpy (q.A 5) (p6.A 5) 0 0 10 := by rw [e12, e11, e10, e9, e8, e7]; rfl
    rw [this, pk_cpy_in (by omega) (by omega), show 0 + (k - 0) = k by omega]
  · have : p12.A 6 = va_cpy (q.A 6) (p7.A 6) 0 0 10 := by rw [e12, e11, e10, e9, e8]; rfl
    rw [this, pk_cpy_in (by omega) (by omega), show 0 + (k - 0) = k by omega]
  · have : p12.A 7 = va_cpy (q.A 7) (p8.A 7) 0 0 10 := by rw [e12, e11, e10, e9]; rfl
    rw [this, pk_cpy_in (by omega) (by omega), show 0 + (k - 0) = k by omega]
  · have : p12.A 8 = va_cpy (q.A 8) (p9.A 8) 0 0 10 := by rw [e12, e11, e10]; rfl
    rw [this, pk_cpy_in (by omega) (by omega), show 0 + (k - 0) = k by omega]
  · have : p12.A 9 = va_cpy (q.A 9) (p10.A 9) 0 0 60 := by rw [e12, e11]; rfl
    rw [this, pk_cpy_in (by omega) (by omega), show 0 + (k - 0) = k by omega]
  · have : p12.A 10 = va_cpy (q.A 10) (p11.A 10) 0 0 8 := by rw [e12]; rfl
    rw [this, pk_cpy_in (by omega) (by omega), show 0 + (k - 0) = k by omega]
end
section
theorem m_carry {d s L n0 n1 : Nat} {p q : Nat → Int32} (h0 : d + L ≤ n0) (h1 : s + L ≤ n1) (b0 : n0 < 100000) (b1 : n1 < 100000) {Post : (Nat → Int32) → Prop} (h : ∀ p' : Nat → Int32, (∀ i, d ≤ i → i < d + L → p' i = q (s + (i - d))) → (∀ i, i < d ∨ d + L ≤ i → p' i = p i) → Post p') : wpX12_carry (nI d) (nI s) (nI L) p q n0 n1 Post := by
  unfold wpX12_carry
  refine it_rule (F := fun self z => wlX12_carry_3 q n0 n1 Post _ self z.1 z.2.1 z.2.2.1 z.2.2.2.1 z.2.2.2.2) (fun z => ∃ (j : Nat) (y : Nat → Int32), z = (nI d, nI s, nI L, nI j, y) ∧ j ≤ L ∧ (∀ i, d ≤ i → i < d + j → y i = q (s + (i - d))) ∧ ∀ i, i < d ∨ d + j ≤ i → y i = p i) (fun z => L - z.2.2.2.1.toNatClampNeg) ?_ _ ⟨0, p, rfl, by omega, fun i a b => by omega, fun i _ => rfl⟩
  rintro self z ⟨j, y, rfl, hj, a1, a2⟩ hself
  dsimp only at hself ⊢
  unfold wlX12_carry_3
  refine pk_le L j (fun hle => ?_) (fun hlt => ?_)
  · have e : j = L := by omega
    subst e
    exact h y a1 a2
  · rw [nI_add, nI_add]
    refine ⟨vp_in_nI (by omega) (by omega), vp_in_nI (by omega) (by omega), fun y' ey z ez => ?_⟩
    rw [ncl (by omega), ncl (by omega)] at ey
    subst ey; subst ez
    rw [nI_1]
    refine hself _ ⟨j + 1, _, rfl, by omega, fun i c1 c2 => ?_, fun i c => ?_⟩ (by dsimp only; rw [ncl (by omega), ncl (by omega)]; omega)
    · show upd y (d + j) (q (s + j)) i = _
      unfold upd
      by_cases hi : i = d + j
      · rw [if_pos hi, hi]; congr 1; omega
      · rw [if_neg hi]; exact a1 i c1 (by omega)
    · show upd y (d + j) (q (s + j)) i = _
      unfold upd
      rw [if_neg (by omega)]; exact a2 i (by omega)
/-- a pad beside a block of the model's images -/
def BlkOf (K : Nat → Int32) (b : Nat) (x : St) : Prop := (∀ k, k < 126 → K (b + k) = x.A 4 k) ∧ (∀ k, k < 1008 → K (b + 126 + k) = x.A 5 k) ∧ (∀ k, k < 8 → K (b + 1134 + k) = x.A 2 k) ∧ K (b + 1142) = x.I 0 ∧ K (b + 1143) = x.I 1 ∧ K (b + 1144) = x.I 3 ∧ K (b + 1145) = x.I 6
theorem upd_at {p : Nat → Int32} {i : Nat} {v : Int32} : upd p i v i = v := by unfold upd; rw [if_pos rfl]
theorem upd_ne {p : Nat → Int32} {i k : Nat} {v : Int32} (h : k ≠ i) : upd p i v k = p k := by unfold upd; rw [if_neg h]
theorem m_imageG {x : St} {j : Nat} (hj : j < 2) {Post : Int32 → St → Prop} (h : ∀ x' : St, (∀ k, x'.I k = x.I k) → (∀ k, x'.L k = x.L k) → (∀ k, k ≠ 27 → k ≠ 28 → x'.A k = x.A k) → x'.A 27 = upd (x.A 27) j 1 → BlkOf (x'.A 28) (1154 * j) x → (∀ i, i < 1154 * j ∨ 1154 * j + 1154 ≤ i → x'.A 28 i = x.A 28 i) → Post 1 x') : wpX12_image (nI j) x Post := by
  unfold wpX12_image
  refine in_rule 0 1 (by decide) (by decide) (fun _ _ => b1n ?_) (fun z => absurd z (by rw [nI_toInt (by omega)]; omega))
  intro B eB
  have eB2 : B = nI (1154 * j) := by
    rw [eB]
    show nI 1154 * nI j = _
    rw [pk_mul]
  subst eB2
  rw [show nI (1154 * j) + 126 = nI (1154 * j + 126) from nI_add _ 126, show nI (1154 * j) + 1134 = nI (1154 * j + 1134) from nI_add _ 1134, show nI (1154 * j) + 1142 = nI (1154 * j + 1142) from nI_add _ 1142, show nI (1154 * j) + 1143 = nI (1154 * j + 1143) from nI_add _ 1143, show nI (1154 * j) + 1144 = nI (1154 * j + 1144) from nI_add _ 1144, show nI (1154 * j) + 1145 = nI (1154 * j + 1145) from nI_add _ 1145]
  refine m_carry (s := 0) (L := 126) (by omega) (by omega) (by omega) (by omega) (fun p3 a1 a2 => ?_)
  refine m_carry (s := 0) (L := 1008) (by omega) (by omega) (by omega) (by omega) (fun p4 b1 b2 => ?_)
  refine m_carry (s := 0) (L := 8) (by omega) (by omega) (by omega) (by omega) (fun p5 c1 c2 => ?_)
  refine ⟨vp_in_nI (by omega) (by omega), fun p6 e6 => ⟨vp_in_nI (by omega) (by omega), fun p7 e7 => ⟨vp_in_nI (by omega) (by omega), fun p8 e8 => ⟨vp_in_nI (by omega) (by omega), fun p9 e9 => ⟨vp_in_nI (by omega) (by omega), fun p10 e10 => ?_⟩⟩⟩⟩⟩
  rw [ncl (by omega)] at e6 e7 e8 e9 e10
  have f28 : p10.A 28 = upd (upd (upd (upd p5 (1154 * j + 1142) (x.I 0)) (1154 * j + 1143) (x.I 1)) (1154 * j + 1144) (x.I 3)) (1154 * j + 1145) (x.I 6) := by
    rw [e10, e9, e8, e7, e6]; rfl
  have hb2 : ∀ i, i < 1154 * j + 126 ∨ 1154 * j + 126 + 1008 ≤ i → p4 i = p3 i := b2
  have hc2 : ∀ i, i < 1154 * j + 1134 ∨ 1154 * j + 1134 + 8 ≤ i → p5 i = p4 i := c2
  refine h p10 (fun k => by rw [e10, e9, e8, e7, e6]; rfl) (fun k => by rw [e10, e9, e8, e7, e6]; rfl) (fun k k1 k2 => ?_) (by rw [e10, e9, e8, e7, e6]; rfl) ⟨fun k hk => ?_, fun k hk => ?_, fun k hk => ?_, ?_, ?_, ?_, ?_⟩ (fun i hi => ?_)
  · rw [e10, e9, e8, e7, e6]
    simp only [sA_A, if_neg k1, if_neg k2]
  · rw [f28, upd_ne (by omega), upd_ne (by omega), upd_ne (by omega), upd_ne (by omega), hc2 _ (by omega), hb2 _ (by omega), a1 _ (by omega) (by omega)]
    congr 1; omega
  · rw [f28, upd_ne (by omega), upd_ne (by omega), upd_ne (by omega), upd_ne (by omega), hc2 _ (by omega), b1 _ (by omega) (by omega)]
    rw [show 0 + (1154 * j + 126 + k - (1154 * j + 126)) = k by omega]; rfl
  · rw [f28, upd_ne (by omega), upd_ne (by omega), upd_ne (by omega), upd_ne (by omega), c1 _ (by omega) (by omega)]
    rw [show 0 + (1154 * j + 1134 + k - (1154 * j + 1134)) = k by omega]; rfl
  · rw [f28, upd_ne (by omega), upd_ne (by omega), upd_ne (by omega), upd_at]
  · rw [f28, upd_ne (by omega), upd_ne (by omega), upd_at]
  · rw [f28, upd_ne (by omega), upd_at]
  · rw [f28, upd_at]
  · rw [f28, upd_ne (by omega), upd_ne (by omega), upd_ne (by omega), upd_ne (by omega), hc2 _ (by omega), hb2 _ (by omega), a2 _ (by omega)]
theorem ImgR_same {q : St} {ke ke' : Nat → Int32} {i : Nat} (h : ∀ k, 1154 * i ≤ k → k < 1154 * i + 1154 → ke' k = ke k) (g : ImgR q ke i) : ImgR q ke' i := by
  unfold ImgR PadR at *
  obtain ⟨g0, n, w, u, e1, e2, e3, g1⟩ := g
  have hw := g1.2.2.2.1
  have hu := g1.2.2.2.2.2.1
  refine ⟨by rw [h _ (by omega) (by omega)]; exact g0, n, w, u, by rw [h _ (by omega) (by omega)]; exact e1, by rw [h _ (by omega) (by omega)]; exact e2, by rw [h _ (by omega) (by omega)]; exact e3, ?_⟩
  exact PadN_c rfl rfl rfl (fun _ _ => rfl) (fun _ _ => rfl) (fun _ _ => ⟨rfl, rfl, rfl, rfl⟩) (fun _ _ => rfl) (fun _ _ => rfl) (fun k hk => h _ (by omega) (by omega)) (fun k hk => h _ (by omega) (by omega)) (fun k hk => h _ (by omega) (by omega)) g1
/-- a pad's copy -/
def CopyOf (p' q : St) (u : Nat) : Prop := p'.I 3 = q.I 3 ∧ p'.I 4 = q.I 4 ∧ p'.I 2 = q.I 2 ∧ p'.I 11 = q.I 11 ∧ (∀ i, i < 86 → p'.A 0 i = q.A 0 i) ∧ (∀ i, i < 86 * u → p'.A 1 i = q.A 1 i) ∧ (∀ k, k < 10 → p'.A 5 k = q.A 5 k ∧ p'.A 6 k = q.A 6 k ∧ p'.A 7 k = q.A 7 k ∧ p'.A 8 k = q.A 8 k) ∧ (∀ k, k < 60 → p'.A 9 k = q.A 9 k) ∧ ∀ k, k < 8 → p'.A 10 k = q.A 10 k
theorem PadN_copy {p' q : St} {u n w : Nat} {st ah wo st' ah' wo' : Nat → Int32} (c : CopyOf p' q u) (hs : ∀ k, k < 126 → st' k = st k) (ha : ∀ k, k < 126 * u → ah' k = ah k) (hw : ∀ k, k < w → wo' k = wo k) (g : PadN q st ah wo n w u) : PadN p' st' ah' wo' n w u := by
  obtain ⟨c3, c4, c2, c11, c0, c1, c5, c9, c10⟩ := c
  have hw8 := g.2.2.2.1
  exact PadN_c c3 c11 c2 c0 c1 c5 c9 (fun k hk => c10 k (by omega)) hs ha hw g
theorem k_copyP {p q : St} {u : Nat} (eu : q.I 2 = nI u) (hu : u ≤ 8) {Post : St → Prop} (h : ∀ p' : St, CopyOf p' q u → Post p') : wpX4_copyFrom p q Post :=
  k_copyFrom eu hu (fun p' a1 a2 a3 a4 a5 a6 a7 a8 a9 => h p' ⟨a1, a2, a3, a4, a5, a6, a7, a8, a9⟩)
theorem ImgR_new {p' q x : St} {K : Nat → Int32} {j : Nat} {u : Nat} (eu : q.I 2 = nI u) (hu : u ≤ 8) (hN : NowR q x) (c : CopyOf p' q u) (b : BlkOf K (1154 * j) x) : ImgR p' K j := by
  obtain ⟨hc, n, w, u', e1, e2, e3, g⟩ := hN
  have hu' : u' = u := (nI_eq (by have := g.2.2.2.2.2.1; omega) (by omega)).mp (g.2.2.2.2.2.2.1.symm.trans eu)
  subst hu'
  have hw := g.2.2.2.1
  obtain ⟨b1, b2, b3, b4, b5, b6, b7⟩ := b
  refine ⟨by rw [c.2.1, hc]; exact b5.symm, n, w, u', b4.trans e1, b6.trans e2, b7.trans e3, ?_⟩
  exact PadN_copy c b1 (fun k hk => b2 k (by omega)) (fun k hk => b3 k (by omega)) g
theorem s_image {t : Nat → St} {x : St} (h : Rel t x) (x1 : Int32) : SimI (wpX11_image x1 t) (wpX12_image x1 x) := by
  obtain ⟨n, w, u, e1, e2, e3, hc, g⟩ := h.1.got
  obtain ⟨hN, hO, hT, hM⟩ := id h
  have eu := g.2.2.2.2.2.2.1
  have hu := g.2.2.2.2.2.1
  unfold SimI wpX11_image wjX11_image_9
  refine v_lt 0 2 (by decide) (by decide) (fun a => k_bad ?_) (fun a b => ?_)
  · unfold wpX12_image wpX12_bad
    exact in_rule 0 1 (by decide) (by decide) (fun a1 a2 => absurd a (by omega)) (fun _ => b0n (m_ref0 ⟨rfl, R_bad h⟩))
  · obtain ⟨j, ej, hj, _⟩ := toNI a
    have hj2 : j < 2 := by omega
    obtain ⟨c0, c1, l0, l1, o9, k0, k1, i0, i1⟩ := hM
    subst ej
    have hj01 : j = 0 ∨ j = 1 := by omega
    rcases hj01 with rfl | rfl
    · refine ⟨fun _ => ?_, fun e => absurd rfl e⟩
      refine k_copyP eu hu (fun p' cp => ?_)
      intro t4 et4 t5 et5
      refine m_imageG (by omega) (fun x' f1 f2 f3 f4 f5 f6 => ⟨rfl, ?_⟩)
      subst et4; subst et5
      refine ⟨?_, ?_, ?_, ⟨1, c1, by omega, l1, ?_, ?_, ?_, fun _ => ?_, fun z => ?_⟩⟩
      · unfold NowR at hN ⊢
        rw [f1, f1, f1, f1, f3 4 (by decide) (by decide), f3 5 (by decide) (by decide), f3 2 (by decide) (by decide)]; exact hN
      · unfold ObjR at hO ⊢
        rw [f2, f2, f3 9 (by decide) (by decide)]; exact hO
      · unfold TxtR at hT ⊢
        rw [f1, f3 10 (by decide) (by decide)]; exact hT
      · show (t 0).I 9 ||| _ = _
        rw [o9]
        have : (c0 = 0 ∨ c0 = 1) ∧ (c1 = 0 ∨ c1 = 1) := ⟨by omega, by omega⟩
        rcases this with ⟨rfl | rfl, rfl | rfl⟩ <;> decide
      · rw [f4]; exact upd_at
      · rw [f4, upd_ne (by decide)]; exact k1
      · exact ImgR_new eu hu hN cp f5
      · exact ImgR_same (fun k g1 g2 => f6 k (by omega)) (i1 z)
    · refine ⟨fun e => absurd e (by decide), fun _ => ?_⟩
      refine k_copyP eu hu (fun p' cp => ?_)
      intro t4 et4 t5 et5
      refine m_imageG (by omega) (fun x' f1 f2 f3 f4 f5 f6 => ⟨rfl, ?_⟩)
      subst et4; subst et5
      refine ⟨?_, ?_, ?_, ⟨c0, 1, l0, by omega, ?_, ?_, ?_, fun z => ?_, fun _ => ?_⟩⟩
      · unfold NowR at hN ⊢
        rw [f1, f1, f1, f1, f3 4 (by decide) (by decide), f3 5 (by decide) (by decide), f3 2 (by decide) (by decide)]; exact hN
      · unfold ObjR at hO ⊢
        rw [f2, f2, f3 9 (by decide) (by decide)]; exact hO
      · unfold TxtR at hT ⊢
        rw [f1, f3 10 (by decide) (by decide)]; exact hT
      · show (t 0).I 9 ||| _ = _
        rw [o9]
        have : (c0 = 0 ∨ c0 = 1) ∧ (c1 = 0 ∨ c1 = 1) := ⟨by omega, by omega⟩
        rcases this with ⟨rfl | rfl, rfl | rfl⟩ <;> decide
      · rw [f4, upd_ne (by decide)]; exact k0
      · rw [f4]; exact upd_at
      · exact ImgR_same (fun k g1 g2 => f6 k (by omega)) (i0 z)
      · exact ImgR_new eu hu hN cp f5
theorem m_fromG {x : St} {j : Nat} (hj : j < 2) {Post : Int32 → St → Prop} (h1 : x.A 27 j ≠ 0 → ∀ x' : St, (∀ k, k ≠ 0 → k ≠ 1 → k ≠ 3 → k ≠ 6 → x'.I k = x.I k) → (∀ k, x'.L k = x.L k) → (∀ k, k ≠ 4 → k ≠ 5 → k ≠ 2 → x'.A k = x.A k) → BlkOf (x.A 28) (1154 * j) x' → Post 1 x') (h0 : x.A 27 j = 0 → Post (-3) (refX x 1)) : wpX12_from (nI j) x Post := by
  unfold wpX12_from
  refine in_rule 0 1 (by decide) (by decide) (fun _ _ => b1n ?_) (fun z => absurd z (by rw [nI_toInt (by omega)]; omega))
  rw [ncl (by omega)]
  refine ⟨vp_in_nI (by omega) (by omega), fun hne => ?_, fun he => m_ref1 (h0 he)⟩
  intro B eB
  have eB2 : B = nI (1154 * j) := by
    rw [eB]
    show nI 1154 * nI j = _
    rw [pk_mul]
  subst eB2
  rw [show nI (1154 * j) + 126 = nI (1154 * j + 126) from nI_add _ 126, show nI (1154 * j) + 1134 = nI (1154 * j + 1134) from nI_add _ 1134, show nI (1154 * j) + 1142 = nI (1154 * j + 1142) from nI_add _ 1142, show nI (1154 * j) + 1143 = nI (1154 * j + 1143) from nI_add _ 1143, show nI (1154 * j) + 1144 = nI (1154 * j + 1144) from nI_add _ 1144, show nI (1154 * j) + 1145 = nI (1154 * j + 1145) from nI_add _ 1145]
  refine m_carry (d := 0) (L := 126) (by omega) (by omega) (by omega) (by omega) (fun p3 a1 a2 => ?_)
  refine m_carry (d := 0) (L := 1008) (by omega) (by omega) (by omega) (by omega) (fun p4 b1 b2 => ?_)
  refine m_carry (d := 0) (L := 8) (by omega) (by omega) (by omega) (by omega) (fun p5 c1 c2 => ?_)
  refine ⟨vp_in_nI (by omega) (by omega), fun p6 e6 => ⟨vp_in_nI (by omega) (by omega), fun p7 e7 => ⟨vp_in_nI (by omega) (by omega), fun p8 e8 => ⟨vp_in_nI (by omega) (by omega), fun p9 e9 => ?_⟩⟩⟩⟩
  rw [ncl (by omega)] at e6 e7 e8 e9
  refine h1 hne p9 (fun k z0 z1 z3 z6 => ?_) (fun k => by rw [e9, e8, e7, e6]; rfl) (fun k z4 z5 z2 => ?_) ⟨fun k hk => ?_, fun k hk => ?_, fun k hk => ?_, ?_, ?_, ?_, ?_⟩
  · rw [e9, e8, e7, e6]
    simp only [sI_I, if_neg z0, if_neg z1, if_neg z3, if_neg z6, sA_I]
  · rw [e9, e8, e7, e6]
    simp only [sI_A, sA_A, if_neg z4, if_neg z5, if_neg z2]
  · have : p9.A 4 = p3 := by rw [e9, e8, e7, e6]; rfl
    rw [this, a1 k (by omega) (by omega), Nat.sub_zero]
  · have : p9.A 5 = p4 := by rw [e9, e8, e7, e6]; rfl
    rw [this, b1 k (by omega) (by omega), Nat.sub_zero]; rfl
  · have : p9.A 2 = p5 := by rw [e9, e8, e7, e6]; rfl
    rw [this, c1 k (by omega) (by omega), Nat.sub_zero]; rfl
  · rw [e9, e8, e7, e6]; rfl
  · rw [e9, e8, e7, e6]; rfl
  · rw [e9, e8, e7, e6]; rfl
  · rw [e9, e8, e7, e6]; rfl
theorem NowR_from {p' q x' : St} {K : Nat → Int32} {j u : Nat} (eu : q.I 2 = nI u) (hu : u ≤ 8) (hI : ImgR q K j) (c : CopyOf p' q u) (b : BlkOf K (1154 * j) x') : NowR p' x' := by
  obtain ⟨hc, n, w, u', e1, e2, e3, g⟩ := hI
  have hu' : u' = u := (nI_eq (by have := g.2.2.2.2.2.1; omega) (by omega)).mp (g.2.2.2.2.2.2.1.symm.trans eu)
  subst hu'
  have hw := g.2.2.2.1
  obtain ⟨b1, b2, b3, b4, b5, b6, b7⟩ := b
  refine ⟨by rw [c.2.1, hc]; exact b5, n, w, u', b4.symm.trans e1, b6.symm.trans e2, b7.symm.trans e3, ?_⟩
  exact PadN_copy c (fun k hk => (b1 k hk).symm) (fun k hk => (b2 k (by omega)).symm) (fun k hk => (b3 k (by omega)).symm) g
theorem ImgR.und {q : St} {K : Nat → Int32} {j : Nat} (h : ImgR q K j) : ∃ u, q.I 2 = nI u ∧ u ≤ 8 := by
  obtain ⟨hc, n, w, u', e1, e2, e3, g⟩ := h
  exact ⟨u', g.2.2.2.2.2.2.1, g.2.2.2.2.2.1⟩
theorem s_from {t : Nat → St} {x : St} (h : Rel t x) (x1 : Int32) : SimI (wpX11_from x1 t) (wpX12_from x1 x) := by
  obtain ⟨hN, hO, hT, hM⟩ := id h
  unfold SimI wpX11_from wjX11_from_9
  refine v_lt 0 2 (by decide) (by decide) (fun a => k_bad ?_) (fun a b => ?_)
  · unfold wpX12_from wpX12_bad
    exact in_rule 0 1 (by decide) (by decide) (fun a1 a2 => absurd a (by omega)) (fun _ => b0n (m_ref0 ⟨rfl, R_bad h⟩))
  · obtain ⟨j, ej, hj, _⟩ := toNI a
    have hj2 : j < 2 := by omega
    obtain ⟨c0, c1, l0, l1, o9, k0, k1, i0, i1⟩ := hM
    subst ej
    have hj01 : j = 0 ∨ j = 1 := by omega
    have hcc : (c0 = 0 ∨ c0 = 1) ∧ (c1 = 0 ∨ c1 = 1) := ⟨by omega, by omega⟩
    rw [o9]
    rcases hj01 with rfl | rfl
    · rcases hcc.1 with rfl | rfl
      · refine ⟨fun e => absurd (by rcases hcc.2 with rfl | rfl <;> decide) e, fun _ => k_no (m_fromG (by omega) (fun z => absurd k0 z) (fun _ => ⟨rfl, R_no h⟩))⟩
      · refine ⟨fun _ => ⟨fun _ => ?_, fun e => absurd rfl e⟩, fun e => absurd e (by rcases hcc.2 with rfl | rfl <;> decide)⟩
        obtain ⟨u, eu, hu⟩ := (i0 rfl).und
        refine k_copyP eu hu (fun p' cp => ?_)
        intro t4 et4
        subst et4
        refine m_fromG (by omega) (fun _ x' f1 f2 f3 f4 => ⟨rfl, ?_⟩) (fun z => absurd (k0.symm.trans z) (by decide))
        exact R_rest h rfl rfl rfl rfl f2 (f1 11 (by decide) (by decide) (by decide) (by decide)) (f3 9 (by decide) (by decide) (by decide)) (f3 10 (by decide) (by decide) (by decide)) (f3 27 (by decide) (by decide) (by decide)) (f3 28 (by decide) (by decide) (by decide)) (NowR_from eu hu (i0 rfl) cp f4)
    · rcases hcc.2 with rfl | rfl
      · refine ⟨fun e => absurd (by rcases hcc.1 with rfl | rfl <;> decide) e, fun _ => k_no (m_fromG (by omega) (fun z => absurd k1 z) (fun _ => ⟨rfl, R_no h⟩))⟩
      · refine ⟨fun _ => ⟨fun e => absurd e (by decide), fun _ => ?_⟩, fun e => absurd e (by rcases hcc.1 with rfl | rfl <;> decide)⟩
        obtain ⟨u, eu, hu⟩ := (i1 rfl).und
        refine k_copyP eu hu (fun p' cp => ?_)
        intro t4 et4
        subst et4
        refine m_fromG (by omega) (fun _ x' f1 f2 f3 f4 => ⟨rfl, ?_⟩) (fun z => absurd (k1.symm.trans z) (by decide))
        exact R_rest h rfl rfl rfl rfl f2 (f1 11 (by decide) (by decide) (by decide) (by decide)) (f3 9 (by decide) (by decide) (by decide)) (f3 10 (by decide) (by decide) (by decide)) (f3 27 (by decide) (by decide) (by decide)) (f3 28 (by decide) (by decide) (by decide)) (NowR_from eu hu (i1 rfl) cp f4)
end
section
theorem sA_sA (x : St) (k : Nat) (a b : Nat → Int32) : (x.sA k a).sA k b = x.sA k b := by
  unfold St.sA
  congr 2
  funext j
  by_cases h : j = k
  · rw [if_pos h, if_pos h]
  · rw [if_neg h, if_neg h]; show (if j = k then a else x.2.2 j) = _; rw [if_neg h]
theorem sA_same (x : St) (k : Nat) : x.sA k (x.A k) = x := by
  have e : (fun j => if j = k then x.A k else x.2.2 j) = x.2.2 := by
    funext j
    by_cases h : j = k
    · rw [if_pos h, h]; rfl
    · rw [if_neg h]
  unfold St.sA
  rw [e]
  rfl
theorem and1 (y : Int32) : y &&& 1 = 0 ∨ y &&& 1 = 1 := by
  by_cases h : bt y 0 = true
  · refine Or.inr (b_ext fun i hi => ?_)
    rw [b_and, bt_one i hi]
    by_cases hi0 : i = 0
    · subst hi0; rw [h]; rfl
    · rw [decide_eq_false hi0, Bool.and_false]
  · refine Or.inl (b_ext fun i hi => ?_)
    rw [b_and, bt_one i hi, b_0]
    by_cases hi0 : i = 0
    · subst hi0; simp at h; rw [h]; rfl
    · rw [decide_eq_false hi0, Bool.and_false]
theorem m_hasX {x y : Int32} {Post : Int32 → Prop} (h1 : ¬ ((x >>> (y &&& 31)) &&& 1) = 0 → Post 1) (h0 : ((x >>> (y &&& 31)) &&& 1) = 0 → Post 0) : wpX12_has x y Post := by
  refine ⟨fun q => h0 ?_, fun q => h1 (by rw [q]; decide)⟩
  rcases and1 (x >>> (y &&& 31)) with e | e
  · exact e
  · exact absurd e q
theorem dI_in {row : Nat → Int32} {f ce : Nat} {force : Int32} {c : Nat} (hc : c < 12) : dI row f ce force 12 (f + c) = if ce.testBit c = true ∧ row (f + c) < force then force else row (f + c) := by
  unfold dI
  rw [show f + c - f = c by omega]
  by_cases h : ce.testBit c = true ∧ row (f + c) < force
  · rw [if_pos h, if_pos ⟨by omega, by omega, h.1, h.2⟩]
  · rw [if_neg h, if_neg (fun q => h ⟨q.2.2.1, q.2.2.2⟩)]
theorem dI_out {row : Nat → Int32} {f ce : Nat} {force : Int32} {j : Nat} (h : j < f ∨ f + 12 ≤ j) : dI row f ce force 12 j = row j := by
  unfold dI
  rw [if_neg (fun q => by omega)]
/-! a note pressed through, sheet by sheet, in either layout -/
def ftN (k pr i : Nat) : Int32 := fo (nI k) (nI pr) (nI i)
def cbit (ca : Int32) (s : Nat) : Bool := decide (¬ ((ca >>> ((nI s - 1) &&& 31)) &&& 1) = 0)
def cpc (ca : Int32) (T k pr i : Nat) : Bool := decide (0 < i) && (cbit ca (T + i) && decide (¬ ftN k pr i < 2))
def rwS (db dw cb cw : Nat) (ca : Int32) (T k pr ce : Nat) (r : Nat → Int32) : Nat → (Nat → Int32)
  | 0 => r
  | i + 1 => if cpc ca T k pr i = true then upd (dI (rwS db dw cb cw ca T k pr ce r i) (db + dw * (T + i)) ce (ftN k pr i) 12) (cb + cw * (T + i)) ((dI (rwS db dw cb cw ca T k pr ce r i) (db + dw * (T + i)) ce (ftN k pr i) 12) (cb + cw * (T + i)) ||| nI ce) else dI (rwS db dw cb cw ca T k pr ce r i) (db + dw * (T + i)) ce (ftN k pr i) 12
theorem rwS_s (db dw cb cw : Nat) (ca : Int32) (T k pr ce : Nat) (r : Nat → Int32) (i : Nat) : rwS db dw cb cw ca T k pr ce r (i + 1) = if cpc ca T k pr i = true then upd (dI (rwS db dw cb cw ca T k pr ce r i) (db + dw * (T + i)) ce (ftN k pr i) 12) (cb + cw * (T + i)) ((dI (rwS db dw cb cw ca T k pr ce r i) (db + dw * (T + i)) ce (ftN k pr i) 12) (cb + cw * (T + i)) ||| nI ce) else dI (rwS db dw cb cw ca T k pr ce r i) (db + dw * (T + i)) ce (ftN k pr i) 12 := rfl
/-- one step at an index outside -/
theorem rw_out {db dw cb cw : Nat} {ca : Int32} {T k pr ce : Nat} {r : Nat → Int32} {i j : Nat} (h1 : j < db + dw * (T + i) ∨ db + dw * (T + i) + 12 ≤ j) (h2 : j ≠ cb + cw * (T + i)) : rwS db dw cb cw ca T k pr ce r (i + 1) j = rwS db dw cb cw ca T k pr ce r i j := by
  rw [rwS_s]
  by_cases h : cpc ca T k pr i = true
  · rw [if_pos h, upd_ne h2, dI_out h1]
  · rw [if_neg h, dI_out h1]
theorem rw_dent {db dw cb cw : Nat} {ca : Int32} {T k pr ce : Nat} {r : Nat → Int32} {i c : Nat} (hc : c < 12) (h2 : db + dw * (T + i) + c ≠ cb + cw * (T + i)) : rwS db dw cb cw ca T k pr ce r (i + 1) (db + dw * (T + i) + c) = if ce.testBit c = true ∧ rwS db dw cb cw ca T k pr ce r i (db + dw * (T + i) + c) < ftN k pr i then ftN k pr i else rwS db dw cb cw ca T k pr ce r i (db + dw * (T + i) + c) := by
  rw [rwS_s]
  by_cases h : cpc ca T k pr i = true
  · rw [if_pos h, upd_ne h2, dI_in hc]
  · rw [if_neg h, dI_in hc]
theorem rw_copy {db dw cb cw : Nat} {ca : Int32} {T k pr ce : Nat} {r : Nat → Int32} {i : Nat} (h1 : cb + cw * (T + i) < db + dw * (T + i) ∨ db + dw * (T + i) + 12 ≤ cb + cw * (T + i)) : rwS db dw cb cw ca T k pr ce r (i + 1) (cb + cw * (T + i)) = if cpc ca T k pr i = true then rwS db dw cb cw ca T k pr ce r i (cb + cw * (T + i)) ||| nI ce else rwS db dw cb cw ca T k pr ce r i (cb + cw * (T + i)) := by
  rw [rwS_s]
  by_cases h : cpc ca T k pr i = true
  · rw [if_pos h, if_pos h, upd_at, dI_out h1]
  · rw [if_neg h, if_neg h, dI_out h1]
theorem mS_far {ca : Int32} {T k pr ce : Nat} {r : Nat → Int32} {j : Nat} (hj : j < 6 ∨ 84 ≤ j) : ∀ i, T + i ≤ 6 → rwS 12 12 6 1 ca T k pr ce r i j = r j
  | 0, _ => rfl
  | i + 1, hi => by
    rw [rw_out (by omega) (by omega)]
    exact mS_far hj i (by omega)
theorem kS_far {ca : Int32} {T k pr ce : Nat} {r : Nat → Int32} {j : Nat} (hj : j < 2 ∨ ∃ s, j = 2 + 14 * s) : ∀ i, T + i ≤ 6 → rwS 4 14 3 14 ca T k pr ce r i j = r j
  | 0, _ => rfl
  | i + 1, hi => by
    have e : (j < 4 + 14 * (T + i) ∨ 4 + 14 * (T + i) + 12 ≤ j) ∧ j ≠ 3 + 14 * (T + i) := by
      rcases hj with h | ⟨s, h⟩
      · exact ⟨by omega, by omega⟩
      · exact ⟨by omega, by omega⟩
    rw [rw_out e.1 e.2]
    exact kS_far hj i (by omega)
theorem mS_dent {ca : Int32} {T k pr ce : Nat} {r : Nat → Int32} {s c : Nat} (hs : s < 6) (hc : c < 12) : ∀ i, T + i ≤ 6 → rwS 12 12 6 1 ca T k pr ce r i (12 + 12 * s + c) = if T ≤ s ∧ s < T + i ∧ ce.testBit c = true ∧ r (12 + 12 * s + c) < ftN k pr (s - T) then ftN k pr (s - T) else r (12 + 12 * s + c)
  | 0, _ => by
    rw [if_neg (fun q => by omega)]; rfl
  | i + 1, hi => by
    have ih := mS_dent (ca := ca) (T := T) (k := k) (pr := pr) (ce := ce) (r := r) hs hc i (by omega)
    by_cases he : s = T + i
    · subst he
      rw [if_neg (fun q => by omega)] at ih
      rw [rw_dent hc (by omega), ih, show T + i - T = i by omega]
      by_cases h : ce.testBit c = true ∧ r (12 + 12 * (T + i) + c) < ftN k pr i
      · rw [if_pos h, if_pos ⟨by omega, by omega, h.1, h.2⟩]
      · rw [if_neg h, if_neg (fun q => h ⟨q.2.2.1, q.2.2.2⟩)]
    · rw [rw_out (by omega) (by omega), ih]
      by_cases h : T ≤ s ∧ s < T + i ∧ ce.testBit c = true ∧ r (12 + 12 * s + c) < ftN k pr (s - T)
      · rw [if_pos h, if_pos ⟨h.1, by omega, h.2.2⟩]
      · rw [if_neg h, if_neg (fun q => h ⟨q.1, by omega, q.2.2⟩)]
def PgR (pg st : Nat → Int32) : Prop := ∀ s, s < 6 → pg (2 + 14 * s) = st s ∧ pg (3 + 14 * s) = st (6 + s) ∧ ∀ c, c < 12 → pg (4 + 14 * s + c) = st (12 + 12 * s + c)
theorem PgR_rw {ca : Int32} {T k pr ce : Nat} {pg st : Nat → Int32} (h : PgR pg st) : ∀ i, T + i ≤ 6 → PgR (rwS 4 14 3 14 ca T k pr ce pg i) (rwS 12 12 6 1 ca T k pr ce st i)
  | 0, _ => h
  | i + 1, hi => by
    have ih := PgR_rw (ca := ca) (T := T) (k := k) (pr := pr) (ce := ce) h i (by omega)
    intro s hs
    obtain ⟨a1, a2, a3⟩ := ih s hs
    refine ⟨by rw [rw_out (by omega) (by omega), rw_out (by omega) (by omega)]; exact a1, ?_, fun c hc => ?_⟩
    · by_cases he : s = T + i
      · subst he
        have e1 := rw_copy (db := 4) (dw := 14) (cb := 3) (cw := 14) (ca := ca) (T := T) (k := k) (pr := pr) (ce := ce) (r := pg) (i := i) (by omega)
        have e2 := rw_copy (db := 12) (dw := 12) (cb := 6) (cw := 1) (ca := ca) (T := T) (k := k) (pr := pr) (ce := ce) (r := st) (i := i) (by omega)
        rw [Nat.one_mul] at e2
        rw [e1, e2, a2]
      · rw [rw_out (by omega) (by omega), rw_out (by omega) (by omega)]; exact a2
    · by_cases he : s = T + i
      · subst he
        rw [rw_dent hc (by omega), rw_dent hc (by omega), a3 c hc]
      · rw [rw_out (by omega) (by omega), rw_out (by omega) (by omega)]; exact a3 c hc
/-! the model presses -/
theorem m_dentI {x : St} {s ce : Nat} {a1 a2 a4 f : Int32} (hs : s < 6) (hce : ce < 2 ^ 31) {Post : St → Prop} {KX : Int32 → Int32 → Int32 → Int32 → Int32 → Int32 → St → Prop} (h : KX a1 a2 (nI ce) a4 (nI s) f (x.sA 4 (dI (x.A 4) (12 + 12 * s) ce f 12))) : ∃ n, wLX12_dentAll_57 Post KX n (a1, a2, nI ce, a4, nI s, f, 0, x) := by
  have e0 : ((a1, a2, nI ce, a4, nI s, f, 0, x) : Int32 × Int32 × Int32 × Int32 × Int32 × Int32 × Int32 × St) = (fun i => (a1, a2, nI ce, a4, nI s, f, nI i, x.sA 4 (dI (x.A 4) (12 + 12 * s) ce f i))) 0 := by
    show _ = (a1, a2, nI ce, a4, nI s, f, nI 0, x.sA 4 (dI (x.A 4) (12 + 12 * s) ce f 0))
    rw [dI_0, sA_same]; rfl
  rw [e0]
  refine for_rule (F := fun self z => wlX12_dentAll_57 Post KX self z.1 z.2.1 z.2.2.1 z.2.2.2.1 z.2.2.2.2.1 z.2.2.2.2.2.1 z.2.2.2.2.2.2.1 z.2.2.2.2.2.2.2) 12 (fun i => (a1, a2, nI ce, a4, nI s, f, nI i, x.sA 4 (dI (x.A 4) (12 + 12 * s) ce f i))) ?_ ?_
  · intro self i hi hself
    dsimp only at hself ⊢
    unfold wlX12_dentAll_57
    refine ⟨fun z => absurd z (nI_ge (b := 12) hi (by decide)), fun _ y ey => ?_⟩
    have e : ((12 : Int32) + ((12 : Int32) * nI s)) + nI i = nI (12 + 12 * s + i) := by
      show (nI 12 + nI 12 * nI s) + nI i = _
      rw [pk_mul, nI_add, nI_add]
    rw [e] at ey
    subst ey
    have hA : (x.sA 4 (dI (x.A 4) (12 + 12 * s) ce f i)).A 4 = dI (x.A 4) (12 + 12 * s) ce f i := rfl
    have keep : dI (x.A 4) (12 + 12 * s) ce f (i + 1) = dI (x.A 4) (12 + 12 * s) ce f i → wjX12_dentAll_109 Post self KX a1 a2 (nI ce) a4 (nI s) f (nI i) (nI (12 + 12 * s + i)) (nI (12 + 12 * s + i)) (x.sA 4 (dI (x.A 4) (12 + 12 * s) ce f i)) := fun q => by
      unfold wjX12_dentAll_109 wjX12_dentAll_116
      rw [ncl (by omega), hA, fa_upd_same rfl]
      refine ⟨vp_in_nI (by omega) (by omega), vp_in_nI (by omega) (by omega), fun y ey z ez => ?_⟩
      subst ey; subst ez
      rw [nI_1, sA_sA, ← q]; exact hself
    refine m_has hce (by omega) (fun hb => b1e ?_) (fun hb => b0e (keep (dI_no (fun q => by rw [hb] at q; exact absurd q.1 (by decide)))))
    rw [ncl (by omega), hA, dI_at]
    refine ⟨vp_in_nI (by omega) (by omega), fun q => keep (dI_no (fun w => by have := w.2; rw [fa_lt] at this; rw [fa_le] at q; omega)), fun q => ?_⟩
    unfold wjX12_dentAll_116
    refine ⟨vp_in_nI (by omega) (by omega), fun y ey z ez => ?_⟩
    rw [ncl (by omega), hA] at ey
    subst ey; subst ez
    rw [nI_1, sA_sA, ← dI_yes ⟨hb, by rw [fa_lt]; rw [fa_le] at q; omega⟩]; exact hself
  · intro self
    dsimp only
    unfold wlX12_dentAll_57
    exact ⟨fun _ => h, fun z => absurd (nI_le (a := 12) (b := 12) (by decide) (by decide)) z⟩
theorem m_dentL {x : St} {n T k pr ce : Nat} (eI : x.I 0 = nI n) (hn : n ≤ 6) (hT : T ≤ n) (hk : k < 6) (hce : ce < 4096) {Post : St → Prop} {KX : St → Prop} (h : KX (x.sA 4 (rwS 12 12 6 1 (x.I 1) T k pr ce (x.A 4) (n - T)))) : ∃ n, wLX12_dentAll_33 Post KX n (nI k, nI pr, nI ce, nI T, nI T, x) := by
  have e0 : ((nI k, nI pr, nI ce, nI T, nI T, x) : Int32 × Int32 × Int32 × Int32 × Int32 × St) = (fun i => (nI k, nI pr, nI ce, nI T, nI (T + i), x.sA 4 (rwS 12 12 6 1 (x.I 1) T k pr ce (x.A 4) i))) 0 := by
    show _ = (nI k, nI pr, nI ce, nI T, nI T, x.sA 4 (x.A 4))
    rw [sA_same]
  rw [e0]
  refine for_rule (F := fun self z => wlX12_dentAll_33 Post KX self z.1 z.2.1 z.2.2.1 z.2.2.2.1 z.2.2.2.2.1 z.2.2.2.2.2) (n - T) (fun i => (nI k, nI pr, nI ce, nI T, nI (T + i), x.sA 4 (rwS 12 12 6 1 (x.I 1) T k pr ce (x.A 4) i))) ?_ ?_
  · intro self i hi hself
    dsimp only at hself ⊢
    unfold wlX12_dentAll_33
    have eI' : (x.sA 4 (rwS 12 12 6 1 (x.I 1) T k pr ce (x.A 4) i)).I 0 = nI n := eI
    rw [eI', pk_sub (by omega), show T + i - T = i by omega]
    refine ⟨fun z => absurd z (nI_ge (by omega) (by omega)), fun _ => m_force hk ?_⟩
    refine m_dentI (by omega) (by omega) ?_
    rw [sA_sA]
    have hA : (x.sA 4 (rwS 12 12 6 1 (x.I 1) T k pr ce (x.A 4) i)).A 4 = rwS 12 12 6 1 (x.I 1) T k pr ce (x.A 4) i := rfl
    rw [hA]
    have keep : cpc (x.I 1) T k pr i = false → ∀ z : Int32, z = nI (T + i) + 1 → self (nI k, nI pr, nI ce, nI T, z, x.sA 4 (dI (rwS 12 12 6 1 (x.I 1) T k pr ce (x.A 4) i) (12 + 12 * (T + i)) ce (fo (nI k) (nI pr) (nI i)) 12)) := fun q z ez => by
      subst ez
      rw [nI_1]
      have := rwS_s 12 12 6 1 (x.I 1) T k pr ce (x.A 4) i
      rw [if_neg (by rw [q]; decide)] at this
      rw [show T + (i + 1) = T + i + 1 by omega, show rwS 12 12 6 1 (x.I 1) T k pr ce (x.A 4) (i + 1) = _ from this] at hself
      exact hself
    refine ⟨fun q => keep ?_, fun q => ?_⟩
    · have : i = 0 := by
        rw [fa_le, nI_toInt (by omega), nI_toInt (by omega)] at q
        omega
      rw [this]; rfl
    · have hi0 : 0 < i := by
        rcases Nat.eq_zero_or_pos i with e | e
        · exact absurd (by rw [e]; exact nI_le (Nat.le_refl _) (by omega)) q
        · exact e
      refine m_hasX (fun hb => b1e ?_) (fun hb => b0e (keep ?_))
      · refine ⟨fun q2 => keep ?_, fun q2 => ?_⟩
        · unfold cpc
          rw [show decide (¬ ftN k pr i < 2) = false from decide_eq_false (fun w => w q2), Bool.and_false, Bool.and_false]
        · have hc : cpc (x.I 1) T k pr i = true := by
            unfold cpc cbit
            rw [decide_eq_true hi0, decide_eq_true (show ¬ ftN k pr i < 2 from q2), decide_eq_true (show ¬ ((x.I 1 >>> ((nI (T + i) - 1) &&& 31)) &&& 1) = 0 from hb)]; rfl
          have e6 : (6 : Int32) + nI (T + i) = nI (6 + (T + i)) := nI_add 6 _
          rw [e6, ncl (by omega)]
          refine ⟨vp_in_nI (by omega) (by omega), vp_in_nI (by omega) (by omega), fun y ey z ez => ?_⟩
          subst ey; subst ez
          rw [nI_1, sA_sA]
          have := rwS_s 12 12 6 1 (x.I 1) T k pr ce (x.A 4) i
          rw [if_pos hc, Nat.one_mul] at this
          rw [show T + (i + 1) = T + i + 1 by omega, show rwS 12 12 6 1 (x.I 1) T k pr ce (x.A 4) (i + 1) = _ from this] at hself
          exact hself
      · unfold cpc cbit
        rw [show decide (¬ ((x.I 1 >>> ((nI (T + i) - 1) &&& 31)) &&& 1) = 0) = false from decide_eq_false (fun w => w hb), Bool.false_and, Bool.and_false]
  · intro self
    dsimp only
    unfold wlX12_dentAll_33
    have eI' : (x.sA 4 (rwS 12 12 6 1 (x.I 1) T k pr ce (x.A 4) (n - T))).I 0 = nI n := eI
    rw [eI', show T + (n - T) = n by omega]
    exact ⟨fun _ => h, fun z => absurd (nI_le (Nat.le_refl n) (by omega)) z⟩
/-- the ink first -/
def inkR (k ce j : Nat) (r : Nat → Int32) : Nat → Int32 := if hink (nI k) = 0 then r else upd r j (r j ||| nI ce)
theorem m_dentAll {x : St} {n T k pr ce : Nat} (eI : x.I 0 = nI n) (hn : n ≤ 6) (eT : x.A 4 125 = nI T) (hT : T ≤ n) (hk : k < 6) (hce : ce < 4096) {Post : St → Prop} (h : Post (x.sA 4 (rwS 12 12 6 1 (x.I 1) T k pr ce (inkR k ce T (x.A 4)) (n - T)))) : wpX12_dentAll (nI k) (nI pr) (nI ce) x Post := by
  intro r er
  rw [eT] at er
  subst er
  unfold inkR at h
  refine m_hasInk hk ⟨fun q => ?_, fun q => ?_⟩
  · rw [if_pos q] at h
    exact m_dentL eI hn hT hk hce h
  · rw [if_neg q] at h
    have e0 : (0 : Int32) + nI T = nI T := by
      show nI 0 + nI T = _
      rw [nI_add, Nat.zero_add]
    rw [e0, ncl (by omega)]
    refine ⟨vp_in_nI (by omega) (by omega), vp_in_nI (by omega) (by omega), fun y ey => ?_⟩
    subst ey
    refine m_dentL (x := x.sA 4 (upd (x.A 4) T (x.A 4 T ||| nI ce))) eI hn hT hk hce ?_
    rw [sA_sA]
    exact h
def wrS (x : St) (n k pr ce : Nat) : Nat → Int32 := upd (upd (upd (upd (upd (rwS 12 12 6 1 (x.I 1) (tN (x.A 4)) k pr ce (inkR k ce (tN (x.A 4)) (x.A 4)) (n - tN (x.A 4))) (84 + 4 * mN (x.A 4)) (nI k)) (85 + 4 * mN (x.A 4)) (nI pr)) (86 + 4 * mN (x.A 4)) (nI ce)) (87 + 4 * mN (x.A 4)) (nI (tN (x.A 4)))) 124 (nI (mN (x.A 4) + 1))
theorem inkR_far {k ce j i : Nat} {r : Nat → Int32} (h : i ≠ j) : inkR k ce j r i = r i := by
  unfold inkR
  by_cases q : hink (nI k) = 0
  · rw [if_pos q]
  · rw [if_neg q, upd_ne h]
theorem m_writeNow {x : St} {n k pr ce : Nat} (eI : x.I 0 = nI n) (hn : n ≤ 6) (hW : WF (x.A 4) n) (hm : mN (x.A 4) < 10) (hk : k < 6) (hce : ce < 4096) {Post : St → Prop} (h : Post (x.sA 4 (wrS x n k pr ce))) : wpX12_writeNow (nI k) (nI pr) (nI ce) x Post := by
  obtain ⟨w1, w2, w3, w4, w5, w6⟩ := hW
  refine m_dentAll eI hn w1 w2 hk hce ?_
  intro r er
  have far : ∀ j, 84 ≤ j → rwS 12 12 6 1 (x.I 1) (tN (x.A 4)) k pr ce (inkR k ce (tN (x.A 4)) (x.A 4)) (n - tN (x.A 4)) j = x.A 4 j := fun j hj => by
    rw [mS_far (by omega) _ (by omega), inkR_far (by omega)]
  have e84 : (84 : Int32) + (4 : Int32) * ((x.sA 4 (rwS 12 12 6 1 (x.I 1) (tN (x.A 4)) k pr ce (inkR k ce (tN (x.A 4)) (x.A 4)) (n - tN (x.A 4)))).A 4 124) = nI (84 + 4 * mN (x.A 4)) := by
    show (84 : Int32) + (4 : Int32) * (rwS 12 12 6 1 (x.I 1) (tN (x.A 4)) k pr ce (inkR k ce (tN (x.A 4)) (x.A 4)) (n - tN (x.A 4)) 124) = _
    rw [far 124 (by omega), w3]
    show nI 84 + nI 4 * nI _ = _
    rw [pk_mul, nI_add]
  rw [e84] at er
  subst er
  rw [show nI (84 + 4 * mN (x.A 4)) + 1 = nI (85 + 4 * mN (x.A 4)) by rw [nI_1]; congr 1; omega, show nI (84 + 4 * mN (x.A 4)) + 2 = nI (86 + 4 * mN (x.A 4)) by show _ + nI 2 = _; rw [nI_add]; congr 1; omega, show nI (84 + 4 * mN (x.A 4)) + 3 = nI (87 + 4 * mN (x.A 4)) by show _ + nI 3 = _; rw [nI_add]; congr 1; omega]
  rw [ncl (by omega), ncl (by omega), ncl (by omega), ncl (by omega)]
  refine ⟨vp_in_nI (by omega) (by omega), fun p3 e3 => ⟨vp_in_nI (by omega) (by omega), fun p4 e4 => ⟨vp_in_nI (by omega) (by omega), fun p5 e5 => ⟨vp_in_nI (by omega) (by omega), fun p6 e6 p7 e7 => ?_⟩⟩⟩⟩
  have a5 : p5.A 4 125 = nI (tN (x.A 4)) := by
    rw [e5, sA_A, if_pos rfl, upd_ne (by omega), e4, sA_A, if_pos rfl, upd_ne (by omega), e3, sA_A, if_pos rfl, upd_ne (by omega)]
    exact (far 125 (by omega)).trans w1
  have a6 : p6.A 4 124 + 1 = nI (mN (x.A 4) + 1) := by
    rw [e6, sA_A, if_pos rfl, upd_ne (by omega), e5, sA_A, if_pos rfl, upd_ne (by omega), e4, sA_A, if_pos rfl, upd_ne (by omega), e3, sA_A, if_pos rfl, upd_ne (by omega)]
    show rwS 12 12 6 1 _ _ _ _ _ _ _ 124 + 1 = _
    rw [far 124 (by omega), w3]; exact nI_1 _
  rw [a6] at e7
  rw [a5] at e6
  have : p7 = x.sA 4 (wrS x n k pr ce) := by
    rw [e7, e6, e5, e4, e3]
    simp only [sA_sA, sA_A, if_true]
    rfl
  rw [this]; exact h
end
section
theorem k_pressInto {p : St} {s ce T : Nat} {f : Int32} (hs : s < 6) (hce : ce < 4096) (eT : p.A 0 0 = nI T) (hT : T ≤ 6) {Post : St → Prop} (h1 : T < s → cbit (p.I 4) s = true → ¬ f < 2 → Post (p.sA 0 (upd (dI (p.A 0) (4 + 14 * s) ce f 12) (3 + 14 * s) ((dI (p.A 0) (4 + 14 * s) ce f 12) (3 + 14 * s) ||| nI ce)))) (h0 : ¬ (T < s ∧ cbit (p.I 4) s = true ∧ ¬ f < 2) → Post (p.sA 0 (dI (p.A 0) (4 + 14 * s) ce f 12))) : wpX4_pressInto (nI s) (nI ce) f p Post := by
  unfold wpX4_pressInto
  refine k_place (c := 2) ?_
  rw [show 2 + 14 * s + 2 = 4 + 14 * s by omega]
  refine k_dentInto (by omega) (by omega) (by omega) ?_
  have e0 : ((p.sA 0 (dI (p.A 0) (4 + 14 * s) ce f 12)).A 0) 0 = nI T := by
    show dI (p.A 0) (4 + 14 * s) ce f 12 0 = _
    rw [dI_out (by omega)]; exact eT
  rw [e0]
  unfold wjX4_pressInto_42
  refine ⟨fun q => b0e (h0 (fun w => ?_)), fun q => ⟨fun q2 => b0e (h0 (fun w => ?_)), fun q2 => b1e ⟨fun q3 => h0 (fun w => w.2.2 q3), fun q3 => ?_⟩⟩⟩
  · rw [fa_le, nI_toInt (by omega), nI_toInt (by omega)] at q
    omega
  · have := w.2.1
    unfold cbit at this
    exact (of_decide_eq_true this) q2
  · have hlt : T < s := by
      refine Nat.lt_of_not_le (fun w => q (nI_le w (by omega)))
    refine k_place (c := 1) ?_
    rw [show 2 + 14 * s + 1 = 3 + 14 * s by omega, ncl (by omega)]
    refine ⟨vp_in_nI (by omega) (by omega), vp_in_nI (by omega) (by omega), fun y ey => ?_⟩
    subst ey
    rw [sA_sA]
    exact h1 hlt (decide_eq_true q2) q3
theorem k_forceAt {p : St} {m T k pr i : Nat} (hm : m < 10) (e8 : p.A 8 m = nI T) (e9 : ∀ d, d < 6 → p.A 9 (6 * m + d) = ftN k pr d) (hi : i < 6) (hT : T ≤ 6) {Post : Int32 → Prop} (h : Post (ftN k pr i)) : wpX4_forceOn (nI m) (nI (T + i)) p Post := by
  refine ⟨vp_in_nI (by omega) (by omega), ?_⟩
  rw [ncl (by omega), e8]
  unfold wpX4_forceDown
  rw [pk_sub (by omega), show T + i - T = i by omega]
  have e : (nI m * 6 + nI i) = nI (6 * m + i) := by
    show nI m * nI 6 + _ = _
    rw [pk_mul, nI_add]; congr 1; omega
  refine ⟨fun z => absurd z (nI_pos (by omega)), fun _ => ⟨fun _ => ?_, fun z => absurd (nI_lt (a := i) (b := 6) (by omega) (by decide)) z⟩⟩
  rw [e, ncl (by omega), e9 _ (by omega)]
  exact ⟨vp_in_nI (by omega) (by omega), h⟩
theorem k_noteL {p : St} {n T m k pr ce : Nat} (eI : p.I 3 = nI n) (hn : n ≤ 6) (eT : p.A 0 0 = nI T) (hT : T ≤ n) (hm : m < 10) (hce : ce < 4096) (e8 : p.A 8 m = nI T) (e9 : ∀ d, d < 6 → p.A 9 (6 * m + d) = ftN k pr d) {Post : Int32 → St → Prop} {KX : Int32 → St → Prop} (h : KX (nI m) (p.sA 0 (rwS 4 14 3 14 (p.I 4) T k pr ce (p.A 0) (n - T)))) : ∃ n, wLX4_putNote_143 Post KX n (nI ce, nI m, nI T, p) := by
  have e0 : ((nI ce, nI m, nI T, p) : Int32 × Int32 × Int32 × St) = (fun i => (nI ce, nI m, nI (T + i), p.sA 0 (rwS 4 14 3 14 (p.I 4) T k pr ce (p.A 0) i))) 0 := by
    show _ = (nI ce, nI m, nI T, p.sA 0 (p.A 0))
    rw [sA_same]
  rw [e0]
  refine for_rule (F := fun self z => wlX4_putNote_143 Post KX self z.1 z.2.1 z.2.2.1 z.2.2.2) (n - T) (fun i => (nI ce, nI m, nI (T + i), p.sA 0 (rwS 4 14 3 14 (p.I 4) T k pr ce (p.A 0) i))) ?_ ?_
  · intro self i hi hself
    dsimp only at hself ⊢
    unfold wlX4_putNote_143
    have eI' : (p.sA 0 (rwS 4 14 3 14 (p.I 4) T k pr ce (p.A 0) i)).I 3 = nI n := eI
    rw [eI']
    refine ⟨fun z => absurd z (nI_ge (by omega) (by omega)), fun _ => k_forceAt (p := p.sA 0 (rwS 4 14 3 14 (p.I 4) T k pr ce (p.A 0) i)) (i := i) hm e8 e9 (by omega) (by omega) ?_⟩
    have hs := rwS_s 4 14 3 14 (p.I 4) T k pr ce (p.A 0) i
    have eT' : ((p.sA 0 (rwS 4 14 3 14 (p.I 4) T k pr ce (p.A 0) i)).A 0) 0 = nI T := (kS_far (Or.inl (by omega)) i (by omega)).trans eT
    refine k_pressInto (by omega) hce eT' (by omega) (fun q1 q2 q3 z ez => ?_) (fun q z ez => ?_)
    · subst ez
      have hc : cpc (p.I 4) T k pr i = true := by
        unfold cpc
        rw [decide_eq_true (show 0 < i by omega), show cbit (p.I 4) (T + i) = true from q2, decide_eq_true q3]; rfl
      rw [if_pos hc] at hs
      rw [nI_1, sA_sA]
      rw [hs] at hself
      exact hself
    · subst ez
      have hc : ¬ cpc (p.I 4) T k pr i = true := by
        intro w
        unfold cpc at w
        simp only [Bool.and_eq_true, decide_eq_true_eq] at w
        exact q ⟨by omega, w.2.1, w.2.2⟩
      rw [if_neg hc] at hs
      rw [nI_1, sA_sA]
      rw [hs] at hself
      exact hself
  · intro self
    dsimp only
    unfold wlX4_putNote_143
    have eI' : (p.sA 0 (rwS 4 14 3 14 (p.I 4) T k pr ce (p.A 0) (n - T))).I 3 = nI n := eI
    rw [eI', show T + (n - T) = n by omega]
    exact ⟨fun _ => h, fun z => absurd (nI_le (Nat.le_refl n) (by omega)) z⟩
theorem k_forcesL {p : St} {m k pr : Nat} {a4 a6 : Int32} (hm : m < 10) {Post : Int32 → St → Prop} {KX : Int32 → Int32 → Int32 → Int32 → St → Prop} (h : ∀ p' : St, (∀ k, p'.I k = p.I k) → (∀ k, k ≠ 9 → p'.A k = p.A k) → (∀ d, d < 6 → p'.A 9 (6 * m + d) = ftN k pr d) → (∀ j, j < 6 * m → p'.A 9 j = p.A 9 j) → KX (nI k) a4 (nI m) a6 p') : ∃ n, wLX4_putNote_71 Post KX n (nI k, nI pr, a4, nI m, a6, 0, p) := by
  refine it_rule (F := fun self z => wlX4_putNote_71 Post KX self z.1 z.2.1 z.2.2.1 z.2.2.2.1 z.2.2.2.2.1 z.2.2.2.2.2.1 z.2.2.2.2.2.2) (fun z => ∃ (i : Nat) (y : St), z = (nI k, nI pr, a4, nI m, a6, nI i, y) ∧ i ≤ 6 ∧ (∀ k, y.I k = p.I k) ∧ (∀ k, k ≠ 9 → y.A k = p.A k) ∧ (∀ d, d < i → y.A 9 (6 * m + d) = ftN k pr d) ∧ ∀ j, j < 6 * m → y.A 9 j = p.A 9 j) (fun z => 6 - z.2.2.2.2.2.1.toNatClampNeg) ?_ _ ⟨0, p, rfl, by omega, fun _ => rfl, fun _ _ => rfl, fun d hd => absurd hd (Nat.not_lt_zero d), fun _ _ => rfl⟩
  rintro self z ⟨i, y, rfl, hi, a1, a2, a3, a5⟩ hself
  dsimp only at hself ⊢
  unfold wlX4_putNote_71 wpX5_forceOf
  have e : (nI m * 6 + nI i) = nI (6 * m + i) := by
    show nI m * nI 6 + _ = _
    rw [pk_mul, nI_add]; congr 1; omega
  refine pk_le 6 i (fun hle => ?_) (fun hlt => ?_)
  · have e6 : i = 6 := by omega
    subst e6
    exact h y a1 a2 a3 a5
  · rw [e]
    refine ⟨vp_in_nI (by omega) (by omega), fun y' ey z ez => ?_⟩
    rw [ncl (by omega)] at ey
    subst ey; subst ez
    rw [nI_1]
    refine hself _ ⟨i + 1, _, rfl, by omega, a1, fun k hk => ?_, fun d hd => ?_, fun j hj => ?_⟩ (by dsimp only; rw [ncl (by omega), ncl (by omega)]; omega)
    · rw [sA_A, if_neg hk]; exact a2 k hk
    · show upd (y.A 9) (6 * m + i) (fo (nI k) (nI pr) (nI i)) (6 * m + d) = _
      by_cases hdi : d = i
      · subst hdi; exact upd_at
      · rw [upd_ne (by omega)]; exact a3 d (by omega)
    · show upd (y.A 9) (6 * m + i) (fo (nI k) (nI pr) (nI i)) j = _
      rw [upd_ne (by omega)]; exact a5 j hj
/-- the class's pad after a note -/
def PutN (p p' : St) (n T m k pr ce : Nat) : Prop := (∀ j, p'.I j = p.I j) ∧ p'.A 1 = p.A 1 ∧ p'.A 10 = p.A 10 ∧ p'.A 5 = upd (p.A 5) m (nI k) ∧ p'.A 6 = upd (p.A 6) m (nI pr) ∧ p'.A 7 = upd (p.A 7) m (nI ce) ∧ p'.A 8 = upd (p.A 8) m (nI T) ∧ (∀ d, d < 6 → p'.A 9 (6 * m + d) = ftN k pr d) ∧ (∀ j, j < 6 * m → p'.A 9 j = p.A 9 j) ∧ p'.A 0 = rwS 4 14 3 14 (p.I 4) T k pr ce (inkR k ce (2 + 14 * T) (upd (p.A 0) 1 (nI (m + 1)))) (n - T)
theorem k_putNote {p : St} {n T m k pr ce : Nat} (eI : p.I 3 = nI n) (hn : n ≤ 6) (eT : p.A 0 0 = nI T) (hT : T < n) (em : p.A 0 1 = nI m) (hm : m < 10) (hce : ce < 4096) {Post : Int32 → St → Prop} (h : ∀ p', PutN p p' n T m k pr ce → Post (nI m) p') : wpX4_putNote (nI k) (nI pr) (nI ce) p Post := by
  intro r er r2 er2
  rw [em] at er
  rw [eT] at er2
  subst er; subst er2
  refine ⟨fun q => absurd q (nI_ge (b := 10) hm (by decide)), fun _ => ⟨fun _ => ?_, fun q => absurd (by rw [eI]; exact nI_lt hT (by omega)) q⟩⟩
  rw [ncl (by omega)]
  refine ⟨vp_in_nI (by omega) (by omega), fun p3 e3 => ⟨vp_in_nI (by omega) (by omega), fun p4 e4 => ⟨vp_in_nI (by omega) (by omega), fun p5 e5 => ⟨vp_in_nI (by omega) (by omega), fun p6 e6 => ?_⟩⟩⟩⟩
  refine k_forcesL hm (fun y a1 a2 a3 a4 => ?_)
  intro y1 ey1
  rw [nI_1] at ey1
  have i6 : ∀ j, p6.I j = p.I j := fun j => by rw [e6, e5, e4, e3]; rfl
  have b0 : p6.A 0 = p.A 0 := by rw [e6, e5, e4, e3]; rfl
  have b1 : p6.A 1 = p.A 1 := by rw [e6, e5, e4, e3]; rfl
  have b10 : p6.A 10 = p.A 10 := by rw [e6, e5, e4, e3]; rfl
  have b5 : p6.A 5 = upd (p.A 5) m (nI k) := by rw [e6, e5, e4, e3]; rfl
  have b6 : p6.A 6 = upd (p.A 6) m (nI pr) := by rw [e6, e5, e4, e3]; rfl
  have b7 : p6.A 7 = upd (p.A 7) m (nI ce) := by rw [e6, e5, e4, e3]; rfl
  have b8 : p6.A 8 = upd (p.A 8) m (nI T) := by rw [e6, e5, e4, e3]; rfl
  have b9 : p6.A 9 = p.A 9 := by rw [e6, e5, e4, e3]; rfl
  have c0 : y1.A 0 = upd (p.A 0) 1 (nI (m + 1)) := by rw [ey1, sA_A, if_pos rfl, a2 0 (by decide), b0]
  have cA : ∀ j, j ≠ 0 → y1.A j = y.A j := fun j hj => by rw [ey1, sA_A, if_neg hj]
  have cI : ∀ j, y1.I j = p.I j := fun j => by rw [ey1, sA_I, a1, i6]
  have fin : ∀ z : St, (∀ j, z.I j = y1.I j) → (∀ j, j ≠ 0 → z.A j = y1.A j) → z.A 0 = inkR k ce (2 + 14 * T) (y1.A 0) → ∃ n, wLX4_putNote_143 Post (fun (y20 : Int32) (p21 : St) => Post y20 p21) n (nI ce, nI m, nI T, z) := by
    intro z f1 f2 f3
    refine k_noteL (n := n) (k := k) (pr := pr) (by rw [f1, cI]; exact eI) hn ?_ (by omega) hm hce ?_ ?_ (h _ ⟨fun j => by rw [sA_I, f1, cI], ?_, ?_, ?_, ?_, ?_, ?_, fun d hd => ?_, fun j hj => ?_, ?_⟩)
    · rw [f3, inkR_far (by omega), c0, upd_ne (by decide)]; exact eT
    · rw [f2 8 (by decide), cA 8 (by decide), a2 8 (by decide), b8, upd_at]
    · intro d hd
      rw [f2 9 (by decide), cA 9 (by decide)]; exact a3 d hd
    · rw [sA_A, if_neg (by decide), f2 1 (by decide), cA 1 (by decide), a2 1 (by decide), b1]
    · rw [sA_A, if_neg (by decide), f2 10 (by decide), cA 10 (by decide), a2 10 (by decide), b10]
    · rw [sA_A, if_neg (by decide), f2 5 (by decide), cA 5 (by decide), a2 5 (by decide), b5]
    · rw [sA_A, if_neg (by decide), f2 6 (by decide), cA 6 (by decide), a2 6 (by decide), b6]
    · rw [sA_A, if_neg (by decide), f2 7 (by decide), cA 7 (by decide), a2 7 (by decide), b7]
    · rw [sA_A, if_neg (by decide), f2 8 (by decide), cA 8 (by decide), a2 8 (by decide), b8]
    · rw [sA_A, if_neg (by decide), f2 9 (by decide), cA 9 (by decide)]; exact a3 d hd
    · rw [sA_A, if_neg (by decide), f2 9 (by decide), cA 9 (by decide), a4 j hj, b9]
    · rw [sA_A, if_pos rfl, f1, cI, f3, c0]
  unfold wpX5_hasInk
  refine ⟨fun q => fin y1 (fun _ => rfl) (fun _ _ => rfl) (by unfold inkR; rw [if_pos q]), fun q => k_place (c := 0) ?_⟩
  rw [Nat.add_zero, ncl (by omega)]
  refine ⟨vp_in_nI (by omega) (by omega), vp_in_nI (by omega) (by omega), fun z ez => ?_⟩
  subst ez
  exact fin _ (fun _ => rfl) (fun j hj => by rw [sA_A, if_neg hj]) (by unfold inkR; rw [if_neg q]; rfl)
/-- both, after a note -/
theorem Put_RP {p p' x : St} {n k pr ce : Nat} {st : Nat → Int32} (hst : x.A 4 = st) (hR : RP (p.A 0) p st) (hW : WF st n) (hn : n ≤ 6) (hc : p.I 4 = x.I 1) (hT : tN st < n) (hm : mN st < 10) (hk : k < 6) (hp1 : 1 ≤ pr) (hp9 : pr ≤ 9) (hce : ce < 4096) (hP : PutN p p' n (tN st) (mN st) k pr ce) : RP (p'.A 0) p' (wrS x n k pr ce) ∧ WF (wrS x n k pr ce) n ∧ mN (wrS x n k pr ce) = mN st + 1 ∧ tN (wrS x n k pr ce) = tN st := by
  obtain ⟨f1, f2, f3, f4, f5, f6, f7, f8, f9, f10⟩ := hP
  obtain ⟨r1, r2, r3, r4⟩ := hR
  obtain ⟨w1, w2, w3, w4, w5, w6⟩ := hW
  have far : ∀ j, 84 ≤ j → rwS 12 12 6 1 (x.I 1) (tN st) k pr ce (inkR k ce (tN st) st) (n - tN st) j = st j := fun j hj => by
    rw [mS_far (by omega) _ (by omega), inkR_far (by omega)]
  have ew : wrS x n k pr ce = upd (upd (upd (upd (upd (rwS 12 12 6 1 (x.I 1) (tN st) k pr ce (inkR k ce (tN st) st) (n - tN st)) (84 + 4 * mN st) (nI k)) (85 + 4 * mN st) (nI pr)) (86 + 4 * mN st) (nI ce)) (87 + 4 * mN st) (nI (tN st))) 124 (nI (mN st + 1)) := by unfold wrS; rw [hst]
  have low : ∀ j, j < 84 → wrS x n k pr ce j = rwS 12 12 6 1 (x.I 1) (tN st) k pr ce (inkR k ce (tN st) st) (n - tN st) j := fun j hj => by
    rw [ew, upd_ne (by omega), upd_ne (by omega), upd_ne (by omega), upd_ne (by omega), upd_ne (by omega)]
  have old : ∀ j, 84 ≤ j → j < 84 + 4 * mN st → wrS x n k pr ce j = st j := fun j h1 h2 => by
    rw [ew, upd_ne (by omega), upd_ne (by omega), upd_ne (by omega), upd_ne (by omega), upd_ne (by omega), far j h1]
  have n0 : wrS x n k pr ce (84 + 4 * mN st) = nI k := by rw [ew, upd_ne (by omega), upd_ne (by omega), upd_ne (by omega), upd_ne (by omega), upd_at]
  have n1 : wrS x n k pr ce (85 + 4 * mN st) = nI pr := by rw [ew, upd_ne (by omega), upd_ne (by omega), upd_ne (by omega), upd_at]
  have n2 : wrS x n k pr ce (86 + 4 * mN st) = nI ce := by rw [ew, upd_ne (by omega), upd_ne (by omega), upd_at]
  have n3 : wrS x n k pr ce (87 + 4 * mN st) = nI (tN st) := by rw [ew, upd_ne (by omega), upd_at]
  have n124 : wrS x n k pr ce 124 = nI (mN st + 1) := by rw [ew, upd_at]
  have n125 : wrS x n k pr ce 125 = nI (tN st) := by rw [ew, upd_ne (by omega), upd_ne (by omega), upd_ne (by omega), upd_ne (by omega), upd_ne (by omega), far 125 (by omega), w1]
  have emN : mN (wrS x n k pr ce) = mN st + 1 := by
    have : mN (wrS x n k pr ce) = (nI (mN st + 1)).toNatClampNeg := by rw [← n124]; rfl
    rw [this, ncl (by omega)]
  have etN : tN (wrS x n k pr ce) = tN st := by
    have : tN (wrS x n k pr ce) = (nI (tN st)).toNatClampNeg := by rw [← n125]; rfl
    rw [this, ncl (by omega)]
  have hpg : PgR (p.A 0) st := r3
  have hpg1 : PgR (inkR k ce (2 + 14 * tN st) (upd (p.A 0) 1 (nI (mN st + 1)))) (inkR k ce (tN st) st) := by
    intro s hs
    obtain ⟨a1, a2, a3⟩ := hpg s hs
    refine ⟨?_, by rw [inkR_far (by omega), inkR_far (by omega), upd_ne (by omega)]; exact a2, fun c hc => by rw [inkR_far (by omega), inkR_far (by omega), upd_ne (by omega)]; exact a3 c hc⟩
    by_cases hsT : s = tN st
    · subst hsT
      unfold inkR
      by_cases q : hink (nI k) = 0
      · rw [if_pos q, if_pos q, upd_ne (by omega)]; exact a1
      · rw [if_neg q, if_neg q, upd_at, upd_at, upd_ne (by omega), a1]
    · rw [inkR_far (by omega), inkR_far (by omega), upd_ne (by omega)]; exact a1
  have hpg2 := PgR_rw (ca := x.I 1) (T := tN st) (k := k) (pr := pr) (ce := ce) hpg1 (n - tN st) (by omega)
  rw [hc] at f10
  refine ⟨⟨?_, ?_, fun s hs => ?_, fun j hj => ?_⟩, ⟨by rw [n125, etN], by omega, by rw [n124, emN], by omega, fun j hj => ?_, fun s hs c hc => ?_⟩, emN, etN⟩
  · rw [f10, kS_far (Or.inl (by omega)) _ (by omega), inkR_far (by omega), upd_ne (by omega), n125, r1, w1]
  · rw [f10, kS_far (Or.inl (by omega)) _ (by omega), inkR_far (by omega), upd_at, n124]
  · obtain ⟨a1, a2, a3⟩ := hpg2 s hs
    rw [← f10] at a1 a2 a3
    exact ⟨by rw [low _ (by omega)]; exact a1, by rw [low _ (by omega)]; exact a2, fun c hc => by rw [low _ (by omega)]; exact a3 c hc⟩
  · rw [emN] at hj
    by_cases hjm : j = mN st
    · subst hjm
      rw [n0, n1, n2, n3, f4, f5, f6, f7, upd_at, upd_at, upd_at, upd_at]
      exact ⟨rfl, rfl, rfl, rfl, f8⟩
    · obtain ⟨b1, b2, b3, b4, b5⟩ := r4 j (by omega)
      rw [old _ (by omega) (by omega), old _ (by omega) (by omega), old _ (by omega) (by omega), old _ (by omega) (by omega), f4, f5, f6, f7, upd_ne hjm, upd_ne hjm, upd_ne hjm, upd_ne hjm]
      exact ⟨b1, b2, b3, b4, fun d hd => by rw [f9 _ (by omega)]; exact b5 d hd⟩
  · rw [emN] at hj
    by_cases hjm : j = mN st
    · subst hjm
      unfold GN kN prN ceN onN
      rw [n0, n1, n2, n3, ncl (by omega), ncl (by omega), ncl (by omega), ncl (by omega), etN]
      exact ⟨rfl, hk, rfl, hp1, hp9, rfl, hce, rfl, hT, Nat.le_refl _⟩
    · exact GN_c (fun i h1 h2 => old i (by omega) (by omega)) (by rw [etN]; exact Nat.le_refl _) (w5 j (by omega))
  · rw [emN, mx_s, mx_c _ (fun i h1 h2 => old i h1 h2), low _ (by omega), mS_dent (by omega) hc _ (by omega), inkR_far (by omega), w6 s hs c hc]
    have hmx : 0 ≤ (mx st s c (mN st)).toInt := by
      have := exN_T (K := 0) (c := c) (show WF st n from ⟨w1, w2, w3, w4, w5, w6⟩) (show s < 6 by omega) (mN st) (Nat.le_refl _)
      omega
    have hfr : frc (wrS x n k pr ce) s c (mN st) = if tN st ≤ s ∧ ce.testBit c = true then ftN k pr (s - tN st) else 0 := by
      unfold frc onN ceN
      rw [n0, n1, n2, n3, ncl (by omega), ncl (by omega)]; rfl
    rw [hfr]
    by_cases hq : tN st ≤ s ∧ ce.testBit c = true
    · rw [if_pos hq]
      by_cases hl : mx st s c (mN st) < ftN k pr (s - tN st)
      · rw [if_pos ⟨hq.1, by omega, hq.2, hl⟩, if_pos hl]
      · rw [if_neg (fun w => hl w.2.2.2), if_neg hl]
    · rw [if_neg hq, if_neg (fun w => hq ⟨w.1, w.2.2.1⟩), if_neg (fun w => by rw [fa_lt, z0I] at w; omega)]
theorem PadN_put {p p' x : St} {st ah wo : Nat → Int32} {n w u k pr ce : Nat} (hst : x.A 4 = st) (h : PadN p st ah wo n w u) (hc : p.I 4 = x.I 1) (hT : tN st < n) (hm : mN st < 10) (hk : k < 6) (hp1 : 1 ≤ pr) (hp9 : pr ≤ 9) (hce : ce < 4096) (hP : PutN p p' n (tN st) (mN st) k pr ce) : PadN p' (wrS x n k pr ce) ah wo n w u := by
  have hcur := h.cur
  obtain ⟨g1, g2, g3, g4, g5, g6, g7, g8, g9, g10⟩ := h
  obtain ⟨a1, a2, a3, a4⟩ := Put_RP hst hcur.1 hcur.2 g2 hc hT hm hk hp1 hp9 hce hP
  obtain ⟨f1, f2, f3, f4, f5, f6, f7, f8, f9, f10⟩ := hP
  have hstk : ∀ j, j ≠ u → stk (wrS x n k pr ce) ah u j = stk st ah u j := fun j hj => by unfold stk; rw [if_neg hj, if_neg hj]
  have hpgk : ∀ j, j ≠ u → pgk p' u j = pgk p u j := fun j hj => by unfold pgk; rw [if_neg hj, if_neg hj, f2]
  have hst0 : stk st ah u u = st := by unfold stk; rw [if_pos rfl]
  have hst1 : stk (wrS x n k pr ce) ah u u = wrS x n k pr ce := by unfold stk; rw [if_pos rfl]
  refine ⟨g1, g2, by rw [f1]; exact g3, g4, by rw [f1]; exact g5, g6, by rw [f1]; exact g7, fun i hi => by rw [f3]; exact g8 i hi, fun j hj => ?_, fun i j hij hj => ?_⟩
  · by_cases hju : j = u
    · subst hju
      unfold pgk stk
      rw [if_pos rfl, if_pos rfl]
      exact ⟨a1, a2⟩
    · rw [hstk j hju, hpgk j hju]
      obtain ⟨r, wf⟩ := g9 j hj
      have hle := g10 j u hj (Nat.le_refl _)
      rw [hst0] at hle
      refine ⟨RP_c (fun _ _ => rfl) (fun _ _ => rfl) wf.2.2.2.1 (fun i hi => ?_) r, wf⟩
      rw [f4, f5, f6, f7, upd_ne (by omega), upd_ne (by omega), upd_ne (by omega), upd_ne (by omega)]
      exact ⟨rfl, rfl, rfl, rfl, fun d hd => f9 _ (by omega)⟩
  · have hle := g10 i j hij hj
    by_cases hju : j = u
    · subst hju
      rw [hst1, a3]
      rw [hst0] at hle
      by_cases hiu : i = j
      · subst hiu; rw [hst1, a3]; exact Nat.le_refl _
      · rw [hstk i hiu]; omega
    · rw [hstk i (by omega), hstk j hju]; exact hle
theorem s_write {t : Nat → St} {x : St} (h : Rel t x) (x1 x2 x3 : Int32) : SimI (wpX11_write x1 x2 x3 t) (wpX12_write x1 x2 x3 x) := by
  obtain ⟨n, w, u, e1, e2, e3, hc, g⟩ := h.1.got
  obtain ⟨q0, q1, q2, q3, q4, q5⟩ := g.nums
  have hn6 := g.2.1
  unfold SimI wpX11_write wjX11_write_15
  have MB : ¬ ((0 ≤ x1.toInt ∧ x1.toInt ≤ 5 ∧ 1 ≤ x2.toInt ∧ x2.toInt ≤ 9) ∧ 0 ≤ x3.toInt ∧ x3.toInt ≤ 4095) → ∀ {P : Int32 → St → Prop}, P (-2) (refX x 0) → wpX12_write x1 x2 x3 x P := by
    intro hb P hP
    unfold wpX12_write wjX12_write_20 wpX12_bad
    exact m_isPen (fun a b c d => b1e (in_rule 0 4095 (by decide) (by decide) (fun z1 z2 => absurd ⟨⟨a, b, c, d⟩, z1, z2⟩ hb) (fun _ => b0n (m_ref0 hP)))) (fun _ => b0e (m_ref0 hP))
  refine k_isPen (fun a b c d => b1e ?_) (fun hb => b0e (k_bad (MB (fun z => hb z.1) ⟨rfl, R_bad h⟩)))
  refine k_isCells (fun a3 b3 => b1n ?_) (fun hb => b0n (k_bad (MB (fun z => by omega) ⟨rfl, R_bad h⟩)))
  clear MB
  obtain ⟨k, rfl, hk, _⟩ := toNI a
  obtain ⟨pr, rfl, hpr, _⟩ := toNI (show 0 ≤ x2.toInt by omega)
  obtain ⟨ce, rfl, hce, _⟩ := toNI a3
  have MM : ∀ {P : Int32 → St → Prop}, (((¬ (x.A 4) 125 = x.I 0) → ((¬ (x.A 4) 124 = 10) → wpX12_note x (fun p5 => wpX12_writeNow (nI k) (nI pr) (nI ce) p5 (fun p6 => P (((p6.A 4) 124) - 1) p6))) ∧ (((x.A 4) 124 = 10) → wpX12_refuse 2 (-4) x P)) ∧ (((x.A 4) 125 = x.I 0) → wpX12_refuse 1 (-3) x P)) → wpX12_write (nI k) (nI pr) (nI ce) x P := by
    intro P hP
    unfold wpX12_write wjX12_write_20 wpX12_bad
    exact m_isPen (fun _ _ _ _ => b1e (in_rule 0 4095 (by decide) (by decide) (fun _ _ => b1n hP) (fun z => absurd z (by omega)))) (fun z => absurd ⟨a, b, c, d⟩ z)
  refine k_usedUp q0 g.2.2.1 (by omega) hn6 (fun hlt => b0e ?_) (fun hge => b1e (k_no (MM ⟨fun hne => absurd (by rw [q2, e1, show tN (x.A 4) = n by omega]) hne, fun _ => m_ref1 ⟨rfl, R_no h⟩⟩)))
  refine k_noteCount ?_
  rw [q1]
  refine pk_lt (mN (x.A 4)) 10 (fun hm => ?_) (fun hm => k_full (MM ⟨fun _ => ⟨fun z => absurd (by rw [q3, show mN (x.A 4) = 10 by omega]; rfl) z, fun _ => m_ref2 ⟨rfl, R_full h⟩⟩, fun z => ?_⟩))
  · refine k_keep g.2.2.2.2.2.2.1 g.2.2.2.2.2.1 (fun p' f1 f2 f3 f4 => ?_)
    intro t3 et3
    subst et3
    have ep : (upS t 2 p') 2 = p' := rfl
    rw [ep]
    refine k_putNote (n := n) (T := tN (x.A 4)) (m := mN (x.A 4)) (by rw [f1 3 (by decide)]; exact g.2.2.1) hn6 (by rw [f3 0 (by decide)]; exact q0) hlt (by rw [f3 0 (by decide)]; exact q1) hm (by omega) (fun p2 hP => ?_)
    intro t4 et4
    refine MM ⟨fun _ => ⟨fun _ => ?_, fun z => absurd ((nI_eq (b := 10) (by omega) (by decide)).mp (q3.symm.trans z)) (by omega)⟩, fun z => absurd ((nI_eq (by omega) (by omega)).mp (q2.symm.trans (z.trans e1))) (by omega)⟩
    refine m_note e3 g.2.2.2.2.2.1 (fun x' g1 g2 g3 g4 g5 => ?_)
    have hpush := PadN_push f1 f2 f3 f4 g5 g
    have e4 : x'.A 4 = x.A 4 := g4 4 (by decide)
    have hcur := hpush.cur
    refine m_writeNow (n := n) (by rw [g1 0 (by decide)]; exact e1) hn6 (by rw [e4]; exact hcur.2) (by rw [e4]; exact hm) (by omega) (by omega) ?_
    have hput := PadN_put e4 hpush (by rw [f1 4 (by decide), g1 1 (by decide)]; exact hc) hlt hm (by omega) (by omega) (by omega) (by omega) hP
    have hnum := hput.nums
    have hPR := Put_RP e4 hcur.1 hcur.2 hn6 (by rw [f1 4 (by decide), g1 1 (by decide)]; exact hc) hlt hm (by omega) (by omega) (by omega) (by omega) hP
    subst et4
    refine ⟨?_, R_rest h rfl rfl rfl rfl g3 (g1 11 (by decide)) (g4 9 (by decide)) (g4 10 (by decide)) (g4 27 (by decide)) (g4 28 (by decide)) ?_⟩
    · show nI (mN (x.A 4)) = wrS x' n k pr ce 124 - 1
      rw [hnum.2.2.2.1, hPR.2.2.1, nI_pred]
    · show NowR p2 (x'.sA 4 (wrS x' n k pr ce))
      refine ⟨?_, n, w, upU u, ?_, ?_, g2, ?_⟩
      · show p2.I 4 = x'.I 1
        rw [hP.1, f1 4 (by decide), g1 1 (by decide)]; exact hc
      · show x'.I 0 = _
        rw [g1 0 (by decide)]; exact e1
      · show x'.I 3 = _
        rw [g1 3 (by decide)]; exact e2
      · show PadN p2 (wrS x' n k pr ce) (x'.A 5) (x'.A 2) n w (upU u)
        rw [g4 2 (by decide)]; exact hput
  · exact absurd ((nI_eq (by omega) (by omega)).mp (q2.symm.trans (z.trans e1))) (by omega)
end
section
def dg (f : Nat → Int32) (h : Int64) : Nat → Int64
  | 0 => h
  | i + 1 => 31 * dg f h i + (f i).toInt64
theorem dg_s (f : Nat → Int32) (h : Int64) (i : Nat) : dg f h (i + 1) = 31 * dg f h i + (f i).toInt64 := rfl
theorem dg_cong {f g : Nat → Int32} {h : Int64} : ∀ n, (∀ i, i < n → f i = g i) → dg f h n = dg g h n
  | 0, _ => rfl
  | n + 1, e => by rw [dg_s, dg_s, dg_cong n (fun i hi => e i (by omega)), e n (by omega)]
theorem sL_sL (x : St) (k : Nat) (a b : Int64) : (x.sL k a).sL k b = x.sL k b := by
  unfold St.sL
  congr 2
  funext j
  by_cases h : j = k
  · rw [if_pos h, if_pos h]
  · rw [if_neg h, if_neg h]; show (if j = k then a else x.2.1 j) = _; rw [if_neg h]
theorem m_mix {x : St} {v a : Int64} {Post : St → Prop} (h : Post (x.sL 29 (31 * v + a))) : wpX12_mix a (x.sL 29 v) Post := by
  intro p1 e
  rw [sL_sL] at e
  subst e
  exact h
/-! the counts -/
def cnF (x : St) (i : Nat) : Int32 := if i = 0 then x.I 0 else if i = 1 then x.A 4 125 else if i = 2 then x.A 4 124 else if i = 3 then x.I 3 else if i = 4 then x.I 1 else if i = 5 then x.I 6 else x.I 11
theorem m_countOf {x : St} {i : Nat} (hi : i < 7) {Post : Int32 → Prop} (h : Post (cnF x i)) : wpX12_countOf (nI i) x Post := by
  rcases (show i = 0 ∨ i = 1 ∨ i = 2 ∨ i = 3 ∨ i = 4 ∨ i = 5 ∨ i = 6 by omega) with rfl | rfl | rfl | rfl | rfl | rfl | rfl
  · exact ⟨fun z => absurd rfl z, fun _ => h⟩
  · exact ⟨fun _ => ⟨fun z => absurd rfl z, fun _ => h⟩, fun e => absurd e (by decide)⟩
  · exact ⟨fun _ => ⟨fun _ => ⟨fun z => absurd rfl z, fun _ => h⟩, fun e => absurd e (by decide)⟩, fun e => absurd e (by decide)⟩
  · exact ⟨fun _ => ⟨fun _ => ⟨fun _ => ⟨fun z => absurd rfl z, fun _ => h⟩, fun e => absurd e (by decide)⟩, fun e => absurd e (by decide)⟩, fun e => absurd e (by decide)⟩
  · exact ⟨fun _ => ⟨fun _ => ⟨fun _ => ⟨fun _ => ⟨fun z => absurd rfl z, fun _ => h⟩, fun e => absurd e (by decide)⟩, fun e => absurd e (by decide)⟩, fun e => absurd e (by decide)⟩, fun e => absurd e (by decide)⟩
  · exact ⟨fun _ => ⟨fun _ => ⟨fun _ => ⟨fun _ => ⟨fun _ => ⟨fun z => absurd rfl z, fun _ => h⟩, fun e => absurd e (by decide)⟩, fun e => absurd e (by decide)⟩, fun e => absurd e (by decide)⟩, fun e => absurd e (by decide)⟩, fun e => absurd e (by decide)⟩
  · exact ⟨fun _ => ⟨fun _ => ⟨fun _ => ⟨fun _ => ⟨fun _ => ⟨fun _ => h, fun e => absurd e (by decide)⟩, fun e => absurd e (by decide)⟩, fun e => absurd e (by decide)⟩, fun e => absurd e (by decide)⟩, fun e => absurd e (by decide)⟩, fun e => absurd e (by decide)⟩
theorem k_amountOf {t : Nat → St} {x : St} (hr : Rel t x) {i : Nat} (hi : i < 7) {Post : Int32 → Prop} (h : Post (cnF x i)) : wpX11_amountOf (nI i) t Post := by
  obtain ⟨n, w, u, e1, e2, e3, hc, g⟩ := hr.1.got
  obtain ⟨b, hb, r1, r2, hk⟩ := hr.2.2.1
  obtain ⟨q0, q1, q2, q3, -, -⟩ := g.nums
  rcases (show i = 0 ∨ i = 1 ∨ i = 2 ∨ i = 3 ∨ i = 4 ∨ i = 5 ∨ i = 6 by omega) with rfl | rfl | rfl | rfl | rfl | rfl | rfl
  · have h : Post (x.I 0) := h
    exact ⟨fun _ => by rw [g.2.2.1, ← e1]; exact h, fun e => absurd e (by decide), fun e => absurd e (by decide), fun e => absurd e (by decide), fun e => absurd e (by decide), fun e => absurd e (by decide), fun e => absurd rfl e⟩
  · have h : Post (x.A 4 125) := h
    exact ⟨fun e => absurd e (by decide), fun _ => k_top (by rw [q0, ← q2]; exact h), fun e => absurd e (by decide), fun e => absurd e (by decide), fun e => absurd e (by decide), fun e => absurd e (by decide), fun _ e => absurd rfl e⟩
  · have h : Post (x.A 4 124) := h
    exact ⟨fun e => absurd e (by decide), fun e => absurd e (by decide), fun _ => k_noteCount (by rw [q1, ← q3]; exact h), fun e => absurd e (by decide), fun e => absurd e (by decide), fun e => absurd e (by decide), fun _ _ e => absurd rfl e⟩
  · have h : Post (x.I 3) := h
    exact ⟨fun e => absurd e (by decide), fun e => absurd e (by decide), fun e => absurd e (by decide), fun _ => by rw [g.2.2.2.2.1, ← e2]; exact h, fun e => absurd e (by decide), fun e => absurd e (by decide), fun _ _ _ e => absurd rfl e⟩
  · have h : Post (x.I 1) := h
    exact ⟨fun e => absurd e (by decide), fun e => absurd e (by decide), fun e => absurd e (by decide), fun e => absurd e (by decide), fun _ => by rw [hc]; exact h, fun e => absurd e (by decide), fun _ _ _ _ e => absurd rfl e⟩
  · have h : Post (x.I 6) := h
    exact ⟨fun e => absurd e (by decide), fun e => absurd e (by decide), fun e => absurd e (by decide), fun e => absurd e (by decide), fun e => absurd e (by decide), fun _ => by rw [g.2.2.2.2.2.2.1, ← e3]; exact h, fun _ _ _ _ _ e => absurd rfl e⟩
  · have h : Post (x.I 11) := h
    exact ⟨fun e => absurd e (by decide), fun e => absurd e (by decide), fun e => absurd e (by decide), fun e => absurd e (by decide), fun e => absurd e (by decide), fun e => absurd e (by decide), fun _ _ _ _ _ _ => by rw [r1, ← r2]; exact h⟩
/-! the sheets, the notes, the words -/
def shF (st : Nat → Int32) (i : Nat) : Int32 := if i % 14 = 0 then st (i / 14) else if i % 14 = 1 then st (6 + i / 14) else st (12 + 12 * (i / 14) + (i % 14 - 2))
def dgV (x : St) (st wo : Nat → Int32) (n m w : Nat) : Int64 := dg wo (dg (fun i => st (84 + i)) (dg (shF st) (dg (cnF x) 919 7) (14 * n)) (4 * m)) w
theorem k_digestL {t : Nat → St} {x : St} (hr : Rel t x) {Post : Int64 → Prop} {KX : Int64 → Prop} (h : KX (dg (cnF x) 919 7)) : ∃ n, wLX11_digest_6 t Post KX n (919, 0) := by
  refine for_rule (F := fun self z => wlX11_digest_6 t Post KX self z.1 z.2) 7 (fun i => (dg (cnF x) 919 i, nI i)) ?_ ?_
  · intro self i hi hself
    dsimp only at hself ⊢
    unfold wlX11_digest_6
    refine ⟨fun z => absurd z (nI_nlt (a := 6) (by omega) (by omega)), fun _ => k_amountOf hr hi (fun y ey z ez => ?_)⟩
    subst ey; subst ez
    rw [nI_1]; exact hself
  · intro self
    dsimp only
    unfold wlX11_digest_6
    exact ⟨fun _ => h, fun z => absurd (nI_lt (a := 6) (b := 7) (by decide) (by decide)) z⟩
theorem k_digSh {p : St} {st : Nat → Int32} {v : Int64} {n : Nat} (hn : n ≤ 6) (hR : RP (p.A 0) p st) {Post : Int64 → Prop} {KX : Int64 → Prop} (h : KX (dg (shF st) v (14 * n))) : ∃ k, wLX4_digestFrom_15 p Post KX k (v, nI (2 + 14 * n), 2) := by
  refine for_rule (F := fun self z => wlX4_digestFrom_15 p Post KX self z.1 z.2.1 z.2.2) (14 * n) (fun i => (dg (shF st) v i, nI (2 + 14 * n), nI (2 + i))) ?_ ?_
  · intro self i hi hself
    dsimp only at hself ⊢
    unfold wlX4_digestFrom_15
    refine ⟨fun z => absurd z (nI_ge (by omega) (by omega)), fun _ => ⟨fun z => absurd z (nI_ge (b := 86) (by omega) (by omega)), fun _ => ⟨vp_in_nI (by omega) (by omega), fun y ey z ez => ?_⟩⟩⟩
    rw [ncl (by omega)] at ey
    have e : p.A 0 (2 + i) = shF st i := by
      obtain ⟨a1, a2, a3⟩ := hR.2.2.1 (i / 14) (by omega)
      unfold shF
      by_cases h0 : i % 14 = 0
      · rw [if_pos h0, ← a1]; congr 1; omega
      · rw [if_neg h0]
        by_cases h1 : i % 14 = 1
        · rw [if_pos h1, ← a2]; congr 1; omega
        · rw [if_neg h1, ← a3 _ (by omega)]; congr 1; omega
    rw [e, ← dg_s] at ey
    subst ey; subst ez
    rw [nI_1]; exact hself
  · intro self
    dsimp only
    unfold wlX4_digestFrom_15
    exact ⟨fun _ => h, fun z => absurd (nI_le (Nat.le_refl _) (by omega)) z⟩
theorem k_digNo {p : St} {st : Nat → Int32} {v : Int64} {m : Nat} (em : p.A 0 1 = nI m) (hm : m ≤ 10) (hN : ∀ k, k < m → p.A 5 k = st (84 + 4 * k) ∧ p.A 6 k = st (85 + 4 * k) ∧ p.A 7 k = st (86 + 4 * k) ∧ p.A 8 k = st (87 + 4 * k)) {Post : Int64 → Prop} {KX : Int64 → Prop} (h : KX (dg (fun i => st (84 + i)) v (4 * m))) : ∃ k, wLX4_digestFrom_53 p Post KX k (v, 0) := by
  refine for_rule (F := fun self z => wlX4_digestFrom_53 p Post KX self z.1 z.2) m (fun i => (dg (fun i => st (84 + i)) v (4 * i), nI i)) ?_ ?_
  · intro self i hi hself
    dsimp only at hself ⊢
    unfold wlX4_digestFrom_53
    rw [em, ncl (by omega)]
    obtain ⟨a1, a2, a3, a4⟩ := hN i hi
    have e4 : dg (fun i => st (84 + i)) v (4 * (i + 1)) = 31 * (31 * (31 * (31 * dg (fun i => st (84 + i)) v (4 * i) + (st (84 + 4 * i)).toInt64) + (st (85 + 4 * i)).toInt64) + (st (86 + 4 * i)).toInt64) + (st (87 + 4 * i)).toInt64 := by
      rw [show 4 * (i + 1) = 4 * i + 1 + 1 + 1 + 1 by omega, dg_s, dg_s, dg_s, dg_s, show 84 + (4 * i + 1 + 1 + 1) = 87 + 4 * i by omega, show 84 + (4 * i + 1 + 1) = 86 + 4 * i by omega, show 84 + (4 * i + 1) = 85 + 4 * i by omega]
    refine ⟨fun z => absurd z (nI_ge (by omega) (by omega)), fun _ => ⟨vp_in_nI (by omega) (by omega), fun y1 ey1 => ⟨vp_in_nI (by omega) (by omega), fun y2 ey2 => ⟨vp_in_nI (by omega) (by omega), fun y3 ey3 => ⟨vp_in_nI (by omega) (by omega), fun y4 ey4 z ez => ?_⟩⟩⟩⟩⟩
    subst ez
    rw [nI_1]
    have : y4 = dg (fun i => st (84 + i)) v (4 * (i + 1)) := by rw [e4, ey4, ey3, ey2, ey1, a1, a2, a3, a4]
    rw [this]; exact hself
  · intro self
    dsimp only
    unfold wlX4_digestFrom_53
    rw [em]
    exact ⟨fun _ => h, fun z => absurd (nI_le (Nat.le_refl _) (by omega)) z⟩
theorem k_digWo {p : St} {wo : Nat → Int32} {v : Int64} {w : Nat} (ew : p.I 11 = nI w) (hw : w ≤ 8) (hN : ∀ k, k < w → p.A 10 k = wo k) {Post : Int64 → Prop} {KX : Int64 → Prop} (h : KX (dg wo v w)) : ∃ k, wLX4_digestFrom_133 p Post KX k (v, 0) := by
  refine for_rule (F := fun self z => wlX4_digestFrom_133 p Post KX self z.1 z.2) w (fun i => (dg wo v i, nI i)) ?_ ?_
  · intro self i hi hself
    dsimp only at hself ⊢
    unfold wlX4_digestFrom_133
    rw [ew, ncl (by omega), hN i hi]
    refine ⟨fun z => absurd z (nI_ge (by omega) (by omega)), fun _ => ⟨vp_in_nI (by omega) (by omega), fun y1 ey1 z ez => ?_⟩⟩
    subst ez; subst ey1
    rw [nI_1]; exact hself
  · intro self
    dsimp only
    unfold wlX4_digestFrom_133
    rw [ew]
    exact ⟨fun _ => h, fun z => absurd (nI_le (Nat.le_refl _) (by omega)) z⟩
/-! the model's -/
theorem m_digestL {x : St} {Post : Int64 → St → Prop} {KX : St → Prop} (h : KX (x.sL 29 (dg (cnF x) 919 7))) : ∃ n, wLX12_digest_9 Post KX n (0, x.sL 29 919) := by
  refine for_rule (F := fun self z => wlX12_digest_9 Post KX self z.1 z.2) 7 (fun i => (nI i, x.sL 29 (dg (cnF x) 919 i))) ?_ ?_
  · intro self i hi hself
    dsimp only at hself ⊢
    unfold wlX12_digest_9
    refine ⟨fun z => absurd z (nI_ge (b := 7) hi (by omega)), fun _ => m_countOf hi (m_mix (fun z ez => ?_))⟩
    subst ez
    rw [nI_1]; exact hself
  · intro self
    dsimp only
    unfold wlX12_digest_9
    exact ⟨fun _ => h, fun z => absurd (nI_le (a := 7) (b := 7) (by decide) (by decide)) z⟩
theorem m_digIn {x : St} {v : Int64} {s : Nat} (hs : s < 6) {Post : Int64 → St → Prop} {KX : Int32 → St → Prop} (h : KX (nI s) (x.sL 29 (dg (fun c => x.A 4 (12 + 12 * s + c)) v 12))) : ∃ n, wLX12_digest_70 Post KX n (nI s, 0, x.sL 29 v) := by
  refine for_rule (F := fun self z => wlX12_digest_70 Post KX self z.1 z.2.1 z.2.2) 12 (fun i => (nI s, nI i, x.sL 29 (dg (fun c => x.A 4 (12 + 12 * s + c)) v i))) ?_ ?_
  · intro self i hi hself
    dsimp only at hself ⊢
    unfold wlX12_digest_70
    refine ⟨fun z => absurd z (nI_ge (b := 12) hi (by omega)), fun _ => m_dentOf hs hi (m_mix (fun z ez => ?_))⟩
    subst ez
    rw [nI_1]; exact hself
  · intro self
    dsimp only
    unfold wlX12_digest_70
    exact ⟨fun _ => h, fun z => absurd (nI_le (a := 12) (b := 12) (by decide) (by decide)) z⟩
theorem dg_join (f g : Nat → Int32) (v : Int64) (a : Nat) : ∀ b, (∀ i, i < b → f (a + i) = g i) → dg f v (a + b) = dg g (dg f v a) b
  | 0, _ => rfl
  | b + 1, h => by
    rw [show a + (b + 1) = a + b + 1 by omega, dg_s, dg_s, dg_join f g v a b (fun i hi => h i (by omega)), h b (by omega)]
theorem m_digSh {x : St} {v : Int64} {n : Nat} (hn : n ≤ 6) (eI : x.I 0 = nI n) {Post : Int64 → St → Prop} {KX : St → Prop} (h : KX (x.sL 29 (dg (shF (x.A 4)) v (14 * n)))) : ∃ k, wLX12_digest_33 Post KX k (0, x.sL 29 v) := by
  refine for_rule (F := fun self z => wlX12_digest_33 Post KX self z.1 z.2) n (fun i => (nI i, x.sL 29 (dg (shF (x.A 4)) v (14 * i)))) ?_ ?_
  · intro self i hi hself
    dsimp only at hself ⊢
    unfold wlX12_digest_33
    have eI' : (x.sL 29 (dg (shF (x.A 4)) v (14 * i))).I 0 = nI n := eI
    have e0 : (0 : Int32) + nI i = nI i := by
      show nI 0 + nI i = _
      rw [nI_add, Nat.zero_add]
    have e6 : (6 : Int32) + nI i = nI (6 + i) := nI_add 6 i
    rw [eI', e0, e6, ncl (by omega), ncl (by omega)]
    refine ⟨fun z => absurd z (nI_ge (by omega) (by omega)), fun _ => ⟨vp_in_nI (by omega) (by omega), m_mix ⟨vp_in_nI (by omega) (by omega), m_mix (m_digIn (by omega) (fun z ez => ?_))⟩⟩⟩
    subst ez
    rw [nI_1]
    have s0 : shF (x.A 4) (14 * i) = x.A 4 i := by
      unfold shF
      rw [if_pos (by omega), show 14 * i / 14 = i by omega]
    have s1 : shF (x.A 4) (14 * i + 1) = x.A 4 (6 + i) := by
      unfold shF
      rw [if_neg (by omega), if_pos (by omega), show (14 * i + 1) / 14 = i by omega]
    have s2 : ∀ c, c < 12 → shF (x.A 4) (14 * i + 2 + c) = (fun c => x.A 4 (12 + 12 * i + c)) c := fun c hc => by
      unfold shF
      rw [if_neg (by omega), if_neg (by omega), show (14 * i + 2 + c) / 14 = i by omega, show (14 * i + 2 + c) % 14 - 2 = c by omega]
    have e14 : dg (shF (x.A 4)) v (14 * (i + 1)) = dg (fun c => x.A 4 (12 + 12 * i + c)) (31 * (31 * dg (shF (x.A 4)) v (14 * i) + (x.A 4 i).toInt64) + (x.A 4 (6 + i)).toInt64) 12 := by
      rw [show 14 * (i + 1) = (14 * i + 2) + 12 by omega, dg_join _ _ v (14 * i + 2) 12 s2, show 14 * i + 2 = 14 * i + 1 + 1 by omega, dg_s _ v (14 * i + 1), dg_s _ v (14 * i), s0, s1]
    rw [e14] at hself
    exact hself
  · intro self
    dsimp only
    unfold wlX12_digest_33
    have eI' : (x.sL 29 (dg (shF (x.A 4)) v (14 * n))).I 0 = nI n := eI
    rw [eI']
    exact ⟨fun _ => h, fun z => absurd (nI_le (Nat.le_refl _) (by omega)) z⟩
theorem m_digNo {x : St} {v : Int64} {m : Nat} (hm : m ≤ 10) (em : x.A 4 124 = nI m) {Post : Int64 → St → Prop} {KX : St → Prop} (h : KX (x.sL 29 (dg (fun i => x.A 4 (84 + i)) v (4 * m)))) : ∃ k, wLX12_digest_101 Post KX k (0, x.sL 29 v) := by
  refine for_rule (F := fun self z => wlX12_digest_101 Post KX self z.1 z.2) (4 * m) (fun i => (nI i, x.sL 29 (dg (fun i => x.A 4 (84 + i)) v i))) ?_ ?_
  · intro self i hi hself
    dsimp only at hself ⊢
    unfold wlX12_digest_101
    have em' : (4 : Int32) * ((x.sL 29 (dg (fun i => x.A 4 (84 + i)) v i)).A 4 124) = nI (4 * m) := by
      show nI 4 * x.A 4 124 = _
      rw [em, pk_mul]
    have e84 : (84 : Int32) + nI i = nI (84 + i) := nI_add 84 i
    rw [em', e84, ncl (by omega)]
    refine ⟨fun z => absurd z (nI_ge (by omega) (by omega)), fun _ => ⟨vp_in_nI (by omega) (by omega), m_mix (fun z ez => ?_)⟩⟩
    subst ez
    rw [nI_1]; exact hself
  · intro self
    dsimp only
    unfold wlX12_digest_101
    have em' : (4 : Int32) * ((x.sL 29 (dg (fun i => x.A 4 (84 + i)) v (4 * m))).A 4 124) = nI (4 * m) := by
      show nI 4 * x.A 4 124 = _
      rw [em, pk_mul]
    rw [em']
    exact ⟨fun _ => h, fun z => absurd (nI_le (Nat.le_refl _) (by omega)) z⟩
theorem m_digWo {x : St} {v : Int64} {w : Nat} (hw : w ≤ 8) (ew : x.I 3 = nI w) {Post : Int64 → St → Prop} {KX : St → Prop} (h : KX (x.sL 29 (dg (x.A 2) v w))) : ∃ k, wLX12_digest_136 Post KX k (0, x.sL 29 v) := by
  refine for_rule (F := fun self z => wlX12_digest_136 Post KX self z.1 z.2) w (fun i => (nI i, x.sL 29 (dg (x.A 2) v i))) ?_ ?_
  · intro self i hi hself
    dsimp only at hself ⊢
    unfold wlX12_digest_136
    have ew' : (x.sL 29 (dg (x.A 2) v i)).I 3 = nI w := ew
    rw [ew', ncl (by omega)]
    refine ⟨fun z => absurd z (nI_ge (by omega) (by omega)), fun _ => ⟨vp_in_nI (by omega) (by omega), m_mix (fun z ez => ?_)⟩⟩
    subst ez
    rw [nI_1]; exact hself
  · intro self
    dsimp only
    unfold wlX12_digest_136
    have ew' : (x.sL 29 (dg (x.A 2) v w)).I 3 = nI w := ew
    rw [ew']
    exact ⟨fun _ => h, fun z => absurd (nI_le (Nat.le_refl _) (by omega)) z⟩
theorem s_digest {t : Nat → St} {x : St} (h : Rel t x) : SimL (fun P => wpX11_digest t (fun r => P r t)) (wpX12_digest x) := by
  obtain ⟨n, w, u, e1, e2, e3, hc, g⟩ := h.1.got
  obtain ⟨q0, q1, q2, q3, q4, q5⟩ := g.nums
  have hcur := g.cur
  have hO := h.2.1
  unfold SimL wpX11_digest wpX4_digestFrom
  dsimp only
  refine k_digestL h ?_
  rw [g.2.2.1]
  refine k_place (c := 0) ?_
  rw [Nat.add_zero]
  refine k_digSh g.2.1 hcur.1 ?_
  refine k_digNo (st := x.A 4) q1 q5 (fun k hk => ?_) ?_
  · obtain ⟨a1, a2, a3, a4, -⟩ := hcur.1.2.2.2 k hk
    exact ⟨a1, a2, a3, a4⟩
  refine k_digWo (wo := x.A 2) g.2.2.2.2.1 g.2.2.2.1 (fun k hk => (g.2.2.2.2.2.2.2.1 k hk).1) ?_
  intro y ey
  intro p1 ep1
  subst ep1
  refine m_digestL (m_digSh g.2.1 e1 (m_digNo q5 q3 (m_digWo g.2.2.2.1 e2 (m_mix (m_mix ?_)))))
  refine ⟨?_, h⟩
  subst ey
  rw [hO.1, hO.2.1]
  rfl
end
section
theorem nI_wide {n : Nat} (h : n < 2 ^ 31) : (nI n).toInt64 = lN n := by
  apply Int64.toInt_inj.mp
  rw [Int32.toInt_toInt64, nI_toInt h, pk_lT (by omega)]
theorem cmp_0 {n : Nat} (h : n < 2 ^ 63) : lg_cmp (lN n) 0 = 0 ↔ n = 0 := by
  by_cases h0 : n = 0
  · subst h0; decide
  · have hl : lN n > 0 := (pk_lLT (a := 0) (by omega) h).mpr (by omega)
    unfold lg_cmp
    rw [if_pos hl]
    exact ⟨fun q => absurd q (by decide), fun q => absurd q h0⟩
theorem cmp_le {n : Nat} (h : n < 2 ^ 63) : lg_cmp (lN n) 0 ≤ 0 ↔ n = 0 := by
  by_cases h0 : n = 0
  · subst h0; decide
  · have hl : lN n > 0 := (pk_lLT (a := 0) (by omega) h).mpr (by omega)
    unfold lg_cmp
    rw [if_pos hl]
    exact ⟨fun q => absurd q (by decide), fun q => absurd q h0⟩
theorem lN_0 {n : Nat} (h : n < 2 ^ 63) (h0 : n ≠ 0) : ¬ lN n = 0 := by
  intro q
  exact h0 ((pk_lEQ h (by omega)).mp (show lN n = lN 0 from q))
theorem gcd_step {a b : Nat} : Nat.gcd b (a % b) = Nat.gcd a b := by
  rw [Nat.gcd_comm a b, Nat.gcd_rec b a, Nat.gcd_comm]
theorem half_step {a b : Nat} (hb : b < a) (h0 : 0 < b) : 2 * (b * (a % b)) ≤ a * b := by
  have h1 : a % b < b := Nat.mod_lt _ h0
  have h2 : a % b + b ≤ a := by
    have := Nat.mod_add_div a b
    have h3 : 1 ≤ a / b := (Nat.one_le_div_iff h0).mpr (by omega)
    have h4 : b * 1 ≤ b * (a / b) := Nat.mul_le_mul_left b h3
    omega
  have h3 : b * (2 * (a % b)) ≤ b * a := Nat.mul_le_mul_left b (by omega)
  calc 2 * (b * (a % b)) = b * (2 * (a % b)) := by rw [← Nat.mul_assoc, Nat.mul_comm 2 b, Nat.mul_assoc]
    _ ≤ b * a := h3
    _ = a * b := Nat.mul_comm b a
theorem k_euclid {t : Nat → St} {a b : Nat} {x1 x3 : Int64} (ha : a < 2 ^ 40) (hb : b < 2 ^ 40) (hb0 : 0 < b) {Post : (Nat → St) → Prop} {KX : Int64 → Int64 → Int64 → (Nat → St) → Prop} (h : KX x1 x3 (lN (Nat.gcd a b)) t) : ∃ n, wLX11_keepFraction_9 Post KX n (x1, x3, lN a, lN b, 0, t) := by
  refine it_rule (F := fun self z => wlX11_keepFraction_9 Post KX self z.1 z.2.1 z.2.2.1 z.2.2.2.1 z.2.2.2.2.1 z.2.2.2.2.2) (fun z => ∃ i c d : Nat, z = (x1, x3, lN c, lN d, nI i, t) ∧ i ≤ 128 ∧ c < 2 ^ 40 ∧ d < 2 ^ 40 ∧ Nat.gcd c d = Nat.gcd a b ∧ (i = 0 → 0 < d) ∧ (1 ≤ i → d < c ∧ 0 < c) ∧ c * d * 2 ^ (i - 1) ≤ 2 ^ 80) (fun z => 128 - z.2.2.2.2.1.toNatClampNeg) ?_ _ ⟨0, a, b, rfl, by omega, ha, hb, rfl, fun _ => hb0, fun q => by omega, ?_⟩
  · rintro self z ⟨i, c, d, rfl, hi, hc, hd, hg, hi0, hi1, hp⟩ hself
    dsimp only at hself ⊢
    unfold wlX11_keepFraction_9
    have hdone : d = 0 → KX x1 x3 (lN c) t := fun q => by
      subst q
      rw [Nat.gcd_zero_right] at hg
      rw [hg]; exact h
    refine pk_le 128 i (fun hle => hdone ?_) (fun hlt => ⟨fun q => hdone ((cmp_0 (by omega)).mp q), fun q => ?_⟩)
    · have e : i = 128 := by omega
      subst e
      obtain ⟨h1, h2⟩ := hi1 (by omega)
      refine Classical.byContradiction fun hd0 => ?_
      have h3 : 1 ≤ c * d := Nat.mul_pos h2 (Nat.pos_of_ne_zero hd0)
      have h4 : 1 * 2 ^ (128 - 1) ≤ c * d * 2 ^ (128 - 1) := Nat.mul_le_mul_right _ h3
      have h5 : (2 : Nat) ^ 80 < 1 * 2 ^ (128 - 1) := by decide
      omega
    · have hd0 : d ≠ 0 := fun w => q ((cmp_0 (by omega)).mpr w)
      have hdp : 0 < d := Nat.pos_of_ne_zero hd0
      refine ⟨lN_0 (by omega) hd0, fun y ey z ez => ?_⟩
      rw [pk_lRem (by omega) hdp (by omega)] at ey
      subst ey; subst ez
      rw [nI_1]
      have hm : c % d < d := Nat.mod_lt _ hdp
      refine hself _ ⟨i + 1, d, c % d, rfl, by omega, hd, by omega, by rw [gcd_step]; exact hg, fun w => by omega, fun _ => ⟨hm, hdp⟩, ?_⟩ (by dsimp only; rw [ncl (by omega), ncl (by omega)]; omega)
      rw [show i + 1 - 1 = i by omega]
      rcases Nat.eq_zero_or_pos i with w | w
      · subst w
        rw [Nat.pow_zero, Nat.mul_one]
        have : d * (c % d) ≤ 2 ^ 40 * 2 ^ 40 := Nat.mul_le_mul (by omega) (by omega)
        have e80 : (2 : Nat) ^ 40 * 2 ^ 40 = 2 ^ 80 := by decide
        omega
      · obtain ⟨h1, h2⟩ := hi1 w
        have h3 := half_step h1 hdp
        have h4 : 2 * (d * (c % d)) * 2 ^ (i - 1) ≤ c * d * 2 ^ (i - 1) := Nat.mul_le_mul_right _ h3
        have h5 : d * (c % d) * 2 ^ i = 2 * (d * (c % d)) * 2 ^ (i - 1) := by
          obtain ⟨j, rfl⟩ : ∃ j, i = j + 1 := ⟨i - 1, by omega⟩
          rw [Nat.pow_succ, show j + 1 - 1 = j by omega, Nat.mul_comm 2 (d * (c % d)), Nat.mul_assoc (d * (c % d)) 2, Nat.mul_comm 2 (2 ^ j)]
        omega
  · rw [show (0 - 1 : Nat) = 0 by omega, Nat.pow_zero, Nat.mul_one]
    have : a * b ≤ 2 ^ 40 * 2 ^ 40 := Nat.mul_le_mul (by omega) (by omega)
    have e80 : (2 : Nat) ^ 40 * 2 ^ 40 = 2 ^ 80 := by decide
    omega
theorem k_keepFraction {t : Nat → St} {a b : Nat} (ha : a < 2 ^ 40) (hb : b < 2 ^ 40) (hb0 : 0 < b) {Post : (Nat → St) → Prop} (h : Post (upS t 0 (((t 0).sL 10 (lN a / lN (Nat.gcd a b))).sL 11 (lN b / lN (Nat.gcd a b))))) : wpX11_keepFraction (lN a) (lN b) t Post := by
  have hg : 0 < Nat.gcd a b := Nat.gcd_pos_of_pos_right a hb0
  have hg2 : Nat.gcd a b ≤ b := Nat.gcd_le_right a hb0
  refine k_euclid ha hb hb0 ?_
  unfold wjX11_keepFraction_45
  refine ⟨fun q => absurd ((cmp_le (by omega)).mp q) (by omega), fun _ => ⟨lN_0 (by omega) (by omega), fun t7 e7 => ⟨lN_0 (by omega) (by omega), fun t8 e8 => ?_⟩⟩⟩
  have : t8 = upS t 0 (((t 0).sL 10 (lN a / lN (Nat.gcd a b))).sL 11 (lN b / lN (Nat.gcd a b))) := by
    subst e7; subst e8
    funext j
    by_cases hj : j = 0
    · subst hj; rfl
    · rw [upS_at, if_neg hj, upS_at, if_neg hj, upS_at, if_neg hj]
  rw [this]; exact h
theorem m_common {a b : Nat} (ha : a < 2 ^ 40) (hb : b < 2 ^ 40) {Post : Int64 → Prop} (h : Post (lN (Nat.gcd a b))) : wpX12_common (lN a) (lN b) Post := by
  refine it_rule (F := fun self z => wlX12_common_6 Post _ self z.1 z.2) (fun z => ∃ c d : Nat, z = (lN c, lN d) ∧ c < 2 ^ 40 ∧ d < 2 ^ 40 ∧ Nat.gcd c d = Nat.gcd a b) (fun z => z.2.toInt.toNat) ?_ _ ⟨a, b, rfl, ha, hb, rfl⟩
  rintro self z ⟨c, d, rfl, hc, hd, hg⟩ hself
  dsimp only at hself ⊢
  unfold wlX12_common_6
  refine ⟨fun q => ?_, fun q => ?_⟩
  · have := (cmp_0 (by omega)).mp q
    subst this
    rw [Nat.gcd_zero_right] at hg
    rw [hg]; exact h
  · have hd0 : d ≠ 0 := fun w => q ((cmp_0 (by omega)).mpr w)
    have hdp : 0 < d := Nat.pos_of_ne_zero hd0
    have hm : c % d < d := Nat.mod_lt _ hdp
    refine ⟨lN_0 (by omega) hd0, fun y ey => ?_⟩
    rw [pk_lRem (by omega) hdp (by omega)] at ey
    subst ey
    refine hself _ ⟨d, c % d, rfl, hd, by omega, by rw [gcd_step]; exact hg⟩ ?_
    dsimp only
    rw [pk_lT (by omega), pk_lT (by omega)]
    omega
/-! the odds -/
def ruA (d : Nat → Nat) (M : Nat) (al : Bool) : Nat → Nat
  | 0 => 1
  | c + 1 => if M.testBit c = true then ruA d M al c * d c else if al = true then ruA d M al c * (10 - d c) else ruA d M al c
def ruB (M : Nat) (al : Bool) : Nat → Nat
  | 0 => 1
  | c + 1 => if M.testBit c = true ∨ al = true then ruB M al c * 10 else ruB M al c
theorem ruA_s (d : Nat → Nat) (M : Nat) (al : Bool) (c : Nat) : ruA d M al (c + 1) = if M.testBit c = true then ruA d M al c * d c else if al = true then ruA d M al c * (10 - d c) else ruA d M al c := rfl
theorem ruB_s (M : Nat) (al : Bool) (c : Nat) : ruB M al (c + 1) = if M.testBit c = true ∨ al = true then ruB M al c * 10 else ruB M al c := rfl
theorem ru_le {d : Nat → Nat} {M : Nat} {al : Bool} (hd : ∀ c, c < 12 → d c ≤ 9) : ∀ c, c ≤ 12 → ruA d M al c ≤ 10 ^ c ∧ 1 ≤ ruB M al c ∧ ruB M al c ≤ 10 ^ c
  | 0, _ => ⟨Nat.le_refl _, Nat.le_refl _, Nat.le_refl _⟩
  | c + 1, hc => by
    obtain ⟨h1, h2, h3⟩ := ru_le (M := M) (al := al) hd c (by omega)
    have hdc := hd c (by omega)
    have hmul : ∀ a b : Nat, a ≤ 10 ^ c → b ≤ 10 → a * b ≤ 10 ^ (c + 1) := fun a b ha hb => by
      rw [Nat.pow_succ]; exact Nat.mul_le_mul ha hb
    have hup : (10 : Nat) ^ c ≤ 10 ^ (c + 1) := Nat.pow_le_pow_right (by omega) (by omega)
    refine ⟨?_, ?_, ?_⟩
    · rw [ruA_s]
      split
      · exact hmul _ _ h1 (by omega)
      · split
        · exact hmul _ _ h1 (by omega)
        · omega
    · rw [ruB_s]
      split <;> omega
    · rw [ruB_s]
      split
      · exact hmul _ _ h3 (by omega)
      · omega
theorem k_rubL {t : Nat → St} {s M : Nat} {x3 : Int32} {d : Nat → Nat} (hs : s < 6) (hM : M < 4096) (hd : ∀ c, c < 12 → (t 2).A 0 (4 + 14 * s + c) = nI (d c) ∧ d c ≤ 9) {Post : Int32 → (Nat → St) → Prop} {KX : Int64 → Int64 → (Nat → St) → Prop} (h : KX (lN (ruA d M (decide (x3 = 0)) 12)) (lN (ruB M (decide (x3 = 0)) 12)) t) : ∃ n, wLX11_rub_43 Post KX n (nI s, nI M, x3, 1, 1, 0, t) := by
  refine for_rule (F := fun self z => wlX11_rub_43 Post KX self z.1 z.2.1 z.2.2.1 z.2.2.2.1 z.2.2.2.2.1 z.2.2.2.2.2.1 z.2.2.2.2.2.2) 12 (fun i => (nI s, nI M, x3, lN (ruA d M (decide (x3 = 0)) i), lN (ruB M (decide (x3 = 0)) i), nI i, t)) ?_ ?_
  · intro self i hi hself
    dsimp only at hself ⊢
    unfold wlX11_rub_43
    obtain ⟨ed, hd9⟩ := hd i hi
    refine ⟨fun z => absurd z (nI_ge (b := 12) hi (by decide)), fun _ => k_dentOf hs hi ?_⟩
    rw [ed, has_0 (by omega) (by omega)]
    unfold wjX11_rub_76 wjX11_rub_87 wjX11_rub_106
    rw [ruA_s, ruB_s] at hself
    refine ⟨fun hb => b0n ⟨fun h3 z ez => ?_, fun h3 => ⟨fun _ y1 ey1 y2 ey2 z ez => ?_, fun q => absurd rfl q⟩⟩, fun hb => b1n ⟨fun q => absurd q (by decide), fun _ y1 ey1 y2 ey2 z ez => ?_⟩⟩
    · subst ez
      rw [hb, decide_eq_false h3, if_neg (by decide), if_neg (by decide), if_neg (by decide)] at hself
      rw [decide_eq_false h3, nI_1]; exact hself
    · subst ez
      have e10 : ((10 : Int32) - nI (d i)).toInt64 = lN (10 - d i) := by
        rw [show (10 : Int32) - nI (d i) = nI (10 - d i) from pk_sub (a := 10) (by omega), nI_wide (by omega)]
      rw [e10, lN_mul] at ey1
      rw [show (10 : Int64) = lN 10 from rfl, lN_mul] at ey2
      subst ey1; subst ey2
      rw [hb, decide_eq_true h3, if_neg (by decide), if_pos rfl, if_pos (Or.inr rfl)] at hself
      rw [decide_eq_true h3, nI_1]; exact hself
    · subst ez
      have hb' : M.testBit i = true := by simpa using hb
      rw [nI_wide (by omega), lN_mul] at ey1
      rw [show (10 : Int64) = lN 10 from rfl, lN_mul] at ey2
      subst ey1; subst ey2
      rw [if_pos hb', if_pos (Or.inl hb')] at hself
      rw [nI_1]; exact hself
  · intro self
    dsimp only
    unfold wlX11_rub_43
    exact ⟨fun _ => h, fun z => absurd (nI_le (a := 12) (b := 12) (by decide) (by decide)) z⟩
theorem m_rubL {x : St} {s M : Nat} {x3 : Int32} {d : Nat → Nat} (hs : s < 6) (hM : M < 4096) (hd : ∀ c, c < 12 → x.A 4 (12 + 12 * s + c) = nI (d c) ∧ d c ≤ 9) (e7 : x.L 7 = lN 1) (e8 : x.L 8 = lN 1) {Post : Int32 → St → Prop} {KX : St → Prop} (h : ∀ y : St, (∀ k, y.I k = x.I k) → (∀ k, y.A k = x.A k) → y.L 7 = lN (ruA d M (decide (x3 = 0)) 12) → y.L 8 = lN (ruB M (decide (x3 = 0)) 12) → KX y) : ∃ n, wLX12_rub_48 Post KX n (nI s, nI M, x3, 0, x) := by
  refine it_rule (F := fun self z => wlX12_rub_48 Post KX self z.1 z.2.1 z.2.2.1 z.2.2.2.1 z.2.2.2.2) (fun z => ∃ (i : Nat) (y : St), z = (nI s, nI M, x3, nI i, y) ∧ i ≤ 12 ∧ (∀ k, y.I k = x.I k) ∧ (∀ k, y.A k = x.A k) ∧ y.L 7 = lN (ruA d M (decide (x3 = 0)) i) ∧ y.L 8 = lN (ruB M (decide (x3 = 0)) i)) (fun z => 12 - z.2.2.2.1.toNatClampNeg) ?_ _ ⟨0, x, rfl, by omega, fun _ => rfl, fun _ => rfl, e7, e8⟩
  rintro self z ⟨i, y, rfl, hi, a1, a2, a3, a4⟩ hself
  dsimp only at hself ⊢
  unfold wlX12_rub_48
  refine pk_le 12 i (fun hle => ?_) (fun hlt => m_dentOf hs hlt ?_)
  · have e : i = 12 := by omega
    subst e
    exact h y a1 a2 a3 a4
  · obtain ⟨ed, hd9⟩ := hd i hlt
    rw [a2, ed]
    have go : ∀ (v : Int64) (e : Nat), v = lN e → (M.testBit i = true → e = d i) → (M.testBit i = false → decide (x3 = 0) = true ∧ e = 10 - d i) → wjX12_rub_103 Post self KX (nI s) (nI M) x3 (nI i) v (y.L 7) y := by
      intro v e ev h1 h2 p11 e11 p12 e12 z ez
      subst ez
      rw [nI_1]
      refine hself _ ⟨i + 1, p12, rfl, by omega, fun k => by rw [e12, e11]; exact a1 k, fun k => by rw [e12, e11]; exact a2 k, ?_, ?_⟩ (by dsimp only; rw [ncl (by omega), ncl (by omega)]; omega)
      · rw [e12, sL_L, if_neg (by decide), e11, sL_L, if_pos rfl, a3, ev, lN_mul, ruA_s]
        by_cases hb : M.testBit i = true
        · rw [if_pos hb, h1 hb]
        · rw [if_neg hb, if_pos (h2 (by simpa using hb)).1, (h2 (by simpa using hb)).2]
      · rw [e12, sL_L, if_pos rfl, e11, sL_L, if_neg (by decide), a4, show (10 : Int64) = lN 10 from rfl, lN_mul, ruB_s, if_pos]
        by_cases hb : M.testBit i = true
        · exact Or.inl hb
        · exact Or.inr (h2 (by simpa using hb)).1
    have e10 : ((10 : Int32) - nI (d i)).toInt64 = lN (10 - d i) := by
      rw [show (10 : Int32) - nI (d i) = nI (10 - d i) from pk_sub (a := 10) (by omega), nI_wide (by omega)]
    unfold wjX12_rub_77
    refine m_has (by omega) (by omega) (fun hb => b1n ?_) (fun hb => b0n ⟨fun h3 z ez => ?_, fun h3 => ?_⟩)
    · exact m_has (by omega) (by omega) (fun _ => b1e (go _ (d i) (nI_wide (by omega)) (fun _ => rfl) (fun w => by rw [hb] at w; exact absurd w (by decide)))) (fun w => by rw [hb] at w; exact absurd w (by decide))
    · subst ez
      rw [nI_1]
      refine hself _ ⟨i + 1, y, rfl, by omega, a1, a2, ?_, ?_⟩ (by dsimp only; rw [ncl (by omega), ncl (by omega)]; omega)
      · rw [a3, ruA_s, if_neg (by rw [hb]; decide), if_neg (by rw [decide_eq_false h3]; decide)]
      · rw [a4, ruB_s, if_neg (by rw [hb, decide_eq_false h3]; decide)]
    · exact m_has (by omega) (by omega) (fun w => by rw [hb] at w; exact absurd w (by decide)) (fun _ => b0e (go _ (10 - d i) e10 (fun w => by rw [hb] at w; exact absurd w (by decide)) (fun _ => ⟨decide_eq_true h3, rfl⟩)))
theorem R_frac {t : Nat → St} {x x' : St} {a b : Int64} (h : Rel t x) (hI : ∀ k, x'.I k = x.I k) (hA : ∀ k, x'.A k = x.A k) (h7 : x'.L 7 = a) (h8 : x'.L 8 = b) : Rel (upS t 0 (((t 0).sL 10 a).sL 11 b)) x' := by
  obtain ⟨hN, hO, hT, hM⟩ := h
  refine ⟨?_, ?_, ?_, ?_⟩
  · unfold NowR at hN ⊢
    rw [hI, hI, hI, hI, hA, hA, hA]; exact hN
  · unfold ObjR at hO ⊢
    rw [h7, h8, hA]
    exact ⟨rfl, rfl, hO.2.2⟩
  · unfold TxtR at hT ⊢
    rw [hI, hA]; exact hT
  · unfold ImsR at hM ⊢
    rw [hA, hA]; exact hM
theorem s_rub {t : Nat → St} {x : St} (h : Rel t x) (x1 x2 x3 : Int32) : SimI (wpX11_rub x1 x2 x3 t) (wpX12_rub x1 x2 x3 x) := by
  obtain ⟨n, w, u, e1, e2, e3, hc, g⟩ := h.1.got
  have hcur := g.cur
  have hn6 := g.2.1
  unfold SimI wpX11_rub wjX11_rub_27
  have MB : ¬ ((0 ≤ x1.toInt ∧ x1.toInt < n) ∧ (0 ≤ x2.toInt ∧ x2.toInt ≤ 4095) ∧ 0 ≤ x3.toInt ∧ x3.toInt ≤ 1) → ∀ {P : Int32 → St → Prop}, P (-2) (refX x 0) → wpX12_rub x1 x2 x3 x P := by
    intro hb P hP
    unfold wpX12_rub wjX12_rub_30 wpX12_bad
    exact m_isSheet e1 hn6 (fun a b => b1e (in_rule 0 4095 (by decide) (by decide) (fun c d => b1e (in_rule 0 1 (by decide) (by decide) (fun e f => absurd ⟨⟨a, b⟩, ⟨c, d⟩, e, f⟩ hb) (fun _ => b0n (m_ref0 hP)))) (fun _ => b0e (m_ref0 hP)))) (fun _ => b0e (m_ref0 hP))
  refine k_hasSheet g.2.2.1 hn6 (fun a b => b1e ?_) (fun q => b0e (k_bad (MB (by omega) ⟨rfl, R_bad h⟩)))
  refine k_isCells (fun c d => b1e ?_) (fun q => b0e (k_bad (MB (by omega) ⟨rfl, R_bad h⟩)))
  refine v_le 0 1 (by decide) (by decide) (fun q => k_bad (MB (by omega) ⟨rfl, R_bad h⟩)) (fun e f => ?_)
  clear MB
  obtain ⟨s, rfl, hs, _⟩ := toNI a
  obtain ⟨M, rfl, hM, _⟩ := toNI c
  have hs6 : s < 6 := by omega
  have hdm : ∀ c, c < 12 → x.A 4 (12 + 12 * s + c) = nI (mx (x.A 4) s c (mN (x.A 4))).toNatClampNeg ∧ (mx (x.A 4) s c (mN (x.A 4))).toNatClampNeg ≤ 9 := fun c hc => by
    have hT := exN_T (K := 0) (c := c) hcur.2 hs6 (mN (x.A 4)) (Nat.le_refl _)
    obtain ⟨j, ej, hj, _⟩ := toNI (show 0 ≤ (mx (x.A 4) s c (mN (x.A 4))).toInt by omega)
    rw [hcur.2.2.2.2.2.2 s (by omega) c hc, ej, ncl (by omega)]
    exact ⟨rfl, by omega⟩
  have hdk : ∀ c, c < 12 → (t 2).A 0 (4 + 14 * s + c) = nI (mx (x.A 4) s c (mN (x.A 4))).toNatClampNeg ∧ (mx (x.A 4) s c (mN (x.A 4))).toNatClampNeg ≤ 9 := fun c hc => by
    rw [(hcur.1.2.2.1 s hs6).2.2 c hc]; exact hdm c hc
  have hle := ru_le (M := M) (al := decide (x3 = 0)) (fun c hc => (hdm c hc).2) 12 (Nat.le_refl _)
  have e12 : (10 : Nat) ^ 12 < 2 ^ 40 := by decide
  refine k_rubL hs6 (by omega) hdk (k_keepFraction (by omega) (by omega) (by omega) ?_)
  unfold wpX12_rub wjX12_rub_30 wpX12_bad
  refine m_isSheet e1 hn6 (fun _ _ => b1e (in_rule 0 4095 (by decide) (by decide) (fun _ _ => b1e (in_rule 0 1 (by decide) (by decide) (fun _ _ => b1n ?_) (fun q => absurd q (by omega)))) (fun q => absurd q (by omega)))) (fun q => absurd q (by omega))
  intro p6 e6 p7 e7
  refine m_rubL (d := fun c => (mx (x.A 4) s c (mN (x.A 4))).toNatClampNeg) hs6 (by omega) (fun c hc => ?_) ?_ ?_ (fun y b1 b2 b3 b4 => ?_)
  · rw [e7, e6]; exact hdm c hc
  · rw [e7, e6]; rfl
  · rw [e7]; rfl
  · rw [b3, b4]
    refine m_common (by omega) (by omega) ?_
    have hg : 0 < Nat.gcd (ruA (fun c => (mx (x.A 4) s c (mN (x.A 4))).toNatClampNeg) M (decide (x3 = 0)) 12) (ruB M (decide (x3 = 0)) 12) := Nat.gcd_pos_of_pos_right _ (by omega)
    have hg2 : Nat.gcd (ruA (fun c => (mx (x.A 4) s c (mN (x.A 4))).toNatClampNeg) M (decide (x3 = 0)) 12) (ruB M (decide (x3 = 0)) 12) ≤ ruB M (decide (x3 = 0)) 12 := Nat.gcd_le_right _ (by omega)
    refine ⟨lN_0 (by omega) (by omega), fun p17 e17 => ⟨lN_0 (by omega) (by omega), fun p18 e18 => ⟨rfl, ?_⟩⟩⟩
    refine R_frac h (fun k => ?_) (fun k => ?_) ?_ ?_
    · rw [e18, e17, sL_I, sL_I, b1, e7, e6]; rfl
    · rw [e18, e17, sL_A, sL_A, b2, e7, e6]; rfl
    · rw [e18, e17, sL_L, if_neg (by decide), sL_L, if_pos rfl]
    · rw [e18, sL_L, if_pos rfl, e17, sL_L, if_neg (by decide), b4]
end
section
def nx (v : Nat) : Nat := (v * 1103515245 + 12345) % 2147483648
def dr (v m : Nat) : Nat := v / 65536 % m
theorem nx_lt (v : Nat) : nx v < 2 ^ 31 := Nat.mod_lt _ (by decide)
theorem nx_eq {v : Nat} (hv : v < 2 ^ 31) : ((lN v * 1103515245) + 12345) - ((lN v * 1103515245) + 12345) / 2147483648 * 2147483648 = lN (nx v) := by
  have e : (lN v * 1103515245) + 12345 = lN (v * 1103515245 + 12345) := by
    show lN v * lN 1103515245 + lN 12345 = _
    rw [lN_mul, lN_add]
  rw [e]
  exact pk_lRem (a := v * 1103515245 + 12345) (b := 2147483648) (by omega) (by decide) (by decide)
theorem dr_eq {v m : Nat} (hv : v < 2 ^ 31) (hm : 0 < m) (hm2 : m < 2 ^ 31) : ((lN v / 65536) - (lN v / 65536) / ((nI m).toInt64) * ((nI m).toInt64)).toInt32 = nI (dr v m) := by
  have e : lN v / 65536 = lN (v / 65536) := pk_lDiv (a := v) (b := 65536) (by omega) (by decide) (by decide)
  rw [e, nI_wide hm2, pk_lRem (by omega) hm (by omega), lN_i]; rfl
theorem k_next {v : Nat} (hv : v < 2 ^ 31) {Post : Int64 → Prop} (h : Post (lN (nx v))) : wpX11_nextDraw (lN v) Post := by
  unfold wpX11_nextDraw
  rw [nx_eq hv]; exact h
theorem k_drawOf {v m : Nat} (hv : v < 2 ^ 31) (hm : 0 < m) (hm2 : m < 2 ^ 31) {Post : Int32 → Prop} (h : Post (nI (dr v m))) : wpX11_drawOf (lN v) (nI m) Post := by
  refine ⟨fun _ => ⟨?_, ?_⟩, fun q => absurd (nI_lt (a := 0) hm hm2) q⟩
  · rw [nI_wide hm2]; exact lN_0 (by omega) (by omega)
  · rw [dr_eq hv hm hm2]; exact h
theorem m_draw {x : St} {v m : Nat} (ev : x.L 26 = lN v) (hv : v < 2 ^ 31) (hm : 0 < m) (hm2 : m < 2 ^ 31) {Post : Int32 → St → Prop} (h : Post (nI (dr (nx v) m)) (x.sL 26 (lN (nx v)))) : wpX12_draw (nI m) x Post := by
  intro p1 e1
  rw [ev, nx_eq hv] at e1
  subst e1
  have eL : (x.sL 26 (lN (nx v))).L 26 = lN (nx v) := rfl
  rw [eL, dr_eq (nx_lt v) hm hm2]
  exact ⟨by rw [nI_wide hm2]; exact lN_0 (by omega) (by omega), h⟩
/-- the seed, the top and the last sheet's dents after the first draws -/
def dwS (n : Nat) (v0 T0 : Nat) (D0 : Nat → Int32) : Nat → Nat × Nat × (Nat → Int32)
  | 0 => (v0, T0, D0)
  | i + 1 =>
    (nx (nx (nx (dwS n v0 T0 D0 i).1)),
     if i % 3 = 2 ∧ (dwS n v0 T0 D0 i).2.1 + 1 < n then (dwS n v0 T0 D0 i).2.1 + 1 else (dwS n v0 T0 D0 i).2.1,
     fun c => if (dr (nx (nx (nx (dwS n v0 T0 D0 i).1))) 4096).testBit c = true ∧ (dwS n v0 T0 D0 i).2.2 c < ftN (dr (nx (dwS n v0 T0 D0 i).1) 6) (1 + dr (nx (nx (dwS n v0 T0 D0 i).1)) 9) (n - 1 - (dwS n v0 T0 D0 i).2.1) then ftN (dr (nx (dwS n v0 T0 D0 i).1) 6) (1 + dr (nx (nx (dwS n v0 T0 D0 i).1)) 9) (n - 1 - (dwS n v0 T0 D0 i).2.1) else (dwS n v0 T0 D0 i).2.2 c)
theorem dwS_s (n v0 T0 : Nat) (D0 : Nat → Int32) (i : Nat) : dwS n v0 T0 D0 (i + 1) = (nx (nx (nx (dwS n v0 T0 D0 i).1)), if i % 3 = 2 ∧ (dwS n v0 T0 D0 i).2.1 + 1 < n then (dwS n v0 T0 D0 i).2.1 + 1 else (dwS n v0 T0 D0 i).2.1, fun c => if (dr (nx (nx (nx (dwS n v0 T0 D0 i).1))) 4096).testBit c = true ∧ (dwS n v0 T0 D0 i).2.2 c < ftN (dr (nx (dwS n v0 T0 D0 i).1) 6) (1 + dr (nx (nx (dwS n v0 T0 D0 i).1)) 9) (n - 1 - (dwS n v0 T0 D0 i).2.1) then ftN (dr (nx (dwS n v0 T0 D0 i).1) 6) (1 + dr (nx (nx (dwS n v0 T0 D0 i).1)) 9) (n - 1 - (dwS n v0 T0 D0 i).2.1) else (dwS n v0 T0 D0 i).2.2 c) := rfl
theorem dwS_T {n v0 T0 : Nat} {D0 : Nat → Int32} (hT : T0 < n) : ∀ i, (dwS n v0 T0 D0 i).2.1 < n
  | 0 => hT
  | i + 1 => by
    have ih := dwS_T (v0 := v0) (D0 := D0) hT i
    rw [dwS_s]
    dsimp only
    split
    · rename_i h; exact h.2
    · exact ih
theorem dwS_v {n v0 T0 : Nat} {D0 : Nat → Int32} (hv : v0 < 2 ^ 31) : ∀ i, (dwS n v0 T0 D0 i).1 < 2 ^ 31
  | 0 => hv
  | i + 1 => by rw [dwS_s]; exact nx_lt _
theorem up0 (t : Nat → St) (a b : St) : upS (upS t 0 a) 0 b = upS t 0 b := by
  funext j; unfold upS
  by_cases hj : j = 0
  · rw [if_pos hj, if_pos hj]
  · rw [if_neg hj, if_neg hj, if_neg hj]
theorem up0_same (t : Nat → St) : upS t 0 (t 0) = t := by
  funext j; unfold upS
  by_cases hj : j = 0
  · rw [if_pos hj, hj]
  · rw [if_neg hj]
theorem k_lastL {t : Nat → St} {s : Nat} {a1 a2 a4 : Int32} (hs : s < 6) {Post : Int32 → (Nat → St) → Prop} {KX : Int32 → Int32 → Int32 → Int32 → (Nat → St) → Prop} (h : ∀ D : Nat → Int32, (∀ c, c < 12 → D c = (t 2).A 0 (4 + 14 * s + c)) → KX a1 a2 (nI s) a4 (upS t 0 ((t 0).sA 8 D))) : ∃ n, wLX11_drawn_61 Post KX n (a1, a2, nI s, a4, 0, t) := by
  refine it_rule (F := fun self z => wlX11_drawn_61 Post KX self z.1 z.2.1 z.2.2.1 z.2.2.2.1 z.2.2.2.2.1 z.2.2.2.2.2) (fun z => ∃ (i : Nat) (D : Nat → Int32), z = (a1, a2, nI s, a4, nI i, upS t 0 ((t 0).sA 8 D)) ∧ i ≤ 12 ∧ ∀ c, c < i → D c = (t 2).A 0 (4 + 14 * s + c)) (fun z => 12 - z.2.2.2.2.1.toNatClampNeg) ?_ _ ⟨0, (t 0).A 8, ?_, by omega, fun c hc => absurd hc (Nat.not_lt_zero c)⟩
  · rintro self z ⟨i, D, rfl, hi, a⟩ hself
    dsimp only at hself ⊢
    unfold wlX11_drawn_61
    refine pk_le 12 i (fun hle => ?_) (fun hlt => k_dentOf hs hlt ⟨vp_in_nI (by omega) (by omega), fun t7 e7 z ez => ?_⟩)
    · have e : i = 12 := by omega
      subst e
      exact h D a
    · rw [ncl (by omega), up0] at e7
      subst e7; subst ez
      rw [nI_1]
      refine hself _ ⟨i + 1, upd D i ((t 2).A 0 (4 + 14 * s + i)), ?_, by omega, fun c hc => ?_⟩ (by dsimp only; rw [ncl (by omega), ncl (by omega)]; omega)
      · congr 5
        show upS t 0 (((t 0).sA 8 D).sA 8 (upd D i ((t 2).A 0 (4 + 14 * s + i)))) = _
        rw [sA_sA]
      · by_cases hci : c = i
        · subst hci; exact upd_at
        · rw [upd_ne hci]; exact a c (by omega)
  · rw [sA_same, up0_same]; rfl
theorem k_drawnL {t : Nat → St} {n N v0 T0 : Nat} {D D0 : Nat → Int32} (hn : n ≤ 6) (hT : T0 < n) (hv : v0 < 2 ^ 31) (hN : N ≤ 20) (hD : ∀ c, c < 12 → D c = D0 c) {Post : Int32 → (Nat → St) → Prop} {KX : (Nat → St) → Prop} (h : ∀ D' : Nat → Int32, (∀ c, c < 12 → D' c = (dwS n v0 T0 D0 N).2.2 c) → KX (upS t 0 ((t 0).sA 8 D'))) : ∃ k, wLX11_drawn_98 Post KX k (nI N, nI (n - 1), nI T0, lN v0, 1, upS t 0 ((t 0).sA 8 D)) := by
  refine it_rule (F := fun self z => wlX11_drawn_98 Post KX self z.1 z.2.1 z.2.2.1 z.2.2.2.1 z.2.2.2.2.1 z.2.2.2.2.2) (fun z => ∃ (i : Nat) (E : Nat → Int32), z = (nI N, nI (n - 1), nI (dwS n v0 T0 D0 i).2.1, lN (dwS n v0 T0 D0 i).1, nI (i + 1), upS t 0 ((t 0).sA 8 E)) ∧ i ≤ N ∧ ∀ c, c < 12 → E c = (dwS n v0 T0 D0 i).2.2 c) (fun z => 21 - z.2.2.2.2.1.toNatClampNeg) ?_ _ ⟨0, D, rfl, by omega, hD⟩
  rintro self z ⟨i, E, rfl, hi, hE⟩ hself
  dsimp only at hself ⊢
  unfold wlX11_drawn_98 wpX5_forceOf
  have hvi := dwS_v (n := n) (T0 := T0) (D0 := D0) hv i
  have hTi := dwS_T (v0 := v0) (D0 := D0) hT i
  refine pk_lt N (i + 1) (fun hle => ?_) (fun hlt => ?_)
  · have e : i = N := by omega
    subst e
    exact h E hE
  · refine k_next hvi (k_drawOf (nx_lt _) (m := 6) (by omega) (by omega) (k_next (nx_lt _) (k_drawOf (nx_lt _) (m := 9) (by omega) (by omega) (fun y ey => k_next (nx_lt _) (k_drawOf (nx_lt _) (m := 4096) (by omega) (by omega) ?_)))))
    have hce : dr (nx (nx (nx (dwS n v0 T0 D0 i).1))) 4096 < 4096 := Nat.mod_lt _ (by decide)
    rw [show (1 : Int32) + nI (dr (nx (nx (dwS n v0 T0 D0 i).1)) 9) = nI (1 + dr (nx (nx (dwS n v0 T0 D0 i).1)) 9) from nI_add 1 _] at ey
    subst ey
    rw [pk_sub (by omega)]
    refine k_dentInto (f := 0) (by omega) (by omega) (by omega) ?_
    intro t7 e7
    rw [up0] at e7
    have hE8 : (upS t 0 ((t 0).sA 8 E)) 0 = (t 0).sA 8 E := rfl
    rw [hE8, sA_sA] at e7
    have hA8 : ((t 0).sA 8 E).A 8 = E := rfl
    rw [hA8] at e7
    subst e7
    have hrem : (nI (i + 1) - nI (i + 1) / 3 * 3) = nI ((i + 1) % 3) := pk_rem (d := 3) (by omega) (by decide) (by decide)
    rw [hrem]
    have hE' : ∀ c, c < 12 → dI E 0 (dr (nx (nx (nx (dwS n v0 T0 D0 i).1))) 4096) (fo (nI (dr (nx (dwS n v0 T0 D0 i).1) 6)) (nI (1 + dr (nx (nx (dwS n v0 T0 D0 i).1)) 9)) (nI (n - 1 - (dwS n v0 T0 D0 i).2.1))) 12 c = (dwS n v0 T0 D0 (i + 1)).2.2 c := fun c hc => by
      have := dI_in (row := E) (f := 0) (ce := dr (nx (nx (nx (dwS n v0 T0 D0 i).1))) 4096) (force := fo (nI (dr (nx (dwS n v0 T0 D0 i).1) 6)) (nI (1 + dr (nx (nx (dwS n v0 T0 D0 i).1)) 9)) (nI (n - 1 - (dwS n v0 T0 D0 i).2.1))) hc
      rw [Nat.zero_add] at this
      rw [this, hE c hc, dwS_s]; rfl
    have fin : ∀ (T' z : Int32), T' = nI (dwS n v0 T0 D0 (i + 1)).2.1 → z = nI (i + 1) + 1 → self (nI N, nI (n - 1), T', lN (nx (nx (nx (dwS n v0 T0 D0 i).1))), z, upS t 0 ((t 0).sA 8 (dI E 0 (dr (nx (nx (nx (dwS n v0 T0 D0 i).1))) 4096) (fo (nI (dr (nx (dwS n v0 T0 D0 i).1) 6)) (nI (1 + dr (nx (nx (dwS n v0 T0 D0 i).1)) 9)) (nI (n - 1 - (dwS n v0 T0 D0 i).2.1))) 12))) := by
      intro T' z eT ez
      subst eT; subst ez
      rw [nI_1]
      exact hself _ ⟨i + 1, _, by rw [show (dwS n v0 T0 D0 (i + 1)).1 = nx (nx (nx (dwS n v0 T0 D0 i).1)) from rfl], by omega, hE'⟩ (by dsimp only; rw [ncl (by omega), ncl (by omega)]; omega)
    have eT : (dwS n v0 T0 D0 (i + 1)).2.1 = if i % 3 = 2 ∧ (dwS n v0 T0 D0 i).2.1 + 1 < n then (dwS n v0 T0 D0 i).2.1 + 1 else (dwS n v0 T0 D0 i).2.1 := rfl
    refine ⟨fun q z ez => fin _ _ ?_ ez, fun q => ⟨fun q2 z ez => fin _ _ ?_ ez, fun q2 T' eT' z ez => fin _ _ ?_ ez⟩⟩
    · have : (i + 1) % 3 ≠ 0 := fun w => q (by rw [w]; rfl)
      rw [eT, if_neg (by omega)]
    · rw [nI_leI (by omega) (by omega)] at q2
      rw [eT, if_neg (by omega)]
    · have q' : (i + 1) % 3 = 0 := (nI_eq (b := 0) (by omega) (by decide)).mp q
      rw [nI_leI (by omega) (by omega)] at q2
      rw [eT, if_pos (by omega), eT', nI_1]
def smD (D : Nat → Int32) : Nat → Int32
  | 0 => 0
  | c + 1 => smD D c + D c
theorem smD_s (D : Nat → Int32) (c : Nat) : smD D (c + 1) = smD D c + D c := rfl
theorem smD_cong {D E : Nat → Int32} : ∀ n, (∀ c, c < n → D c = E c) → smD D n = smD E n
  | 0, _ => rfl
  | n + 1, h => by rw [smD_s, smD_s, smD_cong n (fun c hc => h c (by omega)), h n (by omega)]
theorem k_sumLast {t : Nat → St} {D : Nat → Int32} (hD : ∀ c, c < 12 → (t 0).A 8 c = D c) {Post : Int32 → Prop} (h : Post (smD D 12)) : wpX11_sumOfLast t Post := by
  refine for_rule (F := fun self z => wlX11_sumOfLast_4 t Post _ self z.1 z.2) 12 (fun i => (smD D i, nI i)) ?_ ?_
  · intro self i hi hself
    dsimp only at hself ⊢
    unfold wlX11_sumOfLast_4
    rw [ncl (by omega), hD i hi]
    refine ⟨fun z => absurd z (nI_ge (b := 12) hi (by decide)), fun _ => ⟨vp_in_nI (by omega) (by omega), fun y ey z ez => ?_⟩⟩
    subst ey; subst ez
    rw [nI_1]; exact hself
  · intro self
    dsimp only
    unfold wlX11_sumOfLast_4
    exact ⟨fun _ => h, fun z => absurd (nI_le (a := 12) (b := 12) (by decide) (by decide)) z⟩
/-! the model's -/
theorem m_asideL {x : St} {a1 a2 : Int32} {Post : Int32 → St → Prop} {KX : Int32 → Int32 → St → Prop} (h : ∀ x' : St, (∀ k, x'.I k = x.I k) → (∀ k, x'.L k = x.L k) → (∀ k, k ≠ 25 → x'.A k = x.A k) → (∀ i, i < 126 → x'.A 25 i = x.A 4 i) → KX a1 a2 x') : ∃ n, wLX12_drawn_47 Post KX n (a1, a2, 0, x) := by
  refine it_rule (F := fun self z => wlX12_drawn_47 Post KX self z.1 z.2.1 z.2.2.1 z.2.2.2) (fun z => ∃ (j : Nat) (y : St), z = (a1, a2, nI j, y) ∧ j ≤ 126 ∧ (∀ k, y.I k = x.I k) ∧ (∀ k, y.L k = x.L k) ∧ (∀ k, k ≠ 25 → y.A k = x.A k) ∧ ∀ i, i < j → y.A 25 i = x.A 4 i) (fun z => 126 - z.2.2.1.toNatClampNeg) ?_ _ ⟨0, x, rfl, by omega, fun _ => rfl, fun _ => rfl, fun _ _ => rfl, fun i hi => absurd hi (Nat.not_lt_zero i)⟩
  rintro self z ⟨j, y, rfl, hj, b1, b2, b3, b4⟩ hself
  dsimp only at hself ⊢
  unfold wlX12_drawn_47
  refine pk_le 126 j (fun hle => ?_) (fun hlt => ⟨vp_in_nI (by omega) (by omega), vp_in_nI (by omega) (by omega), fun y' ey z ez => ?_⟩)
  · have e126 : j = 126 := by omega
    subst e126
    exact h y b1 b2 b3 b4
  · rw [ncl (by omega)] at ey
    subst ey; subst ez
    rw [nI_1]
    refine hself _ ⟨j + 1, _, rfl, by omega, b1, b2, fun k hk => ?_, fun i hi => ?_⟩ (by dsimp only; rw [ncl (by omega), ncl (by omega)]; omega)
    · rw [sA_A, if_neg hk]; exact b3 k hk
    · show upd (y.A 25) j (y.A 4 j) i = _
      by_cases hij : i = j
      · subst hij; rw [upd_at, b3 4 (by decide)]
      · rw [upd_ne hij]; exact b4 i (by omega)
theorem m_backL {x : St} {a : Int32} {Post : Int32 → St → Prop} {KX : Int32 → St → Prop} (h : ∀ x' : St, (∀ k, x'.I k = x.I k) → (∀ k, x'.L k = x.L k) → (∀ k, k ≠ 4 → x'.A k = x.A k) → (∀ i, i < 126 → x'.A 4 i = x.A 25 i) → KX a x') : ∃ n, wLX12_drawn_197 Post KX n (a, 0, x) := by
  refine it_rule (F := fun self z => wlX12_drawn_197 Post KX self z.1 z.2.1 z.2.2) (fun z => ∃ (j : Nat) (y : St), z = (a, nI j, y) ∧ j ≤ 126 ∧ (∀ k, y.I k = x.I k) ∧ (∀ k, y.L k = x.L k) ∧ (∀ k, k ≠ 4 → y.A k = x.A k) ∧ ∀ i, i < j → y.A 4 i = x.A 25 i) (fun z => 126 - z.2.1.toNatClampNeg) ?_ _ ⟨0, x, rfl, by omega, fun _ => rfl, fun _ => rfl, fun _ _ => rfl, fun i hi => absurd hi (Nat.not_lt_zero i)⟩
  rintro self z ⟨j, y, rfl, hj, b1, b2, b3, b4⟩ hself
  dsimp only at hself ⊢
  unfold wlX12_drawn_197
  refine pk_le 126 j (fun hle => ?_) (fun hlt => ⟨vp_in_nI (by omega) (by omega), vp_in_nI (by omega) (by omega), fun y' ey z ez => ?_⟩)
  · have e126 : j = 126 := by omega
    subst e126
    exact h y b1 b2 b3 b4
  · rw [ncl (by omega)] at ey
    subst ey; subst ez
    rw [nI_1]
    refine hself _ ⟨j + 1, _, rfl, by omega, b1, b2, fun k hk => ?_, fun i hi => ?_⟩ (by dsimp only; rw [ncl (by omega), ncl (by omega)]; omega)
    · rw [sA_A, if_neg hk]; exact b3 k hk
    · show upd (y.A 4) j (y.A 25 j) i = _
      by_cases hij : i = j
      · subst hij; rw [upd_at, b3 25 (by decide)]
      · rw [upd_ne hij]; exact b4 i (by omega)
theorem m_sumL {x : St} {n : Nat} (eI : x.I 0 = nI n) (h1 : 1 ≤ n) (hn : n ≤ 6) {D : Nat → Int32} (hD : ∀ c, c < 12 → x.A 4 (12 + 12 * (n - 1) + c) = D c) {Post : Int32 → St → Prop} {KX : Int32 → St → Prop} (h : KX (smD D 12) x) : ∃ n, wLX12_drawn_166 Post KX n (0, 0, x) := by
  refine for_rule (F := fun self z => wlX12_drawn_166 Post KX self z.1 z.2.1 z.2.2) 12 (fun i => (smD D i, nI i, x)) ?_ ?_
  · intro self i hi hself
    dsimp only at hself ⊢
    unfold wlX12_drawn_166
    rw [eI, show nI n - 1 = nI (n - 1) from pk_sub (b := 1) h1]
    refine ⟨fun z => absurd z (nI_ge (b := 12) hi (by decide)), fun _ => m_dentOf (by omega) hi (fun y ey z ez => ?_)⟩
    rw [hD i hi] at ey
    subst ey; subst ez
    rw [nI_1]; exact hself
  · intro self
    dsimp only
    unfold wlX12_drawn_166
    exact ⟨fun _ => h, fun z => absurd (nI_le (a := 12) (b := 12) (by decide) (by decide)) z⟩
theorem m_drawnL {x : St} {n N v0 T0 : Nat} {D0 : Nat → Int32} (h1 : 1 ≤ n) (hn : n ≤ 6) (eI : x.I 0 = nI n) (hT : T0 < n) (eT : x.A 4 125 = nI T0) (hv : v0 < 2 ^ 31) (ev : x.L 26 = lN v0) (hN : N ≤ 20) (hD : ∀ c, c < 12 → x.A 4 (12 + 12 * (n - 1) + c) = D0 c) {Post : Int32 → St → Prop} {KX : St → Prop} (h : ∀ y : St, (∀ k, y.I k = x.I k) → (∀ k, k ≠ 26 → y.L k = x.L k) → (∀ k, k ≠ 4 → y.A k = x.A k) → (∀ c, c < 12 → y.A 4 (12 + 12 * (n - 1) + c) = (dwS n v0 T0 D0 N).2.2 c) → KX y) : ∃ k, wLX12_drawn_79 Post KX k (nI N, 0, x) := by
  refine it_rule (F := fun self z => wlX12_drawn_79 Post KX self z.1 z.2.1 z.2.2) (fun z => ∃ (i : Nat) (y : St), z = (nI N, nI i, y) ∧ i ≤ N ∧ (∀ k, y.I k = x.I k) ∧ (∀ k, k ≠ 26 → y.L k = x.L k) ∧ (∀ k, k ≠ 4 → y.A k = x.A k) ∧ y.L 26 = lN (dwS n v0 T0 D0 i).1 ∧ y.A 4 125 = nI (dwS n v0 T0 D0 i).2.1 ∧ ∀ c, c < 12 → y.A 4 (12 + 12 * (n - 1) + c) = (dwS n v0 T0 D0 i).2.2 c) (fun z => 20 - z.2.1.toNatClampNeg) ?_ _ ⟨0, x, rfl, by omega, fun _ => rfl, fun _ _ => rfl, fun _ _ => rfl, ev, eT, hD⟩
  rintro self z ⟨i, y, rfl, hi, b1, b2, b3, b4, b5, b6⟩ hself
  dsimp only at hself ⊢
  unfold wlX12_drawn_79
  have hvi := dwS_v (n := n) (T0 := T0) (D0 := D0) hv i
  have hTi := dwS_T (v0 := v0) (D0 := D0) hT i
  refine pk_le N i (fun hle => ?_) (fun hlt => ?_)
  · have e : i = N := by omega
    subst e
    exact h y b1 b2 b3 b6
  · refine m_draw (m := 6) b4 hvi (by omega) (by omega) (m_draw (m := 9) (v := nx (dwS n v0 T0 D0 i).1) (by rw [sL_L, if_pos rfl]) (nx_lt _) (by omega) (by omega) (fun q eq => m_draw (m := 4096) (v := nx (nx (dwS n v0 T0 D0 i).1)) (by rw [sL_L, if_pos rfl]) (nx_lt _) (by omega) (by omega) ?_))
    have hk : dr (nx (dwS n v0 T0 D0 i).1) 6 < 6 := Nat.mod_lt _ (by decide)
    have hce : dr (nx (nx (nx (dwS n v0 T0 D0 i).1))) 4096 < 4096 := Nat.mod_lt _ (by decide)
    rw [nI_1, Nat.add_comm] at eq
    subst eq
    rw [sL_sL, sL_sL]
    refine m_dentAll (x := y.sL 26 (lN (nx (nx (nx (dwS n v0 T0 D0 i).1))))) (n := n) (T := (dwS n v0 T0 D0 i).2.1) (by rw [sL_I, b1]; exact eI) hn b5 (by omega) hk hce ?_
    rw [sL_A, sL_I, b1]
    have hrem : (nI i - nI i / 3 * 3) = nI (i % 3) := pk_rem (d := 3) (by omega) (by decide) (by decide)
    rw [hrem]
    have far : rwS 12 12 6 1 (x.I 1) (dwS n v0 T0 D0 i).2.1 (dr (nx (dwS n v0 T0 D0 i).1) 6) (1 + dr (nx (nx (dwS n v0 T0 D0 i).1)) 9) (dr (nx (nx (nx (dwS n v0 T0 D0 i).1))) 4096) (inkR (dr (nx (dwS n v0 T0 D0 i).1) 6) (dr (nx (nx (nx (dwS n v0 T0 D0 i).1))) 4096) (dwS n v0 T0 D0 i).2.1 (y.A 4)) (n - (dwS n v0 T0 D0 i).2.1) 125 = nI (dwS n v0 T0 D0 i).2.1 := by
      rw [mS_far (by omega) _ (by omega), inkR_far (by omega)]; exact b5
    have dent : ∀ c, c < 12 → rwS 12 12 6 1 (x.I 1) (dwS n v0 T0 D0 i).2.1 (dr (nx (dwS n v0 T0 D0 i).1) 6) (1 + dr (nx (nx (dwS n v0 T0 D0 i).1)) 9) (dr (nx (nx (nx (dwS n v0 T0 D0 i).1))) 4096) (inkR (dr (nx (dwS n v0 T0 D0 i).1) 6) (dr (nx (nx (nx (dwS n v0 T0 D0 i).1))) 4096) (dwS n v0 T0 D0 i).2.1 (y.A 4)) (n - (dwS n v0 T0 D0 i).2.1) (12 + 12 * (n - 1) + c) = (dwS n v0 T0 D0 (i + 1)).2.2 c := fun c hc => by
      rw [mS_dent (by omega) hc _ (by omega), inkR_far (by omega), b6 c hc, dwS_s]
      dsimp only
      by_cases hq : (dr (nx (nx (nx (dwS n v0 T0 D0 i).1))) 4096).testBit c = true ∧ (dwS n v0 T0 D0 i).2.2 c < ftN (dr (nx (dwS n v0 T0 D0 i).1) 6) (1 + dr (nx (nx (dwS n v0 T0 D0 i).1)) 9) (n - 1 - (dwS n v0 T0 D0 i).2.1)
      · rw [if_pos hq, if_pos ⟨by omega, by omega, hq.1, hq.2⟩]
      · rw [if_neg hq, if_neg (fun w => hq ⟨w.2.2.1, w.2.2.2⟩)]
    generalize rwS 12 12 6 1 (x.I 1) (dwS n v0 T0 D0 i).2.1 (dr (nx (dwS n v0 T0 D0 i).1) 6) (1 + dr (nx (nx (dwS n v0 T0 D0 i).1)) 9) (dr (nx (nx (nx (dwS n v0 T0 D0 i).1))) 4096) (inkR (dr (nx (dwS n v0 T0 D0 i).1) 6) (dr (nx (nx (nx (dwS n v0 T0 D0 i).1))) 4096) (dwS n v0 T0 D0 i).2.1 (y.A 4)) (n - (dwS n v0 T0 D0 i).2.1) = R at far dent ⊢
    have eA : ((y.sL 26 (lN (nx (nx (nx (dwS n v0 T0 D0 i).1))))).sA 4 R).A 4 = R := rfl
    have eI' : ((y.sL 26 (lN (nx (nx (nx (dwS n v0 T0 D0 i).1))))).sA 4 R).I 0 = nI n := by rw [sA_I, sL_I, b1]; exact eI
    rw [eA, eI', far, nI_1]
    have eT' : (dwS n v0 T0 D0 (i + 1)).2.1 = if i % 3 = 2 ∧ (dwS n v0 T0 D0 i).2.1 + 1 < n then (dwS n v0 T0 D0 i).2.1 + 1 else (dwS n v0 T0 D0 i).2.1 := rfl
    have fin : ∀ z0 : Int32, nI (dwS n v0 T0 D0 i).2.1 + z0 = nI (dwS n v0 T0 D0 (i + 1)).2.1 → wjX12_drawn_153 Post self KX (nI N) (nI i) z0 (nI (dwS n v0 T0 D0 i).2.1) 125 ((y.sL 26 (lN (nx (nx (nx (dwS n v0 T0 D0 i).1))))).sA 4 R) := by
      intro z0 ez0
      unfold wjX12_drawn_153
      refine ⟨vp_in_nI (n := 125) (by omega) (by omega), fun p19 e19 z ez => ?_⟩
      subst ez
      rw [ez0, eA, sA_sA] at e19
      rw [nI_1]
      refine hself _ ⟨i + 1, p19, rfl, by omega, fun k => ?_, fun k hk => ?_, fun k hk => ?_, ?_, ?_, fun c hc => ?_⟩ (by dsimp only; rw [ncl (by omega), ncl (by omega)]; omega)
      · rw [e19, sA_I, sL_I]; exact b1 k
      · rw [e19, sA_L, sL_L, if_neg hk]; exact b2 k hk
      · rw [e19, sA_A, if_neg hk, sL_A]; exact b3 k hk
      · rw [e19]; rfl
      · rw [e19, sA_A, if_pos rfl]; exact upd_at
      · rw [e19, sA_A, if_pos rfl, show (125 : Int32).toNatClampNeg = 125 by decide, upd_ne (by omega)]; exact dent c hc
    refine ⟨fun q => fin 0 ?_, fun q => ⟨fun q2 => fin 0 ?_, fun q2 => fin 1 ?_⟩⟩
    · have : i % 3 ≠ 2 := fun w => q (by rw [w]; rfl)
      rw [eT', if_neg (by omega)]
      show nI _ + nI 0 = _
      rw [nI_add]; rfl
    · rw [nI_leI (by omega) (by omega)] at q2
      rw [eT', if_neg (by omega)]
      show nI _ + nI 0 = _
      rw [nI_add]; rfl
    · have q' : i % 3 = 2 := (nI_eq (b := 2) (by omega) (by decide)).mp q
      rw [nI_leI (by omega) (by omega)] at q2
      rw [eT', if_pos (by omega), nI_1]
theorem s_drawn {t : Nat → St} {x : St} (h : Rel t x) (x1 x2 : Int32) : SimI (wpX11_drawn x1 x2 t) (wpX12_drawn x1 x2 x) := by
  obtain ⟨n, w, u, e1, e2, e3, hc, g⟩ := h.1.got
  obtain ⟨q0, q1, q2, q3, q4, q5⟩ := g.nums
  have hcur := g.cur
  have hn6 := g.2.1
  have hn1 := g.1
  unfold SimI wpX11_drawn wjX11_drawn_20
  have MB : ¬ ((0 ≤ x1.toInt ∧ x1.toInt ≤ 999999) ∧ 0 ≤ x2.toInt ∧ x2.toInt ≤ 20) → ∀ {P : Int32 → St → Prop}, P (-2) (refX x 0) → wpX12_drawn x1 x2 x P := by
    intro hb P hP
    unfold wpX12_drawn wjX12_drawn_24 wpX12_bad
    exact in_rule 0 999999 (by decide) (by decide) (fun a b => b1e (in_rule 0 20 (by decide) (by decide) (fun c d => absurd ⟨⟨a, b⟩, c, d⟩ hb) (fun _ => b0n (m_ref0 hP)))) (fun _ => b0e (m_ref0 hP))
  refine v_gt 0 999999 (by decide) (by decide) (fun q => k_bad (MB (by omega) ⟨rfl, R_bad h⟩)) (fun a b => ?_)
  refine v_le 0 20 (by decide) (by decide) (fun q => k_bad (MB (by omega) ⟨rfl, R_bad h⟩)) (fun c d => ?_)
  clear MB
  have MG : ∀ {P : Int32 → St → Prop}, _ → wpX12_drawn x1 x2 x P := fun {P} hP => by
    unfold wpX12_drawn wjX12_drawn_24 wpX12_bad
    exact in_rule 0 999999 (by decide) (by decide) (fun _ _ => b1e (in_rule 0 20 (by decide) (by decide) (fun _ _ => b1n hP) (fun q => absurd q (by omega)))) (fun q => absurd q (by omega))
  obtain ⟨v0, rfl, hv, _⟩ := toNI a
  obtain ⟨N, rfl, hN, _⟩ := toNI c
  refine k_usedUp q0 g.2.2.1 (by omega) hn6 (fun hlt => b0e ?_) (fun hge => b1e (MG ⟨fun hne => absurd (by rw [q2, e1, show tN (x.A 4) = n by omega]) hne, fun _ => ⟨rfl, h⟩⟩))
  intro y ey
  rw [g.2.2.1, show nI n - 1 = nI (n - 1) from pk_sub (b := 1) hn1] at ey
  subst ey
  refine k_top ?_
  rw [q0]
  refine k_lastL (by omega) (fun D hD => ?_)
  intro y ey
  rw [nI_wide (by omega)] at ey
  subst ey
  have hD0 : ∀ c, c < 12 → D c = x.A 4 (12 + 12 * (n - 1) + c) := fun c hc => by
    rw [hD c hc, (hcur.1.2.2.1 (n - 1) (by omega)).2.2 c hc]
  refine k_drawnL (D0 := fun c => x.A 4 (12 + 12 * (n - 1) + c)) hn6 hlt (by omega) (by omega) hD0 (fun D' hD' => k_sumLast (t := upS t 0 ((t 0).sA 8 D')) (D := (dwS n v0 (tN (x.A 4)) (fun c => x.A 4 (12 + 12 * (n - 1) + c)) N).2.2) hD' ?_)
  refine MG ⟨fun _ => ?_, fun z => absurd ((nI_eq (by omega) (by omega)).mp (q2.symm.trans (z.trans e1))) (by omega)⟩
  refine m_asideL (fun x' a1 a2 a3 a4 => ?_)
  intro p10 e10
  rw [nI_wide (by omega)] at e10
  have p10A : ∀ k, p10.A k = x'.A k := fun k => by rw [e10]; rfl
  have p10I : ∀ k, p10.I k = x'.I k := fun k => by rw [e10]; rfl
  refine m_drawnL (v0 := v0) (N := N) (T0 := tN (x.A 4)) (D0 := fun c => x.A 4 (12 + 12 * (n - 1) + c)) hn1 hn6 (by rw [p10I, a1]; exact e1) hlt (by rw [p10A, a3 4 (by decide)]; exact q2) (by omega) (by rw [e10, sL_L, if_pos rfl]) (by omega) (fun c hc => by rw [p10A, a3 4 (by decide)]) (fun y b1 b2 b3 b4 => ?_)
  refine m_sumL (by rw [b1, p10I, a1]; exact e1) hn1 hn6 b4 (m_backL (fun z c1 c2 c3 c4 => ⟨rfl, ?_⟩))
  have zI : ∀ k, z.I k = x.I k := fun k => by rw [c1, b1, p10I, a1]
  have zA : ∀ k, k ≠ 4 → k ≠ 25 → z.A k = x.A k := fun k h1 h2 => by rw [c3 k h1, b3 k h1, p10A, a3 k h2]
  have z4 : ∀ i, i < 126 → z.A 4 i = x.A 4 i := fun i hi => by rw [c4 i hi, b3 25 (by decide), p10A, a4 i hi]
  have zL : ∀ k, k ≠ 26 → z.L k = x.L k := fun k hk => by rw [c2, b2 k hk, e10, sL_L, if_neg hk, a2]
  obtain ⟨hN2, hO, hT, hM⟩ := h
  refine ⟨⟨by rw [zI]; exact hc, n, w, u, by rw [zI]; exact e1, by rw [zI]; exact e2, by rw [zI]; exact e3, ?_⟩, ?_, ?_, ?_⟩
  · rw [zA 5 (by decide) (by decide), zA 2 (by decide) (by decide)]
    exact PadN_c rfl rfl rfl (fun _ _ => rfl) (fun _ _ => rfl) (fun _ _ => ⟨rfl, rfl, rfl, rfl⟩) (fun _ _ => rfl) (fun _ _ => rfl) z4 (fun _ _ => rfl) (fun _ _ => rfl) g
  · unfold ObjR at hO ⊢
    rw [zL 7 (by decide), zL 8 (by decide), zA 9 (by decide) (by decide)]; exact hO
  · unfold TxtR at hT ⊢
    rw [zI, zA 10 (by decide) (by decide)]; exact hT
  · unfold ImsR at hM ⊢
    rw [zA 27 (by decide) (by decide), zA 28 (by decide) (by decide)]; exact hM
end
section
/-! places in a row -/
def pos : List Nat → Nat → Nat
  | [], _ => 0
  | b :: r, a => if b = a then 0 else pos r a + 1
theorem pos_c (b : Nat) (r : List Nat) (a : Nat) : pos (b :: r) a = if b = a then 0 else pos r a + 1 := rfl
theorem pos_le (a : Nat) : ∀ L : List Nat, pos L a ≤ L.length
  | [] => Nat.le_refl _
  | b :: r => by
    have ih := pos_le a r
    rw [pos_c, List.length_cons]
    split <;> omega
theorem pos_mem (a : Nat) : ∀ L : List Nat, pos L a < L.length ↔ a ∈ L
  | [] => ⟨fun h => absurd h (Nat.not_lt_zero _), fun h => absurd h (List.not_mem_nil)⟩
  | b :: r => by
    have ih := pos_mem a r
    rw [pos_c, List.length_cons, List.mem_cons]
    by_cases h : b = a
    · rw [if_pos h]; exact ⟨fun _ => Or.inl h.symm, fun _ => by omega⟩
    · rw [if_neg h]
      constructor
      · intro q; exact Or.inr (ih.mp (by omega))
      · intro q
        rcases q with q | q
        · exact absurd q.symm h
        · have := ih.mpr q; omega
theorem pos_get (a : Nat) : ∀ L : List Nat, a ∈ L → L.getD (pos L a) 0 = a
  | [], h => absurd h (List.not_mem_nil)
  | b :: r, h => by
    rw [pos_c]
    by_cases hb : b = a
    · rw [if_pos hb]; exact hb
    · rw [if_neg hb]
      rcases List.mem_cons.mp h with q | q
      · exact absurd q.symm hb
      · exact pos_get a r q
theorem pos_ne (a : Nat) : ∀ (L : List Nat) (j : Nat), j < pos L a → L.getD j 0 ≠ a
  | [], j, h => absurd h (Nat.not_lt_zero _)
  | b :: r, j, h => by
    rw [pos_c] at h
    by_cases hb : b = a
    · rw [if_pos hb] at h; exact absurd h (Nat.not_lt_zero _)
    · rw [if_neg hb] at h
      cases j with
      | zero => exact hb
      | succ j => exact pos_ne a r j (by omega)
theorem pos_app (a : Nat) : ∀ L M : List Nat, pos (L ++ M) a = if a ∈ L then pos L a else L.length + pos M a
  | [], M => by rw [if_neg (List.not_mem_nil)]; simp
  | b :: r, M => by
    have ih := pos_app a r M
    rw [List.cons_append, pos_c, pos_c, List.length_cons]
    by_cases hb : b = a
    · rw [if_pos hb, if_pos hb, if_pos (by rw [hb]; exact List.mem_cons_self)]
    · rw [if_neg hb, if_neg hb, ih]
      by_cases hm : a ∈ r
      · rw [if_pos hm, if_pos (List.mem_cons_of_mem _ hm)]
      · rw [if_neg hm, if_neg (fun q => by
          rcases List.mem_cons.mp q with w | w
          · exact hb w.symm
          · exact hm w)]
        omega
theorem getD_app (L M : List Nat) {i : Nat} (h : i < L.length) : (L ++ M).getD i 0 = L.getD i 0 := by
  simp [List.getD, List.getElem?_append_left h]
/-! the forces there, by a row that is laid as far as a place -/
def frP (st : Nat → Int32) (L : List Nat) (p c k : Nat) : Nat := if pos L (onN st k) ≤ p ∧ (ceN st k).testBit c = true then foN (kN st k) (prN st k) (p - pos L (onN st k)) else 0
def mxP (st : Nat → Int32) (L : List Nat) (p c : Nat) : Nat → Nat
  | 0 => 0
  | k + 1 => max (mxP st L p c k) (frP st L p c k)
theorem mxP_s (st : Nat → Int32) (L : List Nat) (p c k : Nat) : mxP st L p c (k + 1) = max (mxP st L p c k) (frP st L p c k) := rfl
theorem mxP_ge (st : Nat → Int32) (L : List Nat) (p c q : Nat) (hq : 1 ≤ q) : ∀ m, q ≤ mxP st L p c m ↔ ∃ k, k < m ∧ q ≤ frP st L p c k
  | 0 => ⟨fun h => by have : mxP st L p c 0 = 0 := rfl
                      omega, fun ⟨k, h, _⟩ => absurd h (Nat.not_lt_zero k)⟩
  | m + 1 => by
    have ih := mxP_ge st L p c q hq m
    rw [mxP_s]
    constructor
    · intro h
      by_cases h1 : q ≤ mxP st L p c m
      · obtain ⟨k, hk, hk2⟩ := ih.mp h1
        exact ⟨k, by omega, hk2⟩
      · exact ⟨m, by omega, by omega⟩
    · rintro ⟨k, hk, hk2⟩
      by_cases hkm : k = m
      · subst hkm; omega
      · have := ih.mpr ⟨k, by omega, hk2⟩
        omega
def dnN (st : Nat → Int32) (s c : Nat) : Nat := (st (12 + 12 * s + c)).toNatClampNeg
/-- the sheet at a place fits -/
def okP (st : Nat → Int32) (L : List Nat) (p : Nat) : Bool := (List.range 12).all (fun c => decide (mxP st L p c (mN st) = dnN st (L.getD p 0) c))
theorem okP_iff (st : Nat → Int32) (L : List Nat) (p : Nat) : okP st L p = true ↔ ∀ c, c < 12 → mxP st L p c (mN st) = dnN st (L.getD p 0) c := by
  unfold okP
  rw [List.all_eq_true]
  constructor
  · intro h c hc; exact of_decide_eq_true (h c (List.mem_range.mpr hc))
  · intro h c hc; exact decide_eq_true (h c (List.mem_range.mp hc))
theorem frP_app (st : Nat → Int32) (L M : List Nat) {p c k : Nat} (hp : p < L.length) : frP st (L ++ M) p c k = frP st L p c k := by
  unfold frP
  rw [pos_app]
  by_cases hm : onN st k ∈ L
  · rw [if_pos hm]
  · rw [if_neg hm]
    have h1 : ¬ pos L (onN st k) < L.length := fun q => hm ((pos_mem _ _).mp q)
    rw [if_neg (fun q => by omega), if_neg (fun q => by omega)]
theorem mxP_app (st : Nat → Int32) (L M : List Nat) {p c : Nat} (hp : p < L.length) : ∀ m, mxP st (L ++ M) p c m = mxP st L p c m
  | 0 => rfl
  | m + 1 => by rw [mxP_s, mxP_s, mxP_app st L M hp m, frP_app st L M hp]
theorem okP_app (st : Nat → Int32) (L M : List Nat) {p : Nat} (hp : p < L.length) : okP st (L ++ M) p = okP st L p := by
  unfold okP
  rw [getD_app L M hp]
  congr 1
  funext c
  rw [mxP_app st L M hp]
/-! all rows, and how many fit -/
def enS (g : List Nat → List (List Nat)) (pre : List Nat) : Nat → List (List Nat)
  | 0 => []
  | s + 1 => enS g pre s ++ (if s ∈ pre then [] else g (pre ++ [s]))
def enD (n : Nat) : Nat → List Nat → List (List Nat)
  | 0, pre => [pre]
  | f + 1, pre => enS (enD n f) pre n
def cnS (st : Nat → Int32) (g : List Nat → Nat) (pre : List Nat) : Nat → Nat
  | 0 => 0
  | s + 1 => cnS st g pre s + (if s ∈ pre then 0 else if okP st (pre ++ [s]) pre.length = true then g (pre ++ [s]) else 0)
def cnD (st : Nat → Int32) (n : Nat) : Nat → List Nat → Nat
  | 0, _ => 1
  | f + 1, pre => cnS st (cnD st n f) pre n
theorem cnS_s (st : Nat → Int32) (g : List Nat → Nat) (pre : List Nat) (s : Nat) : cnS st g pre (s + 1) = cnS st g pre s + (if s ∈ pre then 0 else if okP st (pre ++ [s]) pre.length = true then g (pre ++ [s]) else 0) := rfl
theorem cnD_s (st : Nat → Int32) (n f : Nat) (pre : List Nat) : cnD st n (f + 1) pre = cnS st (cnD st n f) pre n := rfl
theorem cnS_mono (st : Nat → Int32) (g : List Nat → Nat) (pre : List Nat) (a : Nat) : ∀ d, cnS st g pre a ≤ cnS st g pre (a + d)
  | 0 => Nat.le_refl _
  | d + 1 => by
    have := cnS_mono st g pre a d
    rw [show a + (d + 1) = a + d + 1 by omega, cnS_s]; omega
def fitB2 (st : Nat → Int32) (L : List Nat) : Nat → Bool
  | 0 => true
  | p + 1 => fitB2 st L p && okP st L p
theorem fitB2_s (st : Nat → Int32) (L : List Nat) (p : Nat) : fitB2 st L (p + 1) = (fitB2 st L p && okP st L p) := rfl
theorem fitB2_iff (st : Nat → Int32) (L : List Nat) : ∀ n, fitB2 st L n = true ↔ ∀ p, p < n → okP st L p = true
  | 0 => ⟨fun _ p hp => absurd hp (Nat.not_lt_zero p), fun _ => rfl⟩
  | n + 1 => by
    have ih := fitB2_iff st L n
    rw [fitB2_s, Bool.and_eq_true, ih]
    constructor
    · rintro ⟨h1, h2⟩ p hp
      by_cases hpn : p = n
      · subst hpn; exact h2
      · exact h1 p (by omega)
    · intro h; exact ⟨fun p hp => h p (by omega), h n (by omega)⟩
theorem fitB2_app (st : Nat → Int32) (L M : List Nat) : ∀ n, n ≤ L.length → fitB2 st (L ++ M) n = fitB2 st L n
  | 0, _ => rfl
  | n + 1, h => by rw [fitB2_s, fitB2_s, fitB2_app st L M n (by omega), okP_app st L M (by omega)]
theorem cnt_all (st : Nat → Int32) (n : Nat) : ∀ (f : Nat) (pre : List Nat), pre.length + f = n → (enD n f pre).countP (fun L => fitB2 st L n) = if fitB2 st pre pre.length = true then cnD st n f pre else 0
  | 0, pre, h => by
    have e : pre.length = n := by omega
    show List.countP _ [pre] = _
    rw [e]
    by_cases hf : fitB2 st pre n = true
    · rw [if_pos hf]; simp [hf, cnD]
    · rw [if_neg hf]; simp [hf]
  | f + 1, pre, h => by
    have key : ∀ s, (enS (enD n f) pre s).countP (fun L => fitB2 st L n) = if fitB2 st pre pre.length = true then cnS st (cnD st n f) pre s else 0 := by
      intro s
      induction s with
      | zero => 
        show List.countP _ [] = _
        split <;> rfl
      | succ s ih =>
        show List.countP _ (enS (enD n f) pre s ++ _) = _
        rw [List.countP_append, ih, cnS_s]
        by_cases hm : s ∈ pre
        · rw [if_pos hm, if_pos hm]; rfl
        · rw [if_neg hm, if_neg hm, cnt_all st n f (pre ++ [s]) (by rw [List.length_append]; simp; omega)]
          have e1 : (pre ++ [s]).length = pre.length + 1 := by simp
          rw [e1, fitB2_s, fitB2_app st pre [s] pre.length (Nat.le_refl _)]
          by_cases hf : fitB2 st pre pre.length = true
          · rw [if_pos hf, if_pos hf, hf, Bool.true_and]
          · rw [if_neg hf, if_neg hf, if_neg (fun q => hf (by rw [Bool.and_eq_true] at q; exact q.1))]
    exact key n
/-! the next row -/
def fI (g : Nat → Nat) : Nat → Nat
  | 0 => 0
  | i + 1 => if g i ≤ g (i + 1) then i + 1 else fI g i
def fJ (g : Nat → Nat) (i : Nat) : Nat → Nat
  | 0 => 0
  | j + 1 => if g i ≤ g (j + 1) then j + 1 else fJ g i j
def swp (g : Nat → Nat) (i j : Nat) : Nat → Nat := fun k => if k = j then g i else if k = i then g j else g k
def rvF : Nat → Nat → Nat → (Nat → Nat) → (Nat → Nat)
  | 0, _, _, g => g
  | f + 1, lo, hi, g => if hi ≤ lo then g else rvF f (lo + 1) (hi - 1) (swp g lo hi)
def nxF (n : Nat) (g : Nat → Nat) : Nat → Nat := rvF n (fI g (n - 1)) (n - 1) (swp g (fI g (n - 1) - 1) (fJ g (fI g (n - 1) - 1) (n - 1)))
def gL (L : List Nat) : Nat → Nat := fun k => L.getD k 0
def eqN (f g : Nat → Nat) : Nat → Bool
  | 0 => true
  | n + 1 => eqN f g n && (f n == g n)
theorem eqN_iff (f g : Nat → Nat) : ∀ n, eqN f g n = true → ∀ k, k < n → f k = g k
  | 0, _, k, hk => absurd hk (Nat.not_lt_zero k)
  | n + 1, h, k, hk => by
    have h' : (eqN f g n && (f n == g n)) = true := h
    rw [Bool.and_eq_true] at h'
    by_cases hkn : k = n
    · subst hkn; exact eq_of_beq h'.2
    · exact eqN_iff f g n h'.1 k (by omega)
def chk (n : Nat) : List (List Nat) → Bool
  | [] => true
  | a :: r => (match r with
    | [] => fI (gL a) (n - 1) == 0
    | b :: _ => (Nat.blt 0 (fI (gL a) (n - 1))) && eqN (nxF n (gL a)) (gL b) n) && chk n r
def good (n : Nat) (L : List Nat) : Bool := (L.length == n) && (List.range n).all (fun s => L.contains s) && L.all (fun s => Nat.blt s n)
theorem enD_ok : ∀ n, n < 7 → 0 < n → chk n (enD n n []) = true ∧ (enD n n []).all (good n) = true ∧ (enD n n []).length ≤ 720 ∧ (enD n n []).head? = some (List.range n) := by decide +kernel
end
section
def fP (st : Nat → Int32) (L : List Nat) (p k : Nat) : Nat := if pos L (onN st k) ≤ p then foN (kN st k) (prN st k) (p - pos L (onN st k)) else 0
theorem frP_eq (st : Nat → Int32) (L : List Nat) (p c k : Nat) : frP st L p c k = if (ceN st k).testBit c = true then fP st L p k else 0 := by
  unfold frP fP
  by_cases h1 : pos L (onN st k) ≤ p <;> by_cases h2 : (ceN st k).testBit c = true <;> simp [h1, h2]
theorem fP_le {st : Nat → Int32} {n k p : Nat} (L : List Nat) (g : GN st n k) (hp : p < 6) : fP st L p k ≤ 9 := by
  obtain ⟨g1, g2, g3, g4, g5, g6, g7, g8, g9, g10⟩ := g
  unfold fP
  split
  · exact (fo_all _ g2 _ (by omega) _ (by omega)).2
  · omega
theorem frP_le {st : Nat → Int32} {n k p c : Nat} (L : List Nat) (g : GN st n k) (hp : p < 6) : frP st L p c k ≤ 9 := by
  rw [frP_eq]
  have := fP_le L g hp
  split <;> omega
theorem mxP_le {st : Nat → Int32} {n p c : Nat} (L : List Nat) (hW : WF st n) (hp : p < 6) : ∀ m, m ≤ mN st → mxP st L p c m ≤ 9
  | 0, _ => by show (0 : Nat) ≤ 9; omega
  | m + 1, h => by
    have ih := mxP_le (c := c) L hW hp m (by omega)
    have h2 := frP_le (c := c) L (hW.2.2.2.2.1 m (by omega)) hp
    rw [mxP_s]; omega
theorem dnN_ok {st : Nat → Int32} {n s c : Nat} (hW : WF st n) (hn : n ≤ 6) (hs : s < n) (hc : c < 12) : st (12 + 12 * s + c) = nI (dnN st s c) ∧ dnN st s c ≤ 9 := by
  have hT := exN_T (K := 0) (c := c) hW (show s < 6 by omega) (mN st) (Nat.le_refl _)
  unfold dnN
  rw [hW.2.2.2.2.2 s hs c hc]
  obtain ⟨j, ej, hj, _⟩ := toNI (show 0 ≤ (mx st s c (mN st)).toInt by omega)
  rw [ej, ncl (by omega)]
  exact ⟨rfl, by omega⟩
def A2ok (a2 st : Nat → Int32) (n : Nat) : Prop := ∀ s, s < n → ∀ q, 1 ≤ q → q ≤ 9 → a2 (10 * s + q) = bitsN (fun c => decide (¬ st (12 + 12 * s + c) < nI q)) 12
theorem k_clearL {q p : St} {a b c : Int32} {Post : Int32 → St → Prop} {KX : Int32 → Int32 → Int32 → St → Prop} (h : ∀ y : St, (∀ k, y.I k = p.I k) → (∀ k, k ≠ 3 → y.A k = p.A k) → (∀ v, 1 ≤ v → v ≤ 9 → y.A 3 v = 0) → KX a b c y) : ∃ n, wLX8_mayLie_3 q Post KX n (a, b, c, 1, p) := by
  refine it_rule (F := fun self z => wlX8_mayLie_3 q Post KX self z.1 z.2.1 z.2.2.1 z.2.2.2.1 z.2.2.2.2) (fun z => ∃ (i : Nat) (y : St), z = (a, b, c, nI i, y) ∧ 1 ≤ i ∧ i ≤ 10 ∧ (∀ k, y.I k = p.I k) ∧ (∀ k, k ≠ 3 → y.A k = p.A k) ∧ ∀ v, 1 ≤ v → v < i → y.A 3 v = 0) (fun z => 10 - z.2.2.2.1.toNatClampNeg) ?_ _ ⟨1, p, rfl, by omega, by omega, fun _ => rfl, fun _ _ => rfl, fun v h1 h2 => by omega⟩
  rintro self z ⟨i, y, rfl, h1, hi, a1, a2, a3⟩ hself
  dsimp only at hself ⊢
  unfold wlX8_mayLie_3
  refine pk_le 10 i (fun hle => ?_) (fun hlt => ⟨vp_in_nI (by omega) (by omega), fun y' ey z ez => ?_⟩)
  · exact h y a1 a2 (fun v v1 v2 => a3 v v1 (by omega))
  · rw [ncl (by omega)] at ey
    subst ey; subst ez
    rw [nI_1]
    refine hself _ ⟨i + 1, _, rfl, by omega, by omega, a1, fun k hk => ?_, fun v v1 v2 => ?_⟩ (by dsimp only; rw [ncl (by omega), ncl (by omega)]; omega)
    · rw [sA_A, if_neg hk]; exact a2 k hk
    · show upd (y.A 3) i 0 v = 0
      by_cases hv : v = i
      · subst hv; exact upd_at
      · rw [upd_ne hv]; exact a3 v v1 (by omega)
theorem k_pressedL {q p : St} {st : Nat → Int32} {n s P M : Nat} {L : List Nat} (hR : RP (q.A 0) q st) (hW : WF st n) (hn : n ≤ 6) (hP : P < n) (hL : L.length = P + 1) (hM : M < 2 ^ 31) (hMb : ∀ a, a < n → (M.testBit a = true ↔ a ∈ L)) (hA1 : ∀ a, a ∈ L → p.A 1 a = nI (pos L a)) (h0 : ∀ v, 1 ≤ v → v ≤ 9 → p.A 3 v = 0) {Post : Int32 → St → Prop} {KX : Int32 → St → Prop} (h : ∀ y : St, (∀ k, y.I k = p.I k) → (∀ k, k ≠ 3 → y.A k = p.A k) → (∀ v, 1 ≤ v → v ≤ 9 → ∀ b, b < 32 → (bt (y.A 3 v) b = true ↔ ∃ j, j < mN st ∧ fP st L P j = v ∧ (ceN st j).testBit b = true)) → KX (nI s) y) : ∃ k, wLX8_mayLie_27 q Post KX k (nI s, nI P, nI M, 0, p) := by
  have hm10 := hW.2.2.2.1
  have em : q.A 0 1 = nI (mN st) := hR.2.1.trans hW.2.2.1
  refine it_rule (F := fun self z => wlX8_mayLie_27 q Post KX self z.1 z.2.1 z.2.2.1 z.2.2.2.1 z.2.2.2.2) (fun z => ∃ (k : Nat) (y : St), z = (nI s, nI P, nI M, nI k, y) ∧ k ≤ mN st ∧ (∀ k, y.I k = p.I k) ∧ (∀ k, k ≠ 3 → y.A k = p.A k) ∧ ∀ v, 1 ≤ v → v ≤ 9 → ∀ b, b < 32 → (bt (y.A 3 v) b = true ↔ ∃ j, j < k ∧ fP st L P j = v ∧ (ceN st j).testBit b = true)) (fun z => 10 - z.2.2.2.1.toNatClampNeg) ?_ _ ⟨0, p, rfl, by omega, fun _ => rfl, fun _ _ => rfl, fun v v1 v2 b hb => ?_⟩
  · rintro self z ⟨k, y, rfl, hk, a1, a2, a3⟩ hself
    dsimp only at hself ⊢
    unfold wlX8_mayLie_27
    refine k_noteCount ?_
    rw [em]
    refine pk_le (mN st) k (fun hle => ?_) (fun hlt => ⟨vp_in_nI (by omega) (by omega), fun r er => ?_⟩)
    · have e : k = mN st := by omega
      subst e
      exact h y a1 a2 a3
    · have g := hW.2.2.2.2.1 k hlt
      have g' := g
      obtain ⟨g1, g2, g3, g4, g5, g6, g7, g8, g9, g10⟩ := g'
      obtain ⟨r1, r2, r3, r4, r5⟩ := hR.2.2.2 k hlt
      rw [ncl (by omega), r4, g8] at er
      subst er
      have hon : onN st k < 6 := by omega
      rw [has_0 hM (by omega)]
      have hfP9 := fP_le L g (show P < 6 by omega)
      refine ⟨fun hb z ez => ?_, fun hb => ?_⟩
      · subst ez
        rw [nI_1]
        have hnm : onN st k ∉ L := fun w => by rw [(hMb _ g9).mpr w] at hb; exact absurd hb (by decide)
        have hf0 : fP st L P k = 0 := by
          unfold fP
          have : ¬ pos L (onN st k) < L.length := fun w => hnm ((pos_mem _ _).mp w)
          rw [if_neg (by omega)]
        refine hself _ ⟨k + 1, y, rfl, by omega, a1, a2, fun v v1 v2 b hb2 => ?_⟩ (by dsimp only; rw [ncl (by omega), ncl (by omega)]; omega)
        rw [a3 v v1 v2 b hb2]
        constructor
        · rintro ⟨j, h1, h2, h3⟩; exact ⟨j, by omega, h2, h3⟩
        · rintro ⟨j, h1, h2, h3⟩
          by_cases hjk : j = k
          · subst hjk; omega
          · exact ⟨j, by omega, h2, h3⟩
      · have hmem : onN st k ∈ L := (hMb _ g9).mp (by simpa using hb)
        have hpos := (pos_mem _ _).mpr hmem
        refine ⟨vp_in_nI (by omega) (by omega), ?_⟩
        rw [ncl (by omega), a2 1 (by decide), hA1 _ hmem, pk_sub (by omega)]
        have hfP : fP st L P k = foN (kN st k) (prN st k) (P - pos L (onN st k)) := by
          unfold fP; rw [if_pos (by omega)]
        have e : (nI k * 6 + nI (P - pos L (onN st k))) = nI (6 * k + (P - pos L (onN st k))) := by
          show nI k * nI 6 + _ = _
          rw [pk_mul, nI_add]; congr 1; omega
        unfold wpX4_forceDown
        refine ⟨fun z => absurd z (nI_pos (by omega)), fun _ => ⟨fun _ => ?_, fun z => absurd (nI_lt (a := P - pos L (onN st k)) (b := 6) (by omega) (by decide)) z⟩⟩
        rw [e, ncl (n := 6 * k + (P - pos L (onN st k))) (by omega), r5 _ (by omega), g1, g3, (fo_all _ g2 _ (by omega) _ (by omega)).1, ← hfP]
        refine ⟨vp_in_nI (by omega) (by omega), vp_in_nI (by omega) (by omega), vp_in_nI (by omega) (by omega), vp_in_nI (by omega) (by omega), fun y' ey z ez => ?_⟩
        rw [ncl (by omega), ncl (by omega), r3, g6] at ey
        subst ez
        rw [nI_1]
        refine hself _ ⟨k + 1, y', rfl, by omega, fun j => by rw [ey]; exact a1 j, fun j hj => by rw [ey, sA_A, if_neg hj]; exact a2 j hj, fun v v1 v2 b hb2 => ?_⟩ (by dsimp only; rw [ncl (by omega), ncl (by omega)]; omega)
        have e3 : y'.A 3 v = if v = fP st L P k then y.A 3 v ||| nI (ceN st k) else y.A 3 v := by
          rw [ey, sA_A, if_pos rfl]
          by_cases hv : v = fP st L P k
          · rw [if_pos hv, hv, upd_at]
          · rw [if_neg hv, upd_ne hv]
        rw [e3]
        by_cases hv : v = fP st L P k
        · rw [if_pos hv, b_or, Bool.or_eq_true, a3 v v1 v2 b hb2, bt_nI hb2]
          constructor
          · rintro (⟨j, h1, h2, h3⟩ | h3)
            · exact ⟨j, by omega, h2, h3⟩
            · exact ⟨k, by omega, hv.symm, h3⟩
          · rintro ⟨j, h1, h2, h3⟩
            by_cases hjk : j = k
            · subst hjk; exact Or.inr h3
            · exact Or.inl ⟨j, by omega, h2, h3⟩
        · rw [if_neg hv, a3 v v1 v2 b hb2]
          constructor
          · rintro ⟨j, h1, h2, h3⟩; exact ⟨j, by omega, h2, h3⟩
          · rintro ⟨j, h1, h2, h3⟩
            by_cases hjk : j = k
            · subst hjk; exact absurd h2.symm hv
            · exact ⟨j, by omega, h2, h3⟩
  · rw [h0 v v1 v2, b_0]
    exact ⟨fun w => absurd w (by decide), fun ⟨j, w, _⟩ => absurd w (Nat.not_lt_zero j)⟩
theorem k_compareL {q p : St} {st : Nat → Int32} {n s P : Nat} {L : List Nat} (hW : WF st n) (hn : n ≤ 6) (hs : s < n) (hP : P < n) (hg : L.getD P 0 = s) (h2 : A2ok (p.A 2) st n) (h3 : ∀ v, 1 ≤ v → v ≤ 9 → ∀ b, b < 32 → (bt (p.A 3 v) b = true ↔ ∃ j, j < mN st ∧ fP st L P j = v ∧ (ceN st j).testBit b = true)) {Post : Int32 → St → Prop} {KX : St → Prop} (hy : okP st L P = true → KX p) (hno : okP st L P = false → Post 0 p) : ∃ k, wLX8_mayLie_98 q Post KX k (nI s, 0, 9, p) := by
  have hce : ∀ j, j < mN st → ∀ b, 12 ≤ b → (ceN st j).testBit b = false := fun j hj b hb => by
    have h1 := (hW.2.2.2.2.1 j hj).2.2.2.2.2.2.1
    exact (lt_bits (n := 12)).mp (by omega) b hb
  have hmx : ∀ i c, 1 ≤ i → (i ≤ mxP st L P c (mN st) ↔ ∃ j, j < mN st ∧ i ≤ fP st L P j ∧ (ceN st j).testBit c = true) := fun i c hi => by
    rw [mxP_ge st L P c i hi]
    constructor
    · rintro ⟨j, hj, h⟩
      rw [frP_eq] at h
      by_cases hb : (ceN st j).testBit c = true
      · rw [if_pos hb] at h; exact ⟨j, hj, h, hb⟩
      · rw [if_neg hb] at h; omega
    · rintro ⟨j, hj, h, hb⟩
      exact ⟨j, hj, by rw [frP_eq, if_pos hb]; exact h⟩
  refine it_rule (F := fun self z => wlX8_mayLie_98 q Post KX self z.1 z.2.1 z.2.2.1 z.2.2.2) (fun z => ∃ (i : Nat) (v : Int32), z = (nI s, v, nI i, p) ∧ i ≤ 9 ∧ (∀ b, b < 32 → (bt v b = true ↔ ∃ j, j < mN st ∧ i < fP st L P j ∧ (ceN st j).testBit b = true)) ∧ ∀ w, i < w → w ≤ 9 → ∀ c, c < 12 → (w ≤ mxP st L P c (mN st) ↔ w ≤ dnN st s c)) (fun z => z.2.2.1.toNatClampNeg) ?_ _ ⟨9, 0, rfl, by omega, fun b hb => ?_, fun w w1 w2 => by omega⟩
  · rintro self z ⟨i, v, rfl, hi, a1, a2⟩ hself
    dsimp only at hself ⊢
    unfold wlX8_mayLie_98
    refine pk_lt i 1 (fun hlt => hy ?_) (fun hge => ⟨vp_in_nI (by omega) (by omega), fun v' ev => ?_⟩)
    · rw [okP_iff, hg]
      intro c hc
      have h9 := mxP_le (c := c) L hW (show P < 6 by omega) (mN st) (Nat.le_refl _)
      have hd9 := (dnN_ok hW hn hs hc).2
      rcases Nat.lt_trichotomy (mxP st L P c (mN st)) (dnN st s c) with h | h | h
      · have := (a2 (dnN st s c) (by omega) (by omega) c hc).mpr (Nat.le_refl _); omega
      · exact h
      · have := (a2 (mxP st L P c (mN st)) (by omega) (by omega) c hc).mp (Nat.le_refl _); omega
    · rw [ncl (by omega)] at ev
      have e10 : nI s * 10 + nI i = nI (10 * s + i) := by
        show nI s * nI 10 + _ = _
        rw [pk_mul, nI_add]; congr 1; omega
      have hv' : ∀ b, b < 32 → (bt v' b = true ↔ ∃ j, j < mN st ∧ i ≤ fP st L P j ∧ (ceN st j).testBit b = true) := fun b hb => by
        rw [ev, b_or, Bool.or_eq_true, a1 b hb, h3 i hge hi b hb]
        constructor
        · rintro (⟨j, g1, g2, g3⟩ | ⟨j, g1, g2, g3⟩)
          · exact ⟨j, g1, by omega, g3⟩
          · exact ⟨j, g1, by omega, g3⟩
        · rintro ⟨j, g1, g2, g3⟩
          by_cases he : fP st L P j = i
          · exact Or.inr ⟨j, g1, he, g3⟩
          · exact Or.inl ⟨j, g1, by omega, g3⟩
      rw [e10, ncl (by omega), h2 s hs i hge hi]
      have hbn : ∀ b, b < 32 → (bt (bitsN (fun c => decide (¬ st (12 + 12 * s + c) < nI i)) 12) b = true ↔ b < 12 ∧ i ≤ dnN st s b) := fun b hb => by
        rw [bt_bitsN _ 12 (by omega) b hb, Bool.and_eq_true, decide_eq_true_eq, decide_eq_true_eq]
        constructor
        · rintro ⟨g1, g2⟩
          have hd := dnN_ok hW hn hs g1
          rw [hd.1, nI_ltI (by omega) (by omega)] at g2
          exact ⟨g1, by omega⟩
        · rintro ⟨g1, g2⟩
          have hd := dnN_ok hW hn hs g1
          rw [hd.1, nI_ltI (by omega) (by omega)]
          exact ⟨g1, by omega⟩
      refine ⟨vp_in_nI (by omega) (by omega), fun he z ez => ?_, fun hne => hno ?_⟩
      · subst ez
        rw [show nI i + (-1) = nI (i - 1) by
          obtain ⟨j, rfl⟩ : ∃ j, i = j + 1 := ⟨i - 1, by omega⟩
          rw [show j + 1 - 1 = j by omega]
          exact pk_m1 j]
        refine hself _ ⟨i - 1, v', rfl, by omega, fun b hb => ?_, fun w w1 w2 c hc => ?_⟩ (by dsimp only; rw [ncl (by omega), ncl (by omega)]; omega)
        · rw [hv' b hb]
          constructor
          · rintro ⟨j, g1, g2, g3⟩; exact ⟨j, g1, by omega, g3⟩
          · rintro ⟨j, g1, g2, g3⟩; exact ⟨j, g1, by omega, g3⟩
        · by_cases hwi : w = i
          · subst hwi
            rw [hmx w c hge, ← hv' c (by omega), he, hbn c (by omega)]
            exact ⟨fun g => g.2, fun g => ⟨hc, g⟩⟩
          · exact a2 w (by omega) w2 c hc
      · refine Bool.eq_false_iff.mpr (fun hok => hne (b_ext fun b hb => ?_))
        rw [okP_iff, hg] at hok
        rw [Bool.eq_iff_iff, hv' b hb, hbn b hb]
        constructor
        · rintro ⟨j, g1, g2, g3⟩
          have hb12 : b < 12 := by
            refine Nat.lt_of_not_le fun w => ?_
            rw [hce j g1 b w] at g3; exact absurd g3 (by decide)
          exact ⟨hb12, by rw [← hok b hb12]; exact (hmx i b hge).mpr ⟨j, g1, g2, g3⟩⟩
        · rintro ⟨g1, g2⟩
          exact (hmx i b hge).mp (by rw [hok b g1]; exact g2)
  · rw [b_0]
    refine ⟨fun w => absurd w (by decide), fun ⟨j, g1, g2, _⟩ => ?_⟩
    have := fP_le L (hW.2.2.2.2.1 j g1) (show P < 6 by omega)
    omega
theorem k_mayLie {q p : St} {st : Nat → Int32} {n s P M : Nat} {L : List Nat} (hR : RP (q.A 0) q st) (hW : WF st n) (hn : n ≤ 6) (hs : s < n) (hP : P < n) (hL : L.length = P + 1) (hg : L.getD P 0 = s) (hM : M < 2 ^ 31) (hMb : ∀ a, a < n → (M.testBit a = true ↔ a ∈ L)) (hA1 : ∀ a, a ∈ L → p.A 1 a = nI (pos L a)) (h2 : A2ok (p.A 2) st n) {Post : Int32 → St → Prop} (hy : okP st L P = true → ∀ y : St, (∀ k, y.I k = p.I k) → (∀ k, k ≠ 3 → y.A k = p.A k) → Post 1 y) (hno : okP st L P = false → ∀ y : St, (∀ k, y.I k = p.I k) → (∀ k, k ≠ 3 → y.A k = p.A k) → Post 0 y) : wpX8_mayLie (nI s) (nI P) (nI M) p q Post := by
  refine k_clearL (fun y a1 a2 a3 => ?_)
  refine k_pressedL hR hW hn hP hL hM hMb (fun a ha => by rw [a2 1 (by decide)]; exact hA1 a ha) a3 (fun z b1 b2 b3 => ?_)
  refine k_compareL hW hn hs hP hg (by rw [b2 2 (by decide), a2 2 (by decide)]; exact h2) b3 (fun ok => hy ok z (fun k => (b1 k).trans (a1 k)) (fun k hk => (b2 k hk).trans (a2 k hk))) (fun ok => hno ok z (fun k => (b1 k).trans (a1 k)) (fun k hk => (b2 k hk).trans (a2 k hk)))
end
section
theorem sh_or {M s : Nat} (hs : s < 31) : nI M ||| ((1 : Int32) <<< (nI s &&& 31)) = nI (M ||| 2 ^ s) := by rw [shl1 s hs, fa_or]
theorem tb_or (M s a : Nat) : (M ||| 2 ^ s).testBit a = (M.testBit a || decide (s = a)) := by
  rw [Nat.testBit_or, Nat.testBit_two_pow]
theorem or_lt {M s n : Nat} (hM : M < 2 ^ n) (hs : s < n) : M ||| 2 ^ s < 2 ^ n := Nat.or_lt_two_pow hM (Nat.pow_lt_pow_right (by decide) hs)
/-- the row laid so far -/
def Laid (p : St) (pre : List Nat) (M n : Nat) : Prop := M < 2 ^ 6 ∧ (∀ a, a < n → (M.testBit a = true ↔ a ∈ pre)) ∧ ∀ a, a ∈ pre → p.A 1 a = nI (pos pre a)
theorem Laid_put {p : St} {pre : List Nat} {M n s : Nat} (h : Laid p pre M n) (hn : n ≤ 6) (hs : s < n) (hm : s ∉ pre) {y : St} (hy : y.A 1 = upd (p.A 1) s (nI pre.length)) : Laid y (pre ++ [s]) (M ||| 2 ^ s) n := by
  obtain ⟨h1, h2, h3⟩ := h
  refine ⟨or_lt h1 (by omega), fun a ha => ?_, fun a ha => ?_⟩
  · rw [tb_or, Bool.or_eq_true, decide_eq_true_eq, h2 a ha, List.mem_append, List.mem_singleton]
    exact ⟨fun q => q.imp_right (fun w => w.symm), fun q => q.imp_right (fun w => w.symm)⟩
  · rw [hy, pos_app]
    by_cases hap : a ∈ pre
    · have hne : a ≠ s := fun w => hm (by rw [← w]; exact hap)
      rw [if_pos hap, upd_ne hne]; exact h3 a hap
    · rw [if_neg hap]
      have : a = s := by
        rcases List.mem_append.mp ha with w | w
        · exact absurd w hap
        · exact List.mem_singleton.mp w
      subst this
      rw [upd_at]
      congr 1
      show _ = _ + (if a = a then 0 else _)
      rw [if_pos rfl]; rfl
theorem Laid_le {p p' : St} {pre : List Nat} {M n : Nat} (h : Laid p pre M n) (hA : ∀ a, a ∈ pre → p'.A 1 a = p.A 1 a) : Laid p' pre M n := ⟨h.1, h.2.1, fun a ha => (hA a ha).trans (h.2.2 a ha)⟩
theorem k_lay {q : St} {st : Nat → Int32} {n : Nat} (hR : RP (q.A 0) q st) (hW : WF st n) (hn : n ≤ 6) (eI : q.I 3 = nI n) (e : Nat) : ∀ (f : Nat) (pre : List Nat) (p : St) (M F : Nat), pre.length + f = n → Laid p pre M n → A2ok (p.A 2) st n → p.I 4 = nI F → F + cnD st n f pre ≤ 720 → ∀ {Post : St → Prop}, (∀ p' : St, p'.I 4 = nI (F + cnD st n f pre) → p'.A 2 = p.A 2 → (∀ a, a ∈ pre → p'.A 1 a = p.A 1 a) → Post p') → wpX8_layFrom (f + 1 + e) (nI pre.length) (nI M) (nI 720) p q Post := by
  intro f
  induction f with
  | zero =>
    intro pre p M F hlen hL h2 hF hle Post h
    rw [show 0 + 1 + e = e + 1 by omega]
    show wbX8_layFrom (wpX8_layFrom e) _ _ _ _ _ _
    unfold wbX8_layFrom wjX8_layFrom_14
    rw [eI]
    have el : pre.length = n := by omega
    rw [el]
    refine ⟨fun _ p1 e1 => ?_, fun z => absurd (nI_le (Nat.le_refl n) (by omega)) z⟩
    subst e1
    refine h _ ?_ rfl (fun _ _ => rfl)
    rw [sI_I, if_pos rfl, hF]; exact nI_1 F
  | succ f ih =>
    intro pre p M F hlen hL h2 hF hle Post h
    rw [show f + 1 + 1 + e = (f + 1 + e) + 1 by omega]
    show wbX8_layFrom (wpX8_layFrom (f + 1 + e)) _ _ _ _ _ _
    unfold wbX8_layFrom
    rw [eI]
    refine ⟨fun z => absurd z (nI_ge (by omega) (by omega)), fun _ => ⟨fun _ => ?_, fun z => absurd (nI_lt (a := pre.length) (b := 6) (by omega) (by omega)) z⟩⟩
    rw [cnD_s] at hle h
    refine it_rule (F := fun self z => wlX8_layFrom_28 (wpX8_layFrom (f + 1 + e)) q Post _ self z.1 z.2.1 z.2.2.1 z.2.2.2.1 z.2.2.2.2) (fun z => ∃ (s : Nat) (y : St), z = (nI pre.length, nI M, nI 720, nI s, y) ∧ s ≤ n ∧ y.I 4 = nI (F + cnS st (cnD st n f) pre s) ∧ y.A 2 = p.A 2 ∧ ∀ a, a ∈ pre → y.A 1 a = p.A 1 a) (fun z => 6 - z.2.2.2.1.toNatClampNeg) ?_ _ ⟨0, p, rfl, by omega, hF, rfl, fun _ _ => rfl⟩
    rintro self z ⟨s, y, rfl, hs, a1, a2, a3⟩ hself
    dsimp only at hself ⊢
    unfold wlX8_layFrom_28
    rw [eI, a1]
    have hmono := cnS_mono st (cnD st n f) pre s (n - s)
    rw [show s + (n - s) = n by omega] at hmono
    refine pk_le n s (fun hge => ?_) (fun hlt => pk_le 720 (F + cnS st (cnD st n f) pre s) (fun h720 => ?_) (fun h720 => ?_))
    · have es : s = n := by omega
      subst es
      exact h y a1 a2 a3
    · refine h y ?_ a2 a3
      rw [a1]; congr 1; omega
    · have hM31 : M < 2 ^ 31 := Nat.lt_of_lt_of_le hL.1 (by decide)
      refine ⟨fun hb z ez => ?_, fun hb => ?_⟩
      · rw [has_0 hM31 (by omega)] at hb
        subst ez
        rw [nI_1]
        have hmem : s ∈ pre := (hL.2.1 s hlt).mp (by simpa using hb)
        refine hself _ ⟨s + 1, y, rfl, by omega, ?_, a2, a3⟩ (by dsimp only; rw [ncl (by omega), ncl (by omega)]; omega)
        rw [cnS_s, if_pos hmem]; exact a1
      · rw [has_0 hM31 (by omega)] at hb
        have hmem : s ∉ pre := fun w => by rw [(hL.2.1 s hlt).mpr w] at hb; exact absurd hb (by decide)
        rw [ncl (by omega), ncl (by omega)]
        refine ⟨vp_in_nI (by omega) (by omega), fun y3 e3 => ⟨vp_in_nI (by omega) (by omega), fun y4 e4 => ?_⟩⟩
        rw [sh_or (by omega)]
        have hy4 : y4.A 1 = upd (y.A 1) s (nI pre.length) := by rw [e4, e3]; rfl
        have hL4 : Laid y4 (pre ++ [s]) (M ||| 2 ^ s) n := Laid_put (Laid_le hL a3) hn hlt hmem hy4
        have h24 : y4.A 2 = p.A 2 := by rw [e4, e3]; exact a2
        have h44 : y4.I 4 = nI (F + cnS st (cnD st n f) pre s) := by rw [e4, e3]; exact a1
        have hA14 : ∀ a, a ∈ pre → y4.A 1 a = p.A 1 a := fun a ha => by
          have hne : a ≠ s := fun w => hmem (by rw [← w]; exact ha)
          rw [hy4, upd_ne hne]; exact a3 a ha
        have hlen2 : (pre ++ [s]).length = pre.length + 1 := by simp
        have hgd : (pre ++ [s]).getD pre.length 0 = s := by simp [List.getD]
        refine k_mayLie (L := pre ++ [s]) hR hW hn hlt (by omega) hlen2 hgd (Nat.lt_of_lt_of_le hL4.1 (by decide)) hL4.2.1 hL4.2.2 (by rw [h24]; exact h2) (fun ok y6 b1 b2 => b1e ?_) (fun ok y6 b1 b2 => b0e (fun z ez => ?_))
        · have hle2 : F + cnS st (cnD st n f) pre s + cnD st n f (pre ++ [s]) ≤ 720 := by
            have h1 := cnS_mono st (cnD st n f) pre (s + 1) (n - (s + 1))
            rw [show s + 1 + (n - (s + 1)) = n by omega, cnS_s, if_neg hmem, if_pos ok] at h1
            omega
          rw [show nI pre.length + 1 = nI (pre ++ [s]).length by rw [hlen2]; exact nI_1 _]
          refine ih (pre ++ [s]) y6 (M ||| 2 ^ s) _ (by omega) (Laid_le hL4 (fun a _ => by rw [b2 1 (by decide)])) (by rw [b2 2 (by decide), h24]; exact h2) (by rw [b1]; exact h44) hle2 (fun p8 c1 c2 c3 z ez => ?_)
          subst ez
          rw [nI_1]
          refine hself _ ⟨s + 1, p8, rfl, by omega, ?_, by rw [c2, b2 2 (by decide)]; exact h24, fun a ha => ?_⟩ (by dsimp only; rw [ncl (by omega), ncl (by omega)]; omega)
          · rw [c1, cnS_s, if_neg hmem, if_pos ok, Nat.add_assoc]
          · rw [c3 a (List.mem_append_left _ ha), b2 1 (by decide)]; exact hA14 a ha
        · subst ez
          rw [nI_1]
          refine hself _ ⟨s + 1, y6, rfl, by omega, ?_, by rw [b2 2 (by decide)]; exact h24, fun a ha => by rw [b2 1 (by decide)]; exact hA14 a ha⟩ (by dsimp only; rw [ncl (by omega), ncl (by omega)]; omega)
          rw [b1, cnS_s, if_neg hmem, if_neg (by rw [ok]; decide)]; exact h44
/-! the first row is as the sheets lie -/
theorem range_split {n P : Nat} (h : P ≤ n) : ∃ M : List Nat, List.range n = List.range P ++ M := by
  obtain ⟨d, rfl⟩ : ∃ d, n = P + d := ⟨n - P, by omega⟩
  exact ⟨_, List.range_add⟩
theorem range_getD {n P : Nat} (h : P < n) : (List.range n).getD P 0 = P := by
  simp [List.getD, List.getElem?_range h]
theorem range_pos {n a : Nat} (h : a < n) : pos (List.range n) a = a := by
  obtain ⟨M, hM⟩ := range_split (n := n) (P := a) (by omega)
  obtain ⟨M2, hM2⟩ := range_split (n := n) (P := a + 1) (by omega)
  rw [hM2, pos_app, if_pos (by simp), List.range_succ, pos_app, if_neg (by simp), List.length_range]
  show a + (if a = a then 0 else _) = a
  rw [if_pos rfl, Nat.add_zero]
theorem id_frP {st : Nat → Int32} {n k s c : Nat} (g : GN st n k) (hs : s < n) (hn : n ≤ 6) : frc st s c k = nI (frP st (List.range n) s c k) := by
  obtain ⟨g1, g2, g3, g4, g5, g6, g7, g8, g9, g10⟩ := g
  unfold frc frP
  rw [range_pos g9]
  by_cases h : onN st k ≤ s ∧ (ceN st k).testBit c = true
  · rw [if_pos h, if_pos h, g1, g3]
    exact (fo_all _ g2 _ (by omega) _ (by omega)).1
  · rw [if_neg h, if_neg h]; rfl
theorem id_mxP {st : Nat → Int32} {n s c : Nat} (hW : WF st n) (hs : s < n) (hn : n ≤ 6) : ∀ m, m ≤ mN st → mx st s c m = nI (mxP st (List.range n) s c m)
  | 0, _ => rfl
  | m + 1, h => by
    have ih := id_mxP (c := c) hW hs hn m (by omega)
    have g := hW.2.2.2.2.1 m (by omega)
    have h9 := mxP_le (c := c) (List.range n) hW (show s < 6 by omega) m (by omega)
    have f9 := frP_le (c := c) (List.range n) g (show s < 6 by omega)
    rw [mx_s, mxP_s, ih, id_frP g hs hn]
    by_cases hl : mxP st (List.range n) s c m < frP st (List.range n) s c m
    · rw [if_pos (nI_lt hl (by omega)), Nat.max_eq_right (by omega)]
    · rw [if_neg (nI_nlt (by omega) (by omega)), Nat.max_eq_left (by omega)]
theorem id_fits {st : Nat → Int32} {n : Nat} (hW : WF st n) (hn : n ≤ 6) : fitB2 st (List.range n) n = true := by
  rw [fitB2_iff]
  intro p hp
  rw [okP_iff, range_getD hp]
  intro c hc
  have h1 := id_mxP (c := c) hW hp hn (mN st) (Nat.le_refl _)
  have h9 := mxP_le (c := c) (List.range n) hW (show p < 6 by omega) (mN st) (Nat.le_refl _)
  unfold dnN
  rw [hW.2.2.2.2.2 p hp c hc, h1, ncl (by omega)]
theorem id_ok {st : Nat → Int32} {n P : Nat} (hW : WF st n) (hn : n ≤ 6) (hP : P < n) : okP st (List.range P ++ [P]) P = true := by
  obtain ⟨M, hM⟩ := range_split (n := n) (P := P + 1) (by omega)
  have h := (fitB2_iff st (List.range n) n).mp (id_fits hW hn) P hP
  rw [hM, okP_app st _ M (by simp), List.range_succ] at h
  exact h
theorem k_layId {q : St} {st : Nat → Int32} {n : Nat} (hR : RP (q.A 0) q st) (hW : WF st n) (hn : n ≤ 6) (eI : q.I 3 = nI n) (e : Nat) : ∀ (f P : Nat) (p : St) (M : Nat), P + f = n → Laid p (List.range P) M n → A2ok (p.A 2) st n → p.I 4 = nI 0 → (∀ k, k < P → p.A 0 k = nI k) → ∀ {Post : St → Prop}, (∀ p' : St, p'.I 4 = nI 1 → (∀ k, k < n → p'.A 0 k = nI k) → Post p') → wpX8_layFrom (f + 1 + e) (nI P) (nI M) (nI 1) p q Post := by
  intro f
  induction f with
  | zero =>
    intro P p M hlen hL h2 hF h0 Post h
    rw [show 0 + 1 + e = e + 1 by omega]
    show wbX8_layFrom (wpX8_layFrom e) _ _ _ _ _ _
    unfold wbX8_layFrom wjX8_layFrom_14
    have el : P = n := by omega
    subst el
    rw [eI]
    refine ⟨fun _ p1 e1 => ?_, fun z => absurd (nI_le (Nat.le_refl P) (by omega)) z⟩
    subst e1
    refine h _ ?_ h0
    rw [sI_I, if_pos rfl, hF]; exact nI_1 0
  | succ f ih =>
    intro P p M hlen hL h2 hF h0 Post h
    rw [show f + 1 + 1 + e = (f + 1 + e) + 1 by omega]
    show wbX8_layFrom (wpX8_layFrom (f + 1 + e)) _ _ _ _ _ _
    unfold wbX8_layFrom
    rw [eI]
    refine ⟨fun z => absurd z (nI_ge (by omega) (by omega)), fun _ => ⟨fun _ => ?_, fun z => absurd (nI_lt (a := P) (b := 6) (by omega) (by omega)) z⟩⟩
    refine it_rule (F := fun self z => wlX8_layFrom_28 (wpX8_layFrom (f + 1 + e)) q Post _ self z.1 z.2.1 z.2.2.1 z.2.2.2.1 z.2.2.2.2) (fun z => ∃ (s : Nat) (y : St), z = (nI P, nI M, nI 1, nI s, y) ∧ s ≤ P + 1 ∧ ((s ≤ P ∧ y = p) ∨ (s = P + 1 ∧ y.I 4 = nI 1 ∧ ∀ k, k < n → y.A 0 k = nI k))) (fun z => 7 - z.2.2.2.1.toNatClampNeg) ?_ _ ⟨0, p, rfl, by omega, Or.inl ⟨by omega, rfl⟩⟩
    rintro self z ⟨s, y, rfl, hs, hor⟩ hself
    dsimp only at hself ⊢
    unfold wlX8_layFrom_28
    rw [eI]
    rcases hor with ⟨hsP, rfl⟩ | ⟨hsP, a1, a2⟩
    · rw [hF]
      refine ⟨fun z => absurd z (nI_ge (by omega) (by omega)), fun _ => ⟨fun z => absurd z (nI_ge (a := 0) (b := 1) (by omega) (by omega)), fun _ => ?_⟩⟩
      have hM31 : M < 2 ^ 31 := Nat.lt_of_lt_of_le hL.1 (by decide)
      refine ⟨fun hb z ez => ?_, fun hb => ?_⟩
      · rw [has_0 hM31 (by omega)] at hb
        subst ez
        rw [nI_1]
        have hmem : s ∈ List.range P := (hL.2.1 s (by omega)).mp (by simpa using hb)
        have := List.mem_range.mp hmem
        exact hself _ ⟨s + 1, y, rfl, by omega, Or.inl ⟨by omega, rfl⟩⟩ (by dsimp only; rw [ncl (by omega), ncl (by omega)]; omega)
      · rw [has_0 hM31 (by omega)] at hb
        have hmem : s ∉ List.range P := fun w => by rw [(hL.2.1 s (by omega)).mpr w] at hb; exact absurd hb (by decide)
        have hsP2 : s = P := by
          have : ¬ s < P := fun w => hmem (List.mem_range.mpr w)
          omega
        subst hsP2
        rw [ncl (by omega)]
        refine ⟨vp_in_nI (by omega) (by omega), fun y3 e3 => ⟨vp_in_nI (by omega) (by omega), fun y4 e4 => ?_⟩⟩
        rw [sh_or (by omega)]
        have hy4 : y4.A 1 = upd (y.A 1) s (nI (List.range s).length) := by rw [e4, e3, List.length_range]; rfl
        have hL4 : Laid y4 (List.range s ++ [s]) (M ||| 2 ^ s) n := Laid_put hL hn (by omega) hmem hy4
        have h24 : y4.A 2 = y.A 2 := by rw [e4, e3]; rfl
        have h44 : y4.I 4 = nI 0 := by rw [e4, e3]; exact hF
        have h04 : ∀ k, k < s + 1 → y4.A 0 k = nI k := fun k hk => by
          have : y4.A 0 = upd (y.A 0) s (nI s) := by rw [e4, e3]; rfl
          rw [this]
          by_cases hks : k = s
          · subst hks; exact upd_at
          · rw [upd_ne hks]; exact h0 k (by omega)
        have hlen2 : (List.range s ++ [s]).length = s + 1 := by simp
        have hgd : (List.range s ++ [s]).getD s 0 = s := by simp [List.getD]
        refine k_mayLie (L := List.range s ++ [s]) hR hW hn (by omega) (by omega) hlen2 hgd (Nat.lt_of_lt_of_le hL4.1 (by decide)) hL4.2.1 hL4.2.2 (by rw [h24]; exact h2) (fun ok y6 b1 b2 => b1e ?_) (fun ok => absurd ok (by rw [id_ok hW hn (by omega)]; decide))
        rw [nI_1]
        refine ih (s + 1) y6 (M ||| 2 ^ s) (by omega) (by rw [List.range_succ]; exact Laid_le hL4 (fun a _ => by rw [b2 1 (by decide)])) (by rw [b2 2 (by decide), h24]; exact h2) (by rw [b1]; exact h44) (fun k hk => by rw [b2 0 (by decide)]; exact h04 k hk) (fun p8 c1 c2 z ez => ?_)
        subst ez
        exact hself _ ⟨s + 1, p8, rfl, by omega, Or.inr ⟨rfl, c1, c2⟩⟩ (by dsimp only; rw [ncl (by omega), ncl (by omega)]; omega)
    · rw [a1]
      exact ⟨fun _ => h y a1 a2, fun _ => ⟨fun _ => h y a1 a2, fun z => absurd (nI_le (a := 1) (b := 1) (by omega) (by omega)) z⟩⟩
/-! the search -/
theorem k_levels {q p : St} {st : Nat → Int32} {n s : Nat} {a : Int32} (hR : RP (q.A 0) q st) (hn : n ≤ 6) (hs : s < n) {Post : Int32 → St → Prop} {KX : Int32 → Int32 → St → Prop} (h : ∀ y : St, (∀ k, k ≠ 2 → y.A k = p.A k) → (∀ v, 1 ≤ v → v ≤ 9 → y.A 2 (10 * s + v) = bitsN (fun c => decide (¬ st (12 + 12 * s + c) < nI v)) 12) → (∀ i, i < 10 * s → y.A 2 i = p.A 2 i) → KX a (nI s) y) : ∃ k, wLX8_search_13 q Post KX k (a, nI s, 1, p) := by
  refine it_rule (F := fun self z => wlX8_search_13 q Post KX self z.1 z.2.1 z.2.2.1 z.2.2.2) (fun z => ∃ (v : Nat) (y : St), z = (a, nI s, nI v, y) ∧ 1 ≤ v ∧ v ≤ 10 ∧ (∀ k, k ≠ 2 → y.A k = p.A k) ∧ (∀ w, 1 ≤ w → w < v → y.A 2 (10 * s + w) = bitsN (fun c => decide (¬ st (12 + 12 * s + c) < nI w)) 12) ∧ ∀ i, i < 10 * s → y.A 2 i = p.A 2 i) (fun z => 10 - z.2.2.1.toNatClampNeg) ?_ _ ⟨1, p, rfl, by omega, by omega, fun _ _ => rfl, fun w h1 h2 => by omega, fun _ _ => rfl⟩
  rintro self z ⟨v, y, rfl, h1, hv, a1, a2, a3⟩ hself
  dsimp only at hself ⊢
  unfold wlX8_search_13
  have e10 : nI s * 10 + nI v = nI (10 * s + v) := by
    show nI s * nI 10 + _ = _
    rw [pk_mul, nI_add]; congr 1; omega
  refine pk_le 10 v (fun hle => ?_) (fun hlt => k_atLeast (by omega) ?_)
  · exact h y a1 (fun w w1 w2 => a2 w w1 (by omega)) a3
  · rw [e10, ncl (by omega)]
    refine ⟨vp_in_nI (by omega) (by omega), fun y' ey z ez => ?_⟩
    have eb : bitsN (fun c => decide (¬ q.A 0 (4 + 14 * s + c) < nI v)) 12 = bitsN (fun c => decide (¬ st (12 + 12 * s + c) < nI v)) 12 := bitsN_cong (fun c hc => by rw [(hR.2.2.1 s (by omega)).2.2 c hc])
    rw [eb] at ey
    subst ez
    rw [nI_1]
    have eA : y'.A 2 = upd (y.A 2) (10 * s + v) (bitsN (fun c => decide (¬ st (12 + 12 * s + c) < nI v)) 12) := by rw [ey]; rfl
    refine hself _ ⟨v + 1, y', rfl, by omega, by omega, fun k hk => by rw [ey, sA_A, if_neg hk]; exact a1 k hk, fun w w1 w2 => ?_, fun i hi => ?_⟩ (by dsimp only; rw [ncl (by omega), ncl (by omega)]; omega)
    · rw [eA]
      by_cases hwv : w = v
      · subst hwv; exact upd_at
      · rw [upd_ne (by omega)]; exact a2 w w1 (by omega)
    · rw [eA, upd_ne (by omega)]; exact a3 i hi
theorem k_shownL {q p : St} {st : Nat → Int32} {n : Nat} {a : Int32} (hR : RP (q.A 0) q st) (hn : n ≤ 6) (eI : q.I 3 = nI n) {Post : Int32 → St → Prop} {KX : Int32 → St → Prop} (h : ∀ y : St, A2ok (y.A 2) st n → KX a y) : ∃ k, wLX8_search_2 q Post KX k (a, 0, p) := by
  refine it_rule (F := fun self z => wlX8_search_2 q Post KX self z.1 z.2.1 z.2.2) (fun z => ∃ (s : Nat) (y : St), z = (a, nI s, y) ∧ s ≤ n ∧ A2ok (y.A 2) st s) (fun z => 6 - z.2.1.toNatClampNeg) ?_ _ ⟨0, p, rfl, by omega, fun s hs => absurd hs (Nat.not_lt_zero s)⟩
  rintro self z ⟨s, y, rfl, hs, a1⟩ hself
  dsimp only at hself ⊢
  unfold wlX8_search_2
  rw [eI]
  refine pk_le n s (fun hle => ?_) (fun hlt => k_levels hR hn hlt (fun y' b1 b2 b3 z ez => ?_))
  · have e : s = n := by omega
    subst e
    exact h y a1
  · subst ez
    rw [nI_1]
    refine hself _ ⟨s + 1, y', rfl, by omega, fun i hi v v1 v2 => ?_⟩ (by dsimp only; rw [ncl (by omega), ncl (by omega)]; omega)
    by_cases his : i = s
    · subst his; exact b2 v v1 v2
    · rw [b3 _ (by omega)]; exact a1 i (by omega) v v1 v2
theorem Laid_0 (p : St) (n : Nat) : Laid p [] 0 n := ⟨by decide, fun a _ => by rw [Nat.zero_testBit]; exact ⟨fun q => absurd q (by decide), fun q => absurd q (List.not_mem_nil)⟩, fun a ha => absurd ha (List.not_mem_nil)⟩
theorem k_searchAll {q p : St} {st : Nat → Int32} {n : Nat} (hR : RP (q.A 0) q st) (hW : WF st n) (h1 : 1 ≤ n) (hn : n ≤ 6) (eI : q.I 3 = nI n) (hle : cnD st n n [] ≤ 720) {Post : Int32 → St → Prop} (h : ∀ p', Post (nI (cnD st n n [])) p') : wpX8_search 720 p q Post := by
  unfold wpX8_search
  refine k_shownL hR hn eI (fun y hy => ?_)
  intro p10 e10
  have := k_lay hR hW hn eI (6 - n) n [] p10 0 0 (by simp) (Laid_0 _ _) (by rw [e10]; exact hy) (by rw [e10]; rfl) (by rw [Nat.zero_add]; exact hle) (Post := fun p11 => Post (p11.I 4) p11) (fun p' b1 b2 b3 => by rw [b1, Nat.zero_add]; exact h p')
  rw [show n + 1 + (6 - n) = 7 by omega] at this
  exact this
theorem k_searchOne {q p : St} {st : Nat → Int32} {n : Nat} (hR : RP (q.A 0) q st) (hW : WF st n) (hn : n ≤ 6) (eI : q.I 3 = nI n) {Post : Int32 → St → Prop} (h : ∀ p' : St, (∀ k, k < n → p'.A 0 k = nI k) → Post 1 p') : wpX8_search 1 p q Post := by
  unfold wpX8_search
  refine k_shownL hR hn eI (fun y hy => ?_)
  intro p10 e10
  have := k_layId hR hW hn eI (6 - n) n 0 p10 0 (by omega) (Laid_0 _ _) (by rw [e10]; exact hy) (by rw [e10]; rfl) (fun k hk => absurd hk (Nat.not_lt_zero k)) (Post := fun p11 => Post (p11.I 4) p11) (fun p' b1 b2 => by rw [b1]; exact h p' b2)
  rw [show n + 1 + (6 - n) = 7 by omega] at this
  exact this
end
section
/-! the model's rows -/
def RowR (y x : St) (g : Nat → Nat) (n : Nat) : Prop := (∀ k, y.I k = x.I k) ∧ (∀ k, y.L k = x.L k) ∧ (∀ k, k ≠ 23 → y.A k = x.A k) ∧ ∀ k, k < n → y.A 23 k = nI (g k)
theorem m_exchange {y x : St} {g : Nat → Nat} {n i j : Nat} (hn : n ≤ 6) (hi : i < n) (hj : j < n) (h : RowR y x g n) {Post : St → Prop} (hp : ∀ z, RowR z x (swp g i j) n → Post z) : wpX12_exchange (nI i) (nI j) y Post := by
  obtain ⟨h1, h2, h3, h4⟩ := h
  unfold wpX12_exchange
  rw [ncl (by omega), ncl (by omega)]
  refine ⟨vp_in_nI (by omega) (by omega), fun v ev => ⟨vp_in_nI (by omega) (by omega), vp_in_nI (by omega) (by omega), fun p2 e2 => ⟨vp_in_nI (by omega) (by omega), fun p3 e3 => ?_⟩⟩⟩
  refine hp p3 ⟨fun k => by rw [e3, e2]; exact h1 k, fun k => by rw [e3, e2]; exact h2 k, fun k hk => by rw [e3, e2, sA_A, if_neg hk, sA_A, if_neg hk]; exact h3 k hk, fun k hk => ?_⟩
  have e23 : p3.A 23 = upd (upd (y.A 23) i (y.A 23 j)) j v := by rw [e3, e2]; rfl
  rw [e23, ev]
  unfold swp
  by_cases hkj : k = j
  · rw [if_pos hkj, hkj, upd_at, h4 i hi]
  · rw [if_neg hkj, upd_ne hkj]
    by_cases hki : k = i
    · rw [if_pos hki, hki, upd_at, h4 j hj]
    · rw [if_neg hki, upd_ne hki, h4 k hk]
theorem m_rev {x : St} {n : Nat} (hn : n ≤ 6) {Post : Int32 → St → Prop} {KX : St → Prop} : ∀ (f lo hi : Nat) (g : Nat → Nat) (y : St), hi < n → hi ≤ lo + f → RowR y x g n → (∀ z, RowR z x (rvF f lo hi g) n → KX z) → lo ≤ 6 → ∃ k, wLX12_nextRow_86 Post KX k (nI hi, nI lo, y) := by
  intro f
  induction f with
  | zero =>
    intro lo hi g y hhi hf hr hp hlo
    refine ⟨1, ?_⟩
    show wlX12_nextRow_86 Post KX _ (nI hi) (nI lo) y
    unfold wlX12_nextRow_86
    exact ⟨fun _ => hp y hr, fun q => absurd (nI_le (by omega) (by omega)) q⟩
  | succ f ih =>
    intro lo hi g y hhi hf hr hp hlo
    by_cases hle : hi ≤ lo
    · refine ⟨1, ?_⟩
      show wlX12_nextRow_86 Post KX _ (nI hi) (nI lo) y
      unfold wlX12_nextRow_86
      have : rvF (f + 1) lo hi g = g := by
        show (if hi ≤ lo then g else _) = g
        rw [if_pos hle]
      rw [this] at hp
      exact ⟨fun _ => hp y hr, fun q => absurd (nI_le hle (by omega)) q⟩
    · have hrv : rvF (f + 1) lo hi g = rvF f (lo + 1) (hi - 1) (swp g lo hi) := by
        show (if hi ≤ lo then g else _) = _
        rw [if_neg hle]
      rw [hrv] at hp
      have key : ∀ z : St, RowR z x (swp g lo hi) n → ∃ k, wLX12_nextRow_86 Post KX k (nI (hi - 1), nI (lo + 1), z) := fun z hz => ih (lo + 1) (hi - 1) (swp g lo hi) z (by omega) (by omega) hz hp (by omega)
      have key2 : ∃ k, wpX12_exchange (nI lo) (nI hi) y (fun z => wLX12_nextRow_86 Post KX k (nI (hi - 1), nI (lo + 1), z)) := by
        have hx := m_exchange (Post := fun z => RowR z x (swp g lo hi) n ∧ ∃ k, wLX12_nextRow_86 Post KX k (nI (hi - 1), nI (lo + 1), z)) hn (show lo < n by omega) hhi hr (fun z hz => ⟨hz, key z hz⟩)
        obtain ⟨a1, a2⟩ := hx
        obtain ⟨a3, a4, a5⟩ := a2 _ rfl
        obtain ⟨a6, a7⟩ := a5 _ rfl
        obtain ⟨-, k, hk⟩ := a7 _ rfl
        exact ⟨k, a1, fun v ev => ⟨a3, a4, fun p2 e2 => ⟨a6, fun p3 e3 => by rw [e3, e2, ev]; exact hk⟩⟩⟩
      obtain ⟨k, hk⟩ := key2
      refine ⟨k + 1, ?_⟩
      show wlX12_nextRow_86 Post KX _ (nI hi) (nI lo) y
      unfold wlX12_nextRow_86
      refine ⟨fun q => absurd q (nI_ge (by omega) (by omega)), fun _ => ?_⟩
      have e1 : nI hi + (-1) = nI (hi - 1) := by
        obtain ⟨j, rfl⟩ : ∃ j, hi = j + 1 := ⟨hi - 1, by omega⟩
        exact pk_m1 j
      have e2 : nI lo + 1 = nI (lo + 1) := nI_1 lo
      obtain ⟨b1, b2⟩ := hk
      refine ⟨b1, fun v ev => ?_⟩
      obtain ⟨b3, b4, b5⟩ := b2 v ev
      refine ⟨b3, b4, fun p2 ep2 => ?_⟩
      obtain ⟨b6, b7⟩ := b5 p2 ep2
      refine ⟨b6, fun p3 ep3 z1 ez1 z2 ez2 => ?_⟩
      rw [ez1, ez2, e1, e2]
      exact b7 p3 ep3
theorem fI_le (g : Nat → Nat) : ∀ i, fI g i ≤ i
  | 0 => Nat.le_refl _
  | i + 1 => by
    show (if g i ≤ g (i + 1) then i + 1 else fI g i) ≤ _
    have := fI_le g i
    split <;> omega
theorem fI_at (g : Nat → Nat) : ∀ i, fI g i ≠ 0 → g (fI g i - 1) ≤ g (fI g i)
  | 0, h => absurd rfl h
  | i + 1, h => by
    have e : fI g (i + 1) = if g i ≤ g (i + 1) then i + 1 else fI g i := rfl
    rw [e] at h ⊢
    by_cases hg : g i ≤ g (i + 1)
    · rw [if_pos hg]; exact hg
    · rw [if_neg hg] at h ⊢; exact fI_at g i h
theorem m_findI {y x : St} {g : Nat → Nat} {n : Nat} (hn : n ≤ 6) (hg : ∀ k, k < n → g k < 6) (h : RowR y x g n) {Post : Int32 → St → Prop} {KX : Int32 → St → Prop} : ∀ i, i < n → (KX (nI (fI g i) - 1) y) → ∃ k, wLX12_nextRow_7 Post KX k (nI i - 1, y) := by
  intro i
  induction i with
  | zero =>
    intro hi hp
    refine ⟨1, ?_⟩
    show wlX12_nextRow_7 Post KX _ (nI 0 - 1) y
    exact ⟨fun _ => hp, fun q => absurd (by decide) q⟩
  | succ i ih =>
    intro hi hp
    have e : fI g (i + 1) = if g i ≤ g (i + 1) then i + 1 else fI g i := rfl
    have e0 : nI (i + 1) - 1 = nI i := nI_pred i
    rw [e0]
    by_cases hle : g i ≤ g (i + 1)
    · rw [e, if_pos hle, e0] at hp
      refine ⟨1, ?_⟩
      show wlX12_nextRow_7 Post KX _ (nI i) y
      unfold wlX12_nextRow_7
      rw [nI_1, ncl (by omega), ncl (by omega), h.2.2.2 i (by omega), h.2.2.2 (i + 1) hi]
      exact ⟨fun q => absurd q (nI_pos (by omega)), fun _ => ⟨vp_in_nI (by omega) (by omega), vp_in_nI (by omega) (by omega), fun _ => hp, fun q => absurd (nI_le hle (by have := hg (i + 1) hi; omega)) q⟩⟩
    · rw [e, if_neg hle] at hp
      obtain ⟨k, hk⟩ := ih (by omega) hp
      refine ⟨k + 1, ?_⟩
      show wlX12_nextRow_7 Post KX _ (nI i) y
      unfold wlX12_nextRow_7
      rw [nI_1, ncl (by omega), ncl (by omega), h.2.2.2 i (by omega), h.2.2.2 (i + 1) hi]
      refine ⟨fun q => absurd q (nI_pos (by omega)), fun _ => ⟨vp_in_nI (by omega) (by omega), vp_in_nI (by omega) (by omega), fun q => absurd q (nI_ge (by omega) (by have := hg i (by omega); omega)), fun _ z ez => ?_⟩⟩
      rw [ez, show nI i + (-1) = nI i - 1 by rw [Int32.sub_eq_add_neg]]
      exact hk
theorem m_findJ {y x : St} {g : Nat → Nat} {n i : Nat} (hn : n ≤ 6) (hg : ∀ k, k < n → g k < 6) (hi : i + 1 < n) (hle : g i ≤ g (i + 1)) (h : RowR y x g n) {Post : Int32 → St → Prop} {KX : Int32 → Int32 → St → Prop} : ∀ j, j < n → i + 1 ≤ j → (KX (nI i) (nI (fJ g i j)) y) → ∃ k, wLX12_nextRow_47 Post KX k (nI i, nI j, y) := by
  intro j
  induction j with
  | zero => intro hj h1; omega
  | succ j ih =>
    intro hj h1 hp
    have e : fJ g i (j + 1) = if g i ≤ g (j + 1) then j + 1 else fJ g i j := rfl
    by_cases hl : g i ≤ g (j + 1)
    · rw [e, if_pos hl] at hp
      refine ⟨1, ?_⟩
      show wlX12_nextRow_47 Post KX _ (nI i) (nI (j + 1)) y
      unfold wlX12_nextRow_47
      rw [ncl (by omega), ncl (by omega), h.2.2.2 i (by omega), h.2.2.2 (j + 1) hj]
      exact ⟨vp_in_nI (by omega) (by omega), vp_in_nI (by omega) (by omega), fun _ => hp, fun q => absurd (nI_le hl (by have := hg (j + 1) hj; omega)) q⟩
    · rw [e, if_neg hl] at hp
      have hij : i ≠ j := fun w => hl (by rw [← w]; exact hle)
      obtain ⟨k, hk⟩ := ih (by omega) (by omega) hp
      refine ⟨k + 1, ?_⟩
      show wlX12_nextRow_47 Post KX _ (nI i) (nI (j + 1)) y
      unfold wlX12_nextRow_47
      rw [ncl (by omega), ncl (by omega), h.2.2.2 i (by omega), h.2.2.2 (j + 1) hj]
      refine ⟨vp_in_nI (by omega) (by omega), vp_in_nI (by omega) (by omega), fun q => absurd q (nI_ge (by omega) (by have := hg i (by omega); omega)), fun _ z ez => ?_⟩
      rw [ez, pk_m1]
      exact hk
theorem fJ_le (g : Nat → Nat) (i : Nat) : ∀ j, fJ g i j ≤ j
  | 0 => Nat.le_refl _
  | j + 1 => by
    show (if g i ≤ g (j + 1) then j + 1 else fJ g i j) ≤ _
    have := fJ_le g i j
    split <;> omega
theorem m_nextRow {y x : St} {g : Nat → Nat} {n : Nat} (h1 : 1 ≤ n) (hn : n ≤ 6) (hg : ∀ k, k < n → g k < 6) (eI : x.I 0 = nI n) (h : RowR y x g n) {Post : Int32 → St → Prop} (h0 : fI g (n - 1) = 0 → Post 0 y) (hs : fI g (n - 1) ≠ 0 → ∀ z, RowR z x (nxF n g) n → Post 1 z) : wpX12_nextRow y Post := by
  intro v ev
  have eIy : y.I 0 = nI n := (h.1 0).trans eI
  have e2 : nI n - 2 = nI (n - 1) - 1 := by
    obtain ⟨m, rfl⟩ : ∃ m, n = m + 1 := ⟨n - 1, by omega⟩
    rw [show m + 1 - 1 = m by omega, ← nI_pred m, Int32.sub_sub]; rfl
  rw [eIy, e2] at ev
  subst ev
  refine m_findI hn hg h (n - 1) (by omega) ?_
  have hfle := fI_le g (n - 1)
  unfold wjX12_nextRow_34
  rcases Nat.eq_zero_or_pos (fI g (n - 1)) with hz | hz
  · rw [hz]
    exact ⟨fun q => absurd q (by decide), fun _ => h0 hz⟩
  · obtain ⟨i, ei⟩ : ∃ i, fI g (n - 1) = i + 1 := ⟨fI g (n - 1) - 1, by omega⟩
    have hat := fI_at g (n - 1) (by omega)
    have hns := hs (by omega)
    unfold nxF at hns
    rw [ei, show i + 1 - 1 = i by omega] at hat hns
    rw [ei, nI_pred]
    refine ⟨fun _ v ev => ?_, fun q => absurd (nI_pos' (by omega)) q⟩
    rw [eIy, show nI n - 1 = nI (n - 1) from pk_sub (b := 1) h1] at ev
    subst ev
    have hJ := fJ_le g i (n - 1)
    refine m_findJ hn hg (by omega) hat h (n - 1) (by omega) (by omega) ?_
    refine m_exchange hn (by omega) (by omega) h (fun z hz2 => ?_)
    intro v ev w ew
    rw [hz2.1, eI, show nI n - 1 = nI (n - 1) from pk_sub (b := 1) h1] at ev
    rw [nI_1] at ew
    subst ev; subst ew
    exact m_rev hn n (i + 1) (n - 1) _ z (by omega) (by omega) hz2 hns (by omega)
end
section
theorem enD_ok2 : ∀ n, n < 7 → 0 < n → (enD n n []).all (fun L => eqN (fun p => pos L (gL L p)) (fun p => p) n) = true := by decide +kernel
/-- a row of all the sheets -/
def GoodL (n : Nat) (L : List Nat) : Prop := L.length = n ∧ (∀ s, s < n → s ∈ L) ∧ (∀ s, s ∈ L → s < n) ∧ ∀ p, p < n → pos L (L.getD p 0) = p
theorem goodL_of {n : Nat} (h1 : 0 < n) (hn : n < 7) {L : List Nat} (hL : L ∈ enD n n []) : GoodL n L := by
  have a := (enD_ok n hn h1).2.1
  have b := enD_ok2 n hn h1
  rw [List.all_eq_true] at a b
  have a1 := a L hL
  have b1 := eqN_iff _ _ n (b L hL)
  unfold good at a1
  rw [Bool.and_eq_true, Bool.and_eq_true, List.all_eq_true, List.all_eq_true] at a1
  refine ⟨eq_of_beq a1.1.1, fun s hs => ?_, fun s hs => ?_, b1⟩
  · have := a1.1.2 s (List.mem_range.mpr hs)
    exact List.contains_iff_mem.mp this
  · have := a1.2 s hs
    exact Nat.le_of_ble_eq_true this
theorem m_placeAt {y : St} {L : List Nat} {n a : Nat} (hn : n ≤ 6) (hL : GoodL n L) (hA : ∀ k, k < n → y.A 23 k = nI (gL L k)) (ha : a < n) {Post : Int32 → Prop} (h : Post (nI (pos L a))) : wpX12_placeOf (nI a) y Post := by
  have hm := hL.2.1 a ha
  have hp := (pos_mem a L).mpr hm
  rw [hL.1] at hp
  unfold wpX12_placeOf
  refine it_rule (F := fun self z => wlX12_placeOf_2 y Post _ self z.1 z.2) (fun z => ∃ j : Nat, z = (nI a, nI j) ∧ j ≤ pos L a) (fun z => 6 - z.2.toNatClampNeg) ?_ _ ⟨0, rfl, by omega⟩
  rintro self z ⟨j, rfl, hj⟩ hself
  dsimp only at hself ⊢
  unfold wlX12_placeOf_2
  rw [ncl (by omega), hA j (by omega)]
  have hgj : gL L j < 6 := by
    have hjl : j < L.length := by rw [hL.1]; omega
    have : L.getD j 0 ∈ L := by
      rw [List.getD_eq_getElem?_getD, List.getElem?_eq_getElem hjl]
      exact List.getElem_mem hjl
    have := hL.2.2.1 _ this
    show L.getD j 0 < 6
    omega
  refine ⟨vp_in_nI (by omega) (by omega), fun q => ?_, fun q z ez => ?_⟩
  · have : gL L j = a := (nI_eq (by omega) (by omega)).mp q
    have hjp : j = pos L a := by
      rcases Nat.lt_or_ge j (pos L a) with w | w
      · exact absurd this (pos_ne a L j w)
      · omega
    rw [hjp]; exact h
  · subst ez
    rw [nI_1]
    have hjp : j ≠ pos L a := fun w => q (by
      have := pos_get a L hm
      show nI (L.getD j 0) = _
      rw [w, this])
    exact hself _ ⟨j + 1, rfl, by omega⟩ (by dsimp only; rw [ncl (by omega), ncl (by omega)]; omega)
theorem m_rowL {y : St} {L : List Nat} {n s c : Nat} (hn : n ≤ 6) (hW : WF (y.A 4) n) (hL : GoodL n L) (hA : ∀ k, k < n → y.A 23 k = nI (gL L k)) (hs : s < n) (hc : c < 12) {Post : Int32 → Prop} {KX : Int32 → Int32 → Int32 → Prop} (h : KX (nI (12 * s + c)) (nI s) (nI (mxP (y.A 4) L (pos L s) c (mN (y.A 4))))) : ∃ k, wLX12_isRow_23 y Post KX k (nI (12 * s + c), nI s, 0, 0) := by
  have hm10 := hW.2.2.2.1
  have em := hW.2.2.1
  have hps : pos L s < 6 := by
    have := (pos_mem s L).mpr (hL.2.1 s hs)
    rw [hL.1] at this; omega
  refine for_rule (F := fun self z => wlX12_isRow_23 y Post KX self z.1 z.2.1 z.2.2.1 z.2.2.2) (mN (y.A 4)) (fun k => (nI (12 * s + c), nI s, nI (mxP (y.A 4) L (pos L s) c k), nI k)) ?_ ?_
  · intro self k hk hself
    dsimp only at hself ⊢
    unfold wlX12_isRow_23
    rw [em]
    have g := hW.2.2.2.2.1 k hk
    have f9 := frP_le (c := c) L g hps
    have m9 := mxP_le (c := c) L hW hps k (by omega)
    have g' := g
    obtain ⟨g1, g2, g3, g4, g5, g6, g7, g8, g9, g10⟩ := g'
    refine ⟨fun q => absurd q (nI_ge hk (by omega)), fun _ v ev => ?_⟩
    have e84 : (84 : Int32) + (4 : Int32) * nI k = nI (84 + 4 * k) := by
      show nI 84 + nI 4 * nI k = _
      rw [pk_mul, nI_add]
    rw [e84] at ev
    subst ev
    rw [show nI (84 + 4 * k) + 3 = nI (87 + 4 * k) by show _ + nI 3 = _; rw [nI_add]; congr 1; omega, show nI (84 + 4 * k) + 2 = nI (86 + 4 * k) by show _ + nI 2 = _; rw [nI_add]; congr 1; omega, show nI (84 + 4 * k) + 1 = nI (85 + 4 * k) by rw [nI_1]; congr 1; omega]
    have e12 : nI (12 * s + c) - nI (12 * s + c) / 12 * 12 = nI c := by
      have := pk_rem (a := 12 * s + c) (d := 12) (by omega) (by decide) (by decide)
      rw [show (12 : Int32) = nI 12 from rfl, this]; congr 1; omega
    rw [e12]
    refine m_placeAt hn hL hA hs ?_
    rw [ncl (n := 87 + 4 * k) (by omega), g8]
    refine ⟨vp_in_nI (by omega) (by omega), m_placeAt hn hL hA g9 (fun w ew => ?_)⟩
    have fin : ∀ z0 : Int32, z0 = nI (frP (y.A 4) L (pos L s) c k) → wjX12_isRow_114 y Post self KX (nI (12 * s + c)) (nI s) (nI (mxP (y.A 4) L (pos L s) c k)) (nI k) z0 := by
      intro z0 ez0
      subst ez0
      unfold wjX12_isRow_114
      rw [mxP_s] at hself
      refine ⟨fun q z ez => ?_, fun q z ez => ?_⟩
      · rw [nI_leI (by omega) (by omega)] at q
        subst ez
        rw [nI_1]
        rw [Nat.max_eq_left q] at hself
        exact hself
      · rw [nI_leI (by omega) (by omega)] at q
        subst ez
        rw [nI_1]
        rw [Nat.max_eq_right (by omega)] at hself
        exact hself
    have hpo : pos L (onN (y.A 4) k) < 6 := by
      have := (pos_mem (onN (y.A 4) k) L).mpr (hL.2.1 _ g9)
      rw [hL.1] at this; omega
    by_cases hlt : pos L s < pos L (onN (y.A 4) k)
    · have hneg : w < 0 := by rw [ew]; exact pk_sneg (by omega) hlt
      refine ⟨fun _ => fin 0 ?_, fun q => absurd hneg q⟩
      unfold frP
      rw [if_neg (by omega)]; rfl
    · rw [pk_sub (by omega)] at ew
      subst ew
      refine ⟨fun q => absurd q (nI_pos (by omega)), fun _ => ?_⟩
      rw [ncl (n := 86 + 4 * k) (by omega), g6]
      refine ⟨vp_in_nI (by omega) (by omega), m_has (by omega) (by omega) (fun hb => b1e ?_) (fun hb => b0e (fin 0 ?_))⟩
      · rw [ncl (n := 84 + 4 * k) (by omega), ncl (n := 85 + 4 * k) (by omega), g1, g3]
        refine ⟨vp_in_nI (by omega) (by omega), vp_in_nI (by omega) (by omega), m_force g2 (fin _ ?_)⟩
        unfold frP
        rw [if_pos ⟨by omega, hb⟩]
        exact (fo_all _ g2 _ (by omega) _ (by omega)).1
      · unfold frP
        rw [if_neg (fun w => by rw [hb] at w; exact absurd w.2 (by decide))]; rfl
  · intro self
    dsimp only
    unfold wlX12_isRow_23
    rw [em]
    exact ⟨fun _ => h, fun q => absurd (nI_le (Nat.le_refl _) (by omega)) q⟩
theorem m_isRow {y : St} {L : List Nat} {n : Nat} (hn : n ≤ 6) (eI : y.I 0 = nI n) (hW : WF (y.A 4) n) (hL : GoodL n L) (hA : ∀ k, k < n → y.A 23 k = nI (gL L k)) {Post : Int32 → Prop} (h1 : fitB2 (y.A 4) L n = true → Post 1) (h0 : fitB2 (y.A 4) L n = false → Post 0) : wpX12_isRow y Post := by
  unfold wpX12_isRow
  refine it_rule (F := fun self z => wlX12_isRow_2 y Post (Post 1) self z) (fun z => ∃ i : Nat, z = nI i ∧ i ≤ 12 * n ∧ ∀ j, j < i → mxP (y.A 4) L (pos L (j / 12)) (j % 12) (mN (y.A 4)) = dnN (y.A 4) (j / 12) (j % 12)) (fun z => 72 - z.toNatClampNeg) ?_ _ ⟨0, rfl, by omega, fun j hj => absurd hj (Nat.not_lt_zero j)⟩
  rintro self z ⟨i, rfl, hi, a⟩ hself
  unfold wlX12_isRow_2
  have e12 : (12 : Int32) * y.I 0 = nI (12 * n) := by
    rw [eI]
    show nI 12 * nI n = _
    rw [pk_mul]
  rw [e12]
  refine pk_le (12 * n) i (fun hle => h1 ?_) (fun hlt v ev => ?_)
  · rw [fitB2_iff]
    intro p hp
    have hpl : p < L.length := by rw [hL.1]; exact hp
    have hmem : L.getD p 0 ∈ L := by
      rw [List.getD_eq_getElem?_getD, List.getElem?_eq_getElem hpl]
      exact List.getElem_mem hpl
    have hlt := hL.2.2.1 _ hmem
    rw [okP_iff]
    intro c hc
    have := a (12 * L.getD p 0 + c) (by omega)
    rw [show (12 * L.getD p 0 + c) / 12 = L.getD p 0 by omega, show (12 * L.getD p 0 + c) % 12 = c by omega, hL.2.2.2 p hp] at this
    exact this
  · rw [show nI i / 12 = nI (i / 12) from pk_div (d := 12) (by omega) (by decide) (by decide)] at ev
    subst ev
    have hs : i / 12 < n := by omega
    have hc : i % 12 < 12 := by omega
    have ei : 12 * (i / 12) + i % 12 = i := by omega
    have hps : pos L (i / 12) < 6 := by
      have := (pos_mem (i / 12) L).mpr (hL.2.1 _ hs)
      rw [hL.1] at this; omega
    have key := m_rowL (y := y) (L := L) (n := n) (s := i / 12) (c := i % 12) hn hW hL hA hs hc (Post := Post) (KX := fun (y10 : Int32) (y11 : Int32) (y12 : Int32) => wpX12_dentOf y11 (y10 - y10 / 12 * 12) y (fun (r13 : Int32) => ((y12 = r13) → ∀ x1_14 : Int32, x1_14 = y10 + 1 → self x1_14) ∧ ((¬ y12 = r13) → Post 0)))
    rw [ei] at key
    refine key ?_
    have hr : nI i - nI i / 12 * 12 = nI (i % 12) := pk_rem (d := 12) (by omega) (by decide) (by decide)
    rw [hr]
    refine m_dentOf (by omega) hc ?_
    obtain ⟨d1, d2⟩ := dnN_ok hW hn hs hc
    have m9 := mxP_le (c := i % 12) L hW hps (mN (y.A 4)) (Nat.le_refl _)
    rw [d1]
    refine ⟨fun q z ez => ?_, fun q => h0 ?_⟩
    · subst ez
      rw [nI_1]
      have q' := (nI_eq (by omega) (by omega)).mp q
      refine hself _ ⟨i + 1, rfl, by omega, fun j hj => ?_⟩ (by rw [ncl (by omega), ncl (by omega)]; omega)
      by_cases hji : j = i
      · subst hji; exact q'
      · exact a j (by omega)
    · refine Bool.eq_false_iff.mpr (fun hf => q ?_)
      have hp : pos L (i / 12) < n := by
        have := (pos_mem (i / 12) L).mpr (hL.2.1 _ hs)
        rw [hL.1] at this; exact this
      have ho := (fitB2_iff _ _ n).mp hf (pos L (i / 12)) hp
      rw [okP_iff, pos_get _ L (hL.2.1 _ hs)] at ho
      rw [ho _ hc]
theorem m_saveL {y x : St} {g : Nat → Nat} {n C : Nat} {a : Int32} (hn : n ≤ 6) (eI : y.I 0 = nI n) (hC : C < 2 ^ 31) {Post : Int32 → St → Prop} {KX : Int32 → Int32 → St → Prop} (h : ∀ z : St, (∀ k, z.I k = y.I k) → (∀ k, z.L k = y.L k) → (∀ k, k ≠ 24 → z.A k = y.A k) → (C = 0 → ∀ k, k < n → z.A 24 k = y.A 23 k) → (C ≠ 0 → z.A 24 = y.A 24) → KX a (nI C) z) : ∃ k, wLX12_orders_51 Post KX k (a, nI C, 0, y) := by
  refine it_rule (F := fun self z => wlX12_orders_51 Post KX self z.1 z.2.1 z.2.2.1 z.2.2.2) (fun z => ∃ (j : Nat) (w : St), z = (a, nI C, nI j, w) ∧ j ≤ n ∧ (∀ k, w.I k = y.I k) ∧ (∀ k, w.L k = y.L k) ∧ (∀ k, k ≠ 24 → w.A k = y.A k) ∧ (∀ k, k < j → w.A 24 k = y.A 23 k) ∧ (C ≠ 0 → j = 0 ∧ w.A 24 = y.A 24)) (fun z => 6 - z.2.2.1.toNatClampNeg) ?_ _ ⟨0, y, rfl, by omega, fun _ => rfl, fun _ => rfl, fun _ _ => rfl, fun k hk => absurd hk (Nat.not_lt_zero k), fun _ => ⟨rfl, rfl⟩⟩
  rintro self z ⟨j, w, rfl, hj, a1, a2, a3, a4, a5⟩ hself
  dsimp only at hself ⊢
  unfold wlX12_orders_51
  rw [a1, eI]
  refine pk_le n j (fun hle => ?_) (fun hlt => ⟨fun q => ?_, fun q => ?_⟩)
  · exact h w a1 a2 a3 (fun _ k hk => a4 k (by omega)) (fun hC0 => (a5 hC0).2)
  · have hC0 : C ≠ 0 := fun e => q (by rw [e]; rfl)
    exact h w a1 a2 a3 (fun e => absurd e hC0) (fun hC0 => (a5 hC0).2)
  · have hC0 : C = 0 := (nI_eq (b := 0) hC (by decide)).mp q
    refine ⟨vp_in_nI (by omega) (by omega), vp_in_nI (by omega) (by omega), fun w' ew z ez => ?_⟩
    rw [ncl (by omega)] at ew
    subst ew; subst ez
    rw [nI_1]
    refine hself _ ⟨j + 1, _, rfl, by omega, a1, a2, fun k hk => ?_, fun k hk => ?_, fun e => absurd hC0 e⟩ (by dsimp only; rw [ncl (by omega), ncl (by omega)]; omega)
    · rw [sA_A, if_neg hk]; exact a3 k hk
    · show upd (w.A 24) j (w.A 23 j) k = _
      by_cases hkj : k = j
      · subst hkj; rw [upd_at, a3 23 (by decide)]
      · rw [upd_ne hkj]; exact a4 k (by omega)
end
section
theorem it_rule2 {α : Type} {F : (α → Prop) → α → Prop} (I : Nat → α → Prop) (h : ∀ (self : α → Prop) (m : Nat) (x : α), I m x → (∀ m' y, I m' y → m' < m → self y) → F self x) (m : Nat) (x : α) (hx : I m x) : ∃ n, itN F n x := by
  have key : ∀ (n m : Nat) (x : α), I m x → m < n → itN F n x := by
    intro n
    induction n with
    | zero => intro m x _ hm; exact absurd hm (Nat.not_lt_zero _)
    | succ n ih => intro m x hx hm; exact h (itN F n) m x hx (fun m' y hy hlt => ih m' y hy (by omega))
  exact ⟨m + 1, key _ m x hx (Nat.lt_succ_self _)⟩
theorem chk_1 {n : Nat} {a : List Nat} (h : chk n [a] = true) : fI (gL a) (n - 1) = 0 := by
  have h' : ((fI (gL a) (n - 1) == 0) && chk n []) = true := h
  rw [Bool.and_eq_true] at h'
  exact eq_of_beq h'.1
theorem chk_2 {n : Nat} {a b : List Nat} {r : List (List Nat)} (h : chk n (a :: b :: r) = true) : 0 < fI (gL a) (n - 1) ∧ (∀ k, k < n → nxF n (gL a) k = gL b k) ∧ chk n (b :: r) = true := by
  have h' : (((Nat.blt 0 (fI (gL a) (n - 1))) && eqN (nxF n (gL a)) (gL b) n) && chk n (b :: r)) = true := h
  rw [Bool.and_eq_true, Bool.and_eq_true] at h'
  exact ⟨Nat.le_of_ble_eq_true h'.1.1, eqN_iff _ _ n h'.1.2, h'.2⟩
theorem gL_lt {n : Nat} {L : List Nat} (h : GoodL n L) {k : Nat} (hk : k < n) : gL L k < n := by
  have hpl : k < L.length := by rw [h.1]; exact hk
  have hmem : L.getD k 0 ∈ L := by
    rw [List.getD_eq_getElem?_getD, List.getElem?_eq_getElem hpl]
    exact List.getElem_mem hpl
  exact h.2.2.1 _ hmem
theorem m_ordersL {x : St} {n Tot : Nat} (h1 : 1 ≤ n) (hn : n ≤ 6) (eI : x.I 0 = nI n) (hW : WF (x.A 4) n) (hTot : Tot ≤ 720) {a1 : Int32} {Post : Int32 → St → Prop} {KX : Int32 → Int32 → St → Prop} (hfin : ∀ y : St, (∀ k, y.I k = x.I k) → (∀ k, y.L k = x.L k) → (∀ k, k ≠ 23 → k ≠ 24 → y.A k = x.A k) → Tot ≠ 0 → (∀ k, k < n → y.A 24 k = nI k) → KX a1 (nI Tot) y) (a : List Nat) (r : List (List Nat)) (y : St) (hck : chk n (a :: r) = true) (hgo : ∀ L, L ∈ a :: r → GoodL n L) (hc : (a :: r).countP (fun L => fitB2 (x.A 4) L n) = Tot) (ha : a = List.range n) (f1 : ∀ k, y.I k = x.I k) (f2 : ∀ k, y.L k = x.L k) (f3 : ∀ k, k ≠ 23 → k ≠ 24 → y.A k = x.A k) (f4 : ∀ k, k < n → y.A 23 k = nI (gL a k)) : ∃ k, wLX12_orders_37 Post KX k (a1, 0, 1, y) := by
  refine it_rule2 (F := fun self z => wlX12_orders_37 Post KX self z.1 z.2.1 z.2.2.1 z.2.2.2) (fun m z => ∃ (C : Nat) (w : St), (∀ k, w.I k = x.I k) ∧ (∀ k, w.L k = x.L k) ∧ (∀ k, k ≠ 23 → k ≠ 24 → w.A k = x.A k) ∧ ((∃ a r, z = (a1, nI C, 1, w) ∧ m = (a :: r).length ∧ chk n (a :: r) = true ∧ (∀ L, L ∈ a :: r → GoodL n L) ∧ C + (a :: r).countP (fun L => fitB2 (x.A 4) L n) = Tot ∧ (∀ k, k < n → w.A 23 k = nI (gL a k)) ∧ ((C = 0 ∧ a = List.range n) ∨ (C ≠ 0 ∧ ∀ k, k < n → w.A 24 k = nI k))) ∨ (z = (a1, nI C, 0, w) ∧ m = 0 ∧ C = Tot ∧ C ≠ 0 ∧ ∀ k, k < n → w.A 24 k = nI k))) ?_ (a :: r).length _ ⟨0, y, f1, f2, f3, Or.inl ⟨a, r, rfl, rfl, hck, hgo, by rw [Nat.zero_add]; exact hc, f4, Or.inl ⟨rfl, ha⟩⟩⟩
  rintro self m z ⟨C, w, b1, b2, b3, hor⟩ hself
  rcases hor with ⟨a, r, rfl, rfl, c1, c2, c3, c4, c5⟩ | ⟨rfl, rfl, c1, c2, c3⟩
  · dsimp only at hself ⊢
    unfold wlX12_orders_37
    refine ⟨fun q => absurd q (by decide), fun _ => ?_⟩
    have hga := c2 a (List.mem_cons_self)
    have e4 : w.A 4 = x.A 4 := b3 4 (by decide) (by decide)
    have eIw : w.I 0 = nI n := (b1 0).trans eI
    rw [List.countP_cons] at c3
    have next : ∀ (C' : Nat) (v : St) (x2 : Int32), x2 = nI C' → C' ≠ 0 → C' + r.countP (fun L => fitB2 (x.A 4) L n) = Tot → (∀ k, v.I k = x.I k) → (∀ k, v.L k = x.L k) → (∀ k, k ≠ 23 → k ≠ 24 → v.A k = x.A k) → (∀ k, k < n → v.A 23 k = nI (gL a k)) → (∀ k, k < n → v.A 24 k = nI k) → wjX12_orders_87 Post self KX a1 x2 v := by
      intro C' v x2 e2 hC' hcc d1 d2 d3 d4 d5
      subst e2
      unfold wjX12_orders_87
      refine m_nextRow (x := v) (g := gL a) h1 hn (fun k hk => by have := gL_lt hga hk; omega) ((d1 0).trans eI) ⟨fun _ => rfl, fun _ => rfl, fun _ _ => rfl, d4⟩ (fun q => ?_) (fun q z hz => ?_)
      · cases r with
        | nil =>
          exact hself 0 _ ⟨C', v, d1, d2, d3, Or.inr ⟨rfl, rfl, hcc, hC', d5⟩⟩ (by simp)
        | cons b r2 =>
          have := (chk_2 c1).1; omega
      · cases r with
        | nil => exact absurd (chk_1 c1) q
        | cons b r2 =>
          obtain ⟨-, k2, k3⟩ := chk_2 c1
          obtain ⟨z1, z2, z3, z4⟩ := hz
          refine hself (b :: r2).length _ ⟨C', z, fun k => (z1 k).trans (d1 k), fun k => (z2 k).trans (d2 k), fun k g1 g2 => (z3 k g1).trans (d3 k g1 g2), Or.inl ⟨b, r2, rfl, rfl, k3, fun L hL => c2 L (List.mem_cons_of_mem _ hL), hcc, fun k hk => by rw [z4 k hk, k2 k hk], Or.inr ⟨hC', fun k hk => by rw [z3 24 (by decide)]; exact d5 k hk⟩⟩⟩ (by simp)
    refine m_isRow (L := a) hn eIw (by rw [e4]; exact hW) hga c4 (fun hf => b1e ?_) (fun hf => b0e ?_)
    · rw [e4] at hf
      rw [if_pos hf] at c3
      refine m_saveL (x := x) (g := gL a) hn eIw (by omega) (fun v d1 d2 d3 d4 d5 => ?_)
      intro x2 e2
      refine next (C + 1) v x2 (by rw [e2]; exact nI_1 C) (by omega) (by omega) (fun k => (d1 k).trans (b1 k)) (fun k => (d2 k).trans (b2 k)) (fun k g1 g2 => (d3 k g2).trans (b3 k g1 g2)) (fun k hk => by rw [d3 23 (by decide)]; exact c4 k hk) (fun k hk => ?_)
      rcases c5 with ⟨e0, ea⟩ | ⟨e0, h24⟩
      · rw [d4 e0 k hk, c4 k hk, ea]
        show nI ((List.range n).getD k 0) = _
        rw [range_getD hk]
      · rw [d5 e0]; exact h24 k hk
    · rw [e4] at hf
      rw [if_neg (by rw [hf]; decide)] at c3
      rcases c5 with ⟨e0, ea⟩ | ⟨e0, h24⟩
      · rw [ea, id_fits hW hn] at hf
        exact absurd hf (by decide)
      · exact next C w _ rfl e0 c3 b1 b2 b3 c4 h24
  · dsimp only at hself ⊢
    unfold wlX12_orders_37
    refine ⟨fun _ => ?_, fun q => absurd rfl q⟩
    rw [c1]
    exact hfin w b1 b2 b3 (by omega) c3
theorem m_idL {x : St} {n : Nat} {a1 : Int32} (hn : n ≤ 6) (eI : x.I 0 = nI n) {Post : Int32 → St → Prop} {KX : Int32 → St → Prop} (h : ∀ y : St, (∀ k, y.I k = x.I k) → (∀ k, y.L k = x.L k) → (∀ k, k ≠ 23 → y.A k = x.A k) → (∀ k, k < n → y.A 23 k = nI k) → KX a1 y) : ∃ k, wLX12_orders_12 Post KX k (a1, 0, x) := by
  refine it_rule (F := fun self z => wlX12_orders_12 Post KX self z.1 z.2.1 z.2.2) (fun z => ∃ (j : Nat) (w : St), z = (a1, nI j, w) ∧ j ≤ n ∧ (∀ k, w.I k = x.I k) ∧ (∀ k, w.L k = x.L k) ∧ (∀ k, k ≠ 23 → w.A k = x.A k) ∧ ∀ k, k < j → w.A 23 k = nI k) (fun z => 6 - z.2.1.toNatClampNeg) ?_ _ ⟨0, x, rfl, by omega, fun _ => rfl, fun _ => rfl, fun _ _ => rfl, fun k hk => absurd hk (Nat.not_lt_zero k)⟩
  rintro self z ⟨j, w, rfl, hj, a1, a2, a3, a4⟩ hself
  dsimp only at hself ⊢
  unfold wlX12_orders_12
  rw [a1, eI]
  refine pk_le n j (fun hle => ?_) (fun hlt => ⟨vp_in_nI (by omega) (by omega), fun w' ew z ez => ?_⟩)
  · exact h w a1 a2 a3 (fun k hk => a4 k (by omega))
  · rw [ncl (by omega)] at ew
    subst ew; subst ez
    rw [nI_1]
    refine hself _ ⟨j + 1, _, rfl, by omega, a1, a2, fun k hk => ?_, fun k hk => ?_⟩ (by dsimp only; rw [ncl (by omega), ncl (by omega)]; omega)
    · rw [sA_A, if_neg hk]; exact a3 k hk
    · show upd (w.A 23) j (nI j) k = _
      by_cases hkj : k = j
      · subst hkj; exact upd_at
      · rw [upd_ne hkj]; exact a4 k (by omega)
theorem cn_le {st : Nat → Int32} {n : Nat} (h1 : 1 ≤ n) (hn : n ≤ 6) : (enD n n []).countP (fun L => fitB2 st L n) = cnD st n n [] ∧ cnD st n n [] ≤ 720 := by
  have h := cnt_all st n n [] (by simp)
  rw [if_pos (show fitB2 st [] ([] : List Nat).length = true from rfl)] at h
  have h2 := (enD_ok n (by omega) (by omega)).2.2.1
  have h3 := List.countP_le_length (p := fun L => fitB2 st L n) (l := enD n n [])
  exact ⟨h, by omega⟩
theorem m_ordersG {x : St} {n : Nat} (h1 : 1 ≤ n) (hn : n ≤ 6) (eI : x.I 0 = nI n) (hW : WF (x.A 4) n) {x1 : Int32} (hx : -1 ≤ x1) {Post : Int32 → St → Prop} (h : ∀ y : St, (∀ k, y.I k = x.I k) → (∀ k, y.L k = x.L k) → (∀ k, k ≠ 23 → k ≠ 24 → y.A k = x.A k) → (x1 = -1 → Post (nI (cnD (x.A 4) n n [])) y) ∧ (∀ i, x1 = nI i → i < n → Post (nI i) y) ∧ (¬ x1 = -1 → ¬ x1 < nI n → Post (-5) y)) : wpX12_orders x1 x Post := by
  unfold wpX12_orders
  refine ⟨fun _ => ?_, fun q => absurd hx q⟩
  obtain ⟨q1, q2, q3, q4⟩ := enD_ok n (by omega) (by omega)
  obtain ⟨e1, e2⟩ := cn_le (st := x.A 4) h1 hn
  refine m_idL hn eI (fun y f1 f2 f3 f4 => ?_)
  cases hL : enD n n [] with
  | nil => rw [hL] at q4; exact absurd q4 (by simp)
  | cons a r =>
    have ea : a = List.range n := by
      rw [hL] at q4
      simpa using q4
    rw [hL] at q1 e1
    refine m_ordersL (x := x) (Tot := cnD (x.A 4) n n []) h1 hn eI hW e2 (fun z b1 b2 b3 b4 b5 => ?_) a r y q1 (fun L hLm => goodL_of (by omega) (by omega) (by rw [hL]; exact hLm)) e1 ea f1 f2 (fun k g1 g2 => f3 k g1) (fun k hk => ?_)
    · obtain ⟨p1, p2, p3⟩ := h z b1 b2 b3
      refine ⟨fun hne => ⟨fun _ => ⟨fun hlt => ?_, fun hge => p3 hne (by rw [← eI, ← b1 0]; exact hge)⟩, fun e => absurd ((nI_eq (b := 0) (by omega) (by decide)).mp e) b4⟩, fun e => p1 e⟩
      rw [b1, eI] at hlt
      have hm1 : (-1 : Int32).toInt = -1 := by decide
      have hx2 := (fa_le _ _).mp hx
      have hne2 : x1.toInt ≠ -1 := fun w => hne ((fa_eq _ _).mpr (by rw [w, hm1]))
      obtain ⟨i, rfl, hi, _⟩ := toNI (show 0 ≤ x1.toInt by omega)
      have hin : i < n := (nI_ltI (by omega) (by omega)).mp hlt
      rw [ncl (by omega), b5 i hin]
      exact ⟨vp_in_nI (by omega) (by omega), p2 i rfl hin⟩
    · rw [f4 k hk, ea]
      show _ = nI ((List.range n).getD k 0)
      rw [range_getD hk]
theorem R_23 {t : Nat → St} {x y p : St} (h : Rel t x) (f1 : ∀ k, y.I k = x.I k) (f2 : ∀ k, y.L k = x.L k) (f3 : ∀ k, k ≠ 23 → k ≠ 24 → y.A k = x.A k) : Rel t y := by
  obtain ⟨hN, hO, hT, hM⟩ := h
  refine ⟨?_, ?_, ?_, ?_⟩
  · unfold NowR at hN ⊢
    rw [f1, f1, f1, f1, f3 4 (by decide) (by decide), f3 5 (by decide) (by decide), f3 2 (by decide) (by decide)]; exact hN
  · unfold ObjR at hO ⊢
    rw [f2, f2, f3 9 (by decide) (by decide)]; exact hO
  · unfold TxtR at hT ⊢
    rw [f1, f3 10 (by decide) (by decide)]; exact hT
  · unfold ImsR at hM ⊢
    rw [f3 27 (by decide) (by decide), f3 28 (by decide) (by decide)]; exact hM
theorem s_orders {t : Nat → St} {x : St} (h : Rel t x) (x1 : Int32) : SimI (wpX11_orders x1 t) (wpX12_orders x1 x) := by
  obtain ⟨n, w, u, e1, e2, e3, hc, g⟩ := h.1.got
  have hcur := g.cur
  have hn6 := g.2.1
  have hn1 := g.1
  have e7 : ∀ p : St, Rel (upS t 7 p) x := fun p => h
  unfold SimI wpX11_orders
  refine ⟨fun hx => ⟨fun hne => ⟨fun hlt => ?_, fun hge => ?_⟩, fun he => ?_⟩, fun hx => k_bad ⟨fun q => absurd q hx, fun _ => m_ref0 ⟨rfl, R_bad h⟩⟩⟩
  · have hm1 : (-1 : Int32).toInt = -1 := by decide
    have hx2 := (fa_le _ _).mp hx
    have hne2 : x1.toInt ≠ -1 := fun w => hne ((fa_eq _ _).mpr (by rw [w, hm1]))
    obtain ⟨i, rfl, hi, _⟩ := toNI (show 0 ≤ x1.toInt by omega)
    rw [g.2.2.1] at hlt
    have hin : i < n := (nI_ltI (by omega) (by omega)).mp hlt
    refine k_searchOne hcur.1 hcur.2 hn6 g.2.2.1 (fun p' hp' => ?_)
    intro t3 et3
    subst et3
    refine b1n ?_
    have e77 : (upS t 7 p') 7 = p' := rfl
    rw [e77]
    unfold wpX8_sheetAt
    refine ⟨fun q => absurd q (nI_pos (by omega)), fun _ => ⟨fun q => absurd q (nI_ge (b := 6) (by omega) (by omega)), fun _ => ?_⟩⟩
    rw [ncl (by omega), hp' i hin]
    refine ⟨vp_in_nI (by omega) (by omega), m_ordersG hn1 hn6 e1 hcur.2 hx (fun y f1 f2 f3 => ⟨fun q => absurd q hne, fun j ej hj => ?_, fun _ q => absurd hlt q⟩)⟩
    exact ⟨ej, R_23 (p := y) (e7 p') f1 f2 f3⟩
  · rw [g.2.2.1] at hge
    refine m_ordersG hn1 hn6 e1 hcur.2 hx (fun y f1 f2 f3 => ⟨fun q => absurd q hne, fun j ej hj => absurd (by rw [ej]; exact nI_lt hj (by omega)) hge, fun _ _ => ⟨rfl, R_23 (p := y) h f1 f2 f3⟩⟩)
  · refine k_searchAll hcur.1 hcur.2 hn1 hn6 g.2.2.1 (cn_le hn1 hn6).2 (fun p' => ?_)
    intro t7 et7
    subst et7
    refine m_ordersG hn1 hn6 e1 hcur.2 hx (fun y f1 f2 f3 => ⟨fun _ => ⟨rfl, R_23 (p := y) (e7 p') f1 f2 f3⟩, fun j ej hj => ?_, fun q => absurd he q⟩)
    have := congrArg Int32.toInt (he.symm.trans ej)
    rw [nI_toInt (by omega), show (-1 : Int32).toInt = -1 by decide] at this
    omega
end
section
/-! the text, token by token -/
def fs (P : Nat → Bool) (i b : Nat) : Nat := i + fa_first (fun j => P (i + j)) (b - i)
theorem fs_ge (P : Nat → Bool) (i b : Nat) : i ≤ fs P i b := by unfold fs; omega
theorem fs_le {P : Nat → Bool} {i b : Nat} (h : i ≤ b) : fs P i b ≤ b := by
  have := fa_first_le (fun j => P (i + j)) (b - i)
  unfold fs; omega
theorem fs_no {P : Nat → Bool} {i b j : Nat} (h1 : i ≤ j) (h2 : j < fs P i b) : P j = false := by
  unfold fs at h2
  have := fa_first_no (fun j => P (i + j)) (b - i) (j - i) (by omega)
  rw [show i + (j - i) = j by omega] at this
  exact this
theorem fs_yes {P : Nat → Bool} {i b : Nat} (h : fs P i b < b) : P (fs P i b) = true := by
  unfold fs at h ⊢
  exact fa_first_yes (fun j => P (i + j)) (b - i) (by omega)
/-- walking to it -/
theorem fs_step {P : Nat → Bool} {i b j : Nat} (hj : j ≤ fs P i b) (hb : i ≤ b) (h1 : i ≤ j) : (b ≤ j → j = fs P i b) ∧ (P j = true → j = fs P i b) ∧ (j < b → P j = false → j + 1 ≤ fs P i b) := by
  have hle := fs_le (P := P) hb
  refine ⟨fun h => by omega, fun h => ?_, fun h2 h => ?_⟩
  · rcases Nat.lt_or_ge j (fs P i b) with w | w
    · rw [fs_no h1 w] at h; exact absurd h (by decide)
    · omega
  · rcases Nat.lt_or_ge j (fs P i b) with w | w
    · omega
    · have e : j = fs P i b := by omega
      rw [e] at h h2
      rw [fs_yes h2] at h; exact absurd h (by decide)
def nSp (c : Nat → Nat) (j : Nat) : Bool := decide (c j ≠ 32)
def isL (c : Nat → Nat) (j : Nat) : Bool := decide (97 ≤ c j ∧ c j ≤ 122)
def isD (c : Nat → Nat) (j : Nat) : Bool := decide (48 ≤ c j ∧ c j ≤ 57)
def tS (c : Nat → Nat) (b i : Nat) : Nat := fs (nSp c) i b
def tE (c : Nat → Nat) (b i : Nat) : Nat := if tS c b i = b then b else if isL c (tS c b i) = true then fs (fun j => !isL c j) (tS c b i) b else if isD c (tS c b i) = true then fs (fun j => !isD c j) (tS c b i) b else tS c b i + 1
def wdK (c : Nat → Nat) (s l : Nat) : Nat :=
  if l = 3 ∧ c s = 112 ∧ c (s + 1) = 97 ∧ c (s + 2) = 100 then 1
  else if l = 6 ∧ c s = 99 ∧ c (s + 1) = 97 ∧ c (s + 2) = 114 ∧ c (s + 3) = 98 ∧ c (s + 4) = 111 ∧ c (s + 5) = 110 then 2
  else if l = 4 ∧ c s = 110 ∧ c (s + 1) = 111 ∧ c (s + 2) = 116 ∧ c (s + 3) = 101 then 3
  else if l = 4 ∧ c s = 116 ∧ c (s + 1) = 101 ∧ c (s + 2) = 97 ∧ c (s + 3) = 114 then 4
  else 0
def tK (c : Nat → Nat) (b i : Nat) : Nat := if tS c b i = b then 7 else if isL c (tS c b i) = true then wdK c (tS c b i) (tE c b i - tS c b i) else if isD c (tS c b i) = true then (if tE c b i - tS c b i ≤ 2 then 6 else 0) else if c (tS c b i) = 59 then 5 else 0
/-- the class's name for the token -/
def tC (c : Nat → Nat) (b i : Nat) : Nat := if tS c b i = b then 0 else if isL c (tS c b i) = true then 1 else if isD c (tS c b i) = true then (if tE c b i - tS c b i ≤ 2 then 2 else 4) else if c (tS c b i) = 59 then 3 else 4
def vv (c : Nat → Nat) (s : Nat) : Nat → Nat
  | 0 => 0
  | j + 1 => 10 * vv c s j + c (s + j) - 48
def tV (c : Nat → Nat) (b i : Nat) : Nat := vv c (tS c b i) (tE c b i - tS c b i)
theorem tS_b {c : Nat → Nat} {b i : Nat} (h : i ≤ b) : i ≤ tS c b i ∧ tS c b i ≤ b := ⟨fs_ge _ _ _, fs_le h⟩
theorem isL_iff (c : Nat → Nat) (j : Nat) : isL c j = true ↔ 97 ≤ c j ∧ c j ≤ 122 := by unfold isL; exact decide_eq_true_iff
theorem isD_iff (c : Nat → Nat) (j : Nat) : isD c j = true ↔ 48 ≤ c j ∧ c j ≤ 57 := by unfold isD; exact decide_eq_true_iff
theorem tE_b {c : Nat → Nat} {b i : Nat} (h : i ≤ b) : tS c b i ≤ tE c b i ∧ tE c b i ≤ b ∧ (tS c b i < b → tS c b i < tE c b i) := by
  have hs := tS_b (c := c) h
  unfold tE
  by_cases h0 : tS c b i = b
  · rw [if_pos h0]; omega
  · rw [if_neg h0]
    by_cases h1 : isL c (tS c b i) = true
    · rw [if_pos h1]
      have e := fs_step (P := fun j => !isL c j) (fs_ge _ (tS c b i) b) hs.2 (Nat.le_refl _)
      have e2 := fs_le (P := fun j => !isL c j) hs.2
      have := e.2.2 (by omega) (by rw [h1]; rfl)
      omega
    · rw [if_neg h1]
      by_cases h2 : isD c (tS c b i) = true
      · rw [if_pos h2]
        have e := fs_step (P := fun j => !isD c j) (fs_ge _ (tS c b i) b) hs.2 (Nat.le_refl _)
        have e2 := fs_le (P := fun j => !isD c j) hs.2
        have := e.2.2 (by omega) (by rw [h2]; rfl)
        omega
      · rw [if_neg h2]; omega
theorem tK_C (c : Nat → Nat) (b i : Nat) : (tK c b i = 7 ↔ tC c b i = 0) ∧ (tK c b i = 5 ↔ tC c b i = 3) ∧ (tK c b i = 6 ↔ tC c b i = 2) ∧ tC c b i ≤ 4 ∧ tK c b i ≤ 7 := by
  have hw : wdK c (tS c b i) (tE c b i - tS c b i) ≤ 4 := by
    unfold wdK
    split
    · omega
    · split
      · omega
      · split
        · omega
        · split <;> omega
  unfold tK tC
  by_cases h0 : tS c b i = b
  · rw [if_pos h0, if_pos h0]; omega
  · rw [if_neg h0, if_neg h0]
    by_cases h1 : isL c (tS c b i) = true
    · rw [if_pos h1, if_pos h1]; omega
    · rw [if_neg h1, if_neg h1]
      by_cases h2 : isD c (tS c b i) = true
      · rw [if_pos h2, if_pos h2]
        split <;> omega
      · rw [if_neg h2, if_neg h2]
        split <;> omega
theorem tV_b {c : Nat → Nat} {b i : Nat} (hi : i ≤ b) (h : tK c b i = 6) : tV c b i ≤ 99 := by
  have hE := tE_b (c := c) hi
  have hs := tS_b (c := c) hi
  unfold tK at h
  by_cases h0 : tS c b i = b
  · rw [if_pos h0] at h; omega
  · rw [if_neg h0] at h
    by_cases h1 : isL c (tS c b i) = true
    · rw [if_pos h1] at h
      have hw : wdK c (tS c b i) (tE c b i - tS c b i) ≤ 4 := by
        unfold wdK
        split
        · omega
        · split
          · omega
          · split
            · omega
            · split <;> omega
      omega
    · rw [if_neg h1] at h
      by_cases h2 : isD c (tS c b i) = true
      · rw [if_pos h2] at h
        by_cases h3 : tE c b i - tS c b i ≤ 2
        · have eE : tE c b i = fs (fun j => !isD c j) (tS c b i) b := by
            unfold tE; rw [if_neg h0, if_neg h1, if_pos h2]
          have hd : ∀ j, tS c b i ≤ j → j < tE c b i → 48 ≤ c j ∧ c j ≤ 57 := fun j g1 g2 => by
            have := fs_no (P := fun j => !isD c j) g1 (by rw [← eE]; exact g2)
            exact (isD_iff c j).mp (by simpa using this)
          have hd0 := hd (tS c b i) (by omega) (by omega)
          unfold tV
          rcases (show tE c b i - tS c b i = 1 ∨ tE c b i - tS c b i = 2 by omega) with q | q
          · rw [q]
            show 10 * 0 + c (tS c b i + 0) - 48 ≤ 99
            rw [Nat.add_zero]; omega
          · rw [q]
            have hd1 := hd (tS c b i + 1) (by omega) (by omega)
            show 10 * (10 * 0 + c (tS c b i + 0) - 48) + c (tS c b i + 1) - 48 ≤ 99
            rw [Nat.add_zero]; omega
        · rw [if_neg h3] at h; omega
      · rw [if_neg h2] at h
        split at h <;> omega
/-! the class steps -/
def TX (p : St) (c : Nat → Nat) (b : Nat) : Prop := b ≤ 150 ∧ p.I 1 = nI b ∧ ∀ k, k < b → p.A 0 k = nI (c k) ∧ c k < 128
def TkC (p : St) (c : Nat → Nat) (b i : Nat) : Prop := p.I 4 = nI (tS c b i) ∧ p.I 2 = nI (tE c b i) ∧ p.I 3 = nI (tC c b i) ∧ (tK c b i = 6 → p.I 5 = nI (tV c b i))
theorem A_of2 {y p : St} (h : y.2 = p.2) (k : Nat) : y.A k = p.A k := by unfold St.A; rw [h]
theorem L_of2 {y p : St} (h : y.2 = p.2) (k : Nat) : y.L k = p.L k := by unfold St.L; rw [h]
theorem k_within {p : St} {c : Nat → Nat} {b j lo hi : Nat} (hT : TX p c b) (hj : j < b) (hlo : lo < 1000) (hhi : hi < 1000) {Post : Int32 → Prop} (h1 : lo ≤ c j ∧ c j ≤ hi → Post 1) (h0 : ¬ (lo ≤ c j ∧ c j ≤ hi) → Post 0) : wpX7_isWithin (nI j) (nI lo) (nI hi) p Post := by
  obtain ⟨hb, e1, e2⟩ := hT
  obtain ⟨e3, h128⟩ := e2 j hj
  unfold wpX7_isWithin
  rw [e1, ncl (by omega), e3]
  refine ⟨fun q => absurd q (nI_pos (by omega)), fun _ => ⟨fun q => absurd q (nI_ge hj (by omega)), fun _ => ⟨vp_in_nI (by omega) (by omega), fun q => h0 ?_, fun q => ⟨vp_in_nI (by omega) (by omega), fun q2 => h0 ?_, fun q2 => h1 ?_⟩⟩⟩⟩
  · rw [nI_ltI (by omega) (by omega)] at q; omega
  · rw [nI_ltI (by omega) (by omega)] at q2; omega
  · rw [nI_ltI (by omega) (by omega)] at q q2; omega
theorem TX_of {p y : St} {c : Nat → Nat} {b : Nat} (h : TX p c b) (e : y.2 = p.2) (e1 : y.I 1 = p.I 1) : TX y c b := ⟨h.1, e1.trans h.2.1, fun k hk => by rw [A_of2 e]; exact h.2.2 k hk⟩
theorem k_skip {p : St} {c : Nat → Nat} {b i : Nat} (hT : TX p c b) (hi : i ≤ b) (e2 : p.I 2 = nI i) {Post : St → Prop} {KX : St → Prop} (h : ∀ y : St, y.2 = p.2 → (∀ k, k ≠ 2 → y.I k = p.I k) → y.I 2 = nI (tS c b i) → KX y) : ∃ n, wLX7_step_0 Post KX n p := by
  have hb := hT.1
  refine it_rule (F := fun self z => wlX7_step_0 Post KX self z) (fun y => ∃ j, i ≤ j ∧ j ≤ tS c b i ∧ y.2 = p.2 ∧ (∀ k, k ≠ 2 → y.I k = p.I k) ∧ y.I 2 = nI j) (fun y => 150 - (y.I 2).toNatClampNeg) ?_ _ ⟨i, Nat.le_refl _, (tS_b hi).1, rfl, fun _ _ => rfl, e2⟩
  rintro self y ⟨j, h1, hj, a1, a2, a3⟩ hself
  have hs := tS_b (c := c) hi
  obtain ⟨s1, s2, s3⟩ := fs_step (P := nSp c) (b := b) hj hi h1
  have fin : j = tS c b i → KX y := fun q => h y a1 a2 (by rw [a3, q])
  unfold wlX7_step_0
  rw [a2 1 (by decide), hT.2.1, a3, ncl (by omega), A_of2 a1]
  refine pk_le b j (fun hle => fin (s1 hle)) (fun hlt => ?_)
  obtain ⟨g1, g2⟩ := hT.2.2 j hlt
  rw [g1]
  refine ⟨vp_in_nI (by omega) (by omega), fun q => fin (s2 ?_), fun q y' ey => ?_⟩
  · unfold nSp
    refine decide_eq_true (fun w => q (by rw [w]; rfl))
  · have e32 : c j = 32 := (nI_eq (b := 32) (by omega) (by decide)).mp q
    rw [nI_1] at ey
    have hn := s3 hlt (by unfold nSp; exact decide_eq_false (fun w => w e32))
    refine hself y' ⟨j + 1, by omega, hn, by rw [ey]; exact a1, fun k hk => by rw [ey, sI_I, if_neg hk]; exact a2 k hk, by rw [ey]; rfl⟩ ?_
    have : y'.I 2 = nI (j + 1) := by rw [ey]; rfl
    rw [this, a3, ncl (by omega), ncl (by omega)]; omega
theorem k_letters {p : St} {c : Nat → Nat} {b s : Nat} (hT : TX p c b) (hs : s ≤ b) (e2 : p.I 2 = nI s) {Post : St → Prop} {KX : St → Prop} (h : ∀ y : St, y.2 = p.2 → (∀ k, k ≠ 2 → y.I k = p.I k) → y.I 2 = nI (fs (fun j => !isL c j) s b) → KX y) : ∃ n, wLX7_passWord_5 Post KX n p := by
  have hb := hT.1
  refine it_rule (F := fun self z => wlX7_passWord_5 Post KX self z) (fun y => ∃ j, s ≤ j ∧ j ≤ fs (fun j => !isL c j) s b ∧ y.2 = p.2 ∧ (∀ k, k ≠ 2 → y.I k = p.I k) ∧ y.I 2 = nI j) (fun y => 150 - (y.I 2).toNatClampNeg) ?_ _ ⟨s, Nat.le_refl _, fs_ge _ _ _, rfl, fun _ _ => rfl, e2⟩
  rintro self y ⟨j, h1, hj, a1, a2, a3⟩ hself
  obtain ⟨s1, s2, s3⟩ := fs_step (P := fun j => !isL c j) (b := b) hj hs h1
  have hle := fs_le (P := fun j => !isL c j) hs
  have fin : j = fs (fun j => !isL c j) s b → KX y := fun q => h y a1 a2 (by rw [a3, q])
  unfold wlX7_passWord_5
  rw [a2 1 (by decide), hT.2.1, a3]
  refine pk_le b j (fun hle => fin (s1 hle)) (fun hlt => ?_)
  refine k_within (lo := 97) (hi := 122) (TX_of hT a1 (a2 1 (by decide))) hlt (by omega) (by omega) (fun q => b1e (fun y' ey => ?_)) (fun q => b0e (fin (s2 ?_)))
  · rw [nI_1] at ey
    have hn := s3 hlt (by rw [(isL_iff c j).mpr q]; rfl)
    refine hself y' ⟨j + 1, by omega, hn, by rw [ey]; exact a1, fun k hk => by rw [ey, sI_I, if_neg hk]; exact a2 k hk, by rw [ey]; rfl⟩ ?_
    have : y'.I 2 = nI (j + 1) := by rw [ey]; rfl
    rw [this, a3, ncl (by omega), ncl (by omega)]; omega
  · have : isL c j = false := Bool.eq_false_iff.mpr (fun w => q ((isL_iff c j).mp w))
    rw [this]; rfl
theorem vv_s (c : Nat → Nat) (s j : Nat) : vv c s (j + 1) = 10 * vv c s j + c (s + j) - 48 := rfl
theorem dig_eq {v d : Nat} (h : 48 ≤ d) : ((10 : Int32) * nI v + nI d) - 48 = nI (10 * v + d - 48) := by
  show (nI 10 * nI v + nI d) - nI 48 = _
  rw [pk_mul, nI_add, pk_sub (by omega)]
theorem k_figures {p : St} {c : Nat → Nat} {b s : Nat} (hT : TX p c b) (hs : s ≤ b) (e2 : p.I 2 = nI s) (e4 : p.I 4 = nI s) (e5 : p.I 5 = 0) {Post : St → Prop} {KX : St → Prop} (h : ∀ y : St, y.2 = p.2 → (∀ k, k ≠ 2 → k ≠ 5 → y.I k = p.I k) → y.I 2 = nI (fs (fun j => !isD c j) s b) → (fs (fun j => !isD c j) s b - s ≤ 2 → y.I 5 = nI (vv c s (fs (fun j => !isD c j) s b - s))) → KX y) : ∃ n, wLX7_passFigures_5 Post KX n p := by
  have hb := hT.1
  refine it_rule (F := fun self z => wlX7_passFigures_5 Post KX self z) (fun y => ∃ j, s ≤ j ∧ j ≤ fs (fun j => !isD c j) s b ∧ y.2 = p.2 ∧ (∀ k, k ≠ 2 → k ≠ 5 → y.I k = p.I k) ∧ y.I 2 = nI j ∧ (j - s ≤ 2 → y.I 5 = nI (vv c s (j - s)))) (fun y => 150 - (y.I 2).toNatClampNeg) ?_ _ ⟨s, Nat.le_refl _, fs_ge _ _ _, rfl, fun _ _ _ => rfl, e2, fun _ => by rw [show s - s = 0 by omega]; exact e5⟩
  rintro self y ⟨j, h1, hj, a1, a2, a3, a4⟩ hself
  obtain ⟨s1, s2, s3⟩ := fs_step (P := fun j => !isD c j) (b := b) hj hs h1
  have hle := fs_le (P := fun j => !isD c j) hs
  have fin : j = fs (fun j => !isD c j) s b → KX y := fun q => h y a1 a2 (by rw [a3, q]) (by rw [← q]; exact a4)
  unfold wlX7_passFigures_5 wjX7_passFigures_72
  rw [a2 1 (by decide) (by decide), hT.2.1, a3]
  refine pk_le b j (fun hle => fin (s1 hle)) (fun hlt => ?_)
  obtain ⟨g1, g2⟩ := hT.2.2 j hlt
  refine k_within (lo := 48) (hi := 57) (TX_of hT a1 (a2 1 (by decide) (by decide))) hlt (by omega) (by omega) (fun q => b1e ?_) (fun q => b0e (fin (s2 ?_)))
  · have hn := s3 hlt (by rw [(isD_iff c j).mpr q]; rfl)
    have next : ∀ (v : Int32) (y3 y4 : St), y3 = y.sI 5 v → y4 = y3.sI 2 (y3.I 2 + 1) → (j + 1 - s ≤ 2 → v = nI (vv c s (j + 1 - s))) → self y4 := by
      intro v y3 y4 ey3 ey4 hv
      have e32 : y3.I 2 + 1 = nI (j + 1) := by rw [ey3, sI_I, if_neg (by decide), a3]; exact nI_1 j
      rw [e32] at ey4
      refine hself y4 ⟨j + 1, by omega, hn, by rw [ey4, ey3]; exact a1, fun k k2 k5 => by rw [ey4, sI_I, if_neg k2, ey3, sI_I, if_neg k5]; exact a2 k k2 k5, by rw [ey4]; rfl, fun hq => ?_⟩ ?_
      · rw [ey4, sI_I, if_neg (by decide), ey3, sI_I, if_pos rfl]; exact hv hq
      · have : y4.I 2 = nI (j + 1) := by rw [ey4]; rfl
        rw [this, a3, ncl (by omega), ncl (by omega)]; omega
    have e4' : y.I 4 = nI s := (a2 4 (by decide) (by decide)).trans e4
    rw [e4', pk_sub h1, ncl (by omega), A_of2 a1, g1]
    refine pk_le 2 (j - s) (fun h2 y3 ey3 y4 ey4 => next _ y3 y4 ey3 ey4 (fun w => by omega)) (fun h2 => ⟨vp_in_nI (by omega) (by omega), fun y3 ey3 y4 ey4 => next _ y3 y4 ey3 ey4 (fun w => ?_)⟩)
    rw [a4 (by omega), dig_eq q.1, show j + 1 - s = (j - s) + 1 by omega, vv_s, show s + (j - s) = j by omega]
  · have : isD c j = false := Bool.eq_false_iff.mpr (fun w => q ((isD_iff c j).mp w))
    rw [this]; rfl
theorem k_step {p : St} {c : Nat → Nat} {b i : Nat} (hT : TX p c b) (hi : i ≤ b) (e2 : p.I 2 = nI i) {Post : St → Prop} (h : ∀ y : St, y.2 = p.2 → y.I 1 = p.I 1 → y.I 6 = p.I 6 → y.I 7 = p.I 7 → TkC y c b i → Post y) : wpX7_step p Post := by
  have hb := hT.1
  have hs := tS_b (c := c) hi
  unfold wpX7_step
  refine k_skip hT hi e2 (fun y a1 a2 a3 => ?_)
  unfold wjX7_step_38
  intro p3 e3
  have f2 : p3.2 = p.2 := by rw [e3]; exact a1
  have f3 : ∀ k, k ≠ 2 → k ≠ 4 → p3.I k = p.I k := fun k k2 k4 => by rw [e3, sI_I, if_neg k4]; exact a2 k k2
  have f4 : p3.I 4 = nI (tS c b i) := by rw [e3, sI_I, if_pos rfl]; exact a3
  have f5 : p3.I 2 = nI (tS c b i) := by rw [e3, sI_I, if_neg (by decide)]; exact a3
  have hT3 := TX_of hT f2 (f3 1 (by decide) (by decide))
  rw [f5, hT3.2.1]
  refine pk_lt (tS c b i) b (fun hlt => ?_) (fun hge p10 e10 => ?_)
  · have h0 : tS c b i ≠ b := by omega
    refine k_within (lo := 97) (hi := 122) hT3 hlt (by omega) (by omega) (fun q => b1e ?_) (fun q => b0e ?_)
    · have hL := (isL_iff c (tS c b i)).mpr q
      intro p1 e1
      refine k_letters (s := tS c b i) (TX_of hT3 (by rw [e1]; rfl) (by rw [e1]; rfl)) hs.2 (by rw [e1]; exact f5) (fun z b1 b2 b3 => ?_)
      have e3E : tE c b i = fs (fun j => !isL c j) (tS c b i) b := by unfold tE; rw [if_neg h0, if_pos hL]
      refine h z (by rw [b1, e1]; exact f2) ?_ ?_ ?_ ⟨?_, by rw [b3, e3E], ?_, fun w => ?_⟩
      · rw [b2 1 (by decide), e1]; exact f3 1 (by decide) (by decide)
      · rw [b2 6 (by decide), e1]; exact f3 6 (by decide) (by decide)
      · rw [b2 7 (by decide), e1]; exact f3 7 (by decide) (by decide)
      · rw [b2 4 (by decide), e1]; exact f4
      · rw [b2 3 (by decide), e1]
        show (1 : Int32) = nI (tC c b i)
        unfold tC; rw [if_neg h0, if_pos hL]; rfl
      · have := (tK_C c b i).2.2.1.mp w
        unfold tC at this
        rw [if_neg h0, if_pos hL] at this; omega
    · have hL : ¬ isL c (tS c b i) = true := fun w => q ((isL_iff c (tS c b i)).mp w)
      refine k_within (lo := 48) (hi := 57) hT3 hlt (by omega) (by omega) (fun q2 => b1e ?_) (fun q2 => b0e ?_)
      · have hD := (isD_iff c (tS c b i)).mpr q2
        intro p1 e1
        have e3E : tE c b i = fs (fun j => !isD c j) (tS c b i) b := by unfold tE; rw [if_neg h0, if_neg hL, if_pos hD]
        refine k_figures (s := tS c b i) (TX_of hT3 (by rw [e1]; rfl) (by rw [e1]; rfl)) hs.2 (by rw [e1]; exact f5) (by rw [e1]; exact f4) (by rw [e1]; rfl) (fun z b1 b2 b3 b4 => ?_)
        have z4 : z.I 4 = nI (tS c b i) := by rw [b2 4 (by decide) (by decide), e1]; exact f4
        have hge := fs_ge (fun j => !isD c j) (tS c b i) b
        have hle := fs_le (P := fun j => !isD c j) hs.2
        unfold wjX7_passFigures_88 wjX7_passFigures_107
        rw [b3, z4, pk_sub hge]
        have fin : ∀ (v : Nat) (p6 : St), p6 = z.sI 3 (nI v) → v = tC c b i → Post p6 := by
          intro v p6 e6 ev
          refine h p6 (by rw [e6]; exact b1.trans (by rw [e1]; exact f2)) ?_ ?_ ?_ ⟨?_, ?_, ?_, fun w => ?_⟩
          · rw [e6, sI_I, if_neg (by decide), b2 1 (by decide) (by decide), e1]; exact f3 1 (by decide) (by decide)
          · rw [e6, sI_I, if_neg (by decide), b2 6 (by decide) (by decide), e1]; exact f3 6 (by decide) (by decide)
          · rw [e6, sI_I, if_neg (by decide), b2 7 (by decide) (by decide), e1]; exact f3 7 (by decide) (by decide)
          · rw [e6, sI_I, if_neg (by decide)]; exact z4
          · rw [e6, sI_I, if_neg (by decide), b3, e3E]
          · rw [e6, sI_I, if_pos rfl, ev]
          · rw [e6, sI_I, if_neg (by decide)]
            unfold tV
            rw [e3E]
            refine b4 ?_
            have := (tK_C c b i).2.2.1.mp w
            unfold tC at this
            rw [if_neg h0, if_neg hL, if_pos hD, e3E] at this
            by_cases w2 : fs (fun j => !isD c j) (tS c b i) b - tS c b i ≤ 2
            · exact w2
            · rw [if_neg w2] at this; omega
        refine pk_le (fs (fun j => !isD c j) (tS c b i) b - tS c b i) 2 (fun w p6 e6 => fin 2 p6 e6 ?_) (fun w p6 e6 => fin 4 p6 e6 ?_)
        · unfold tC; rw [if_neg h0, if_neg hL, if_pos hD, e3E, if_pos w]
        · unfold tC; rw [if_neg h0, if_neg hL, if_pos hD, e3E, if_neg (by omega)]
      · have hD : ¬ isD c (tS c b i) = true := fun w => q2 ((isD_iff c (tS c b i)).mp w)
        obtain ⟨g1, g2⟩ := hT.2.2 (tS c b i) hlt
        rw [ncl (by omega), A_of2 f2, g1]
        have eE : tE c b i = tS c b i + 1 := by unfold tE; rw [if_neg h0, if_neg hL, if_neg hD]
        unfold wjX7_step_129
        have fin : ∀ (v : Nat) (p6 p7 : St), p6 = p3.sI 3 (nI v) → p7 = p6.sI 2 (p6.I 2 + 1) → v = tC c b i → tK c b i ≠ 6 → Post p7 := by
          intro v p6 p7 e6 e7 ev hk
          have : p6.I 2 + 1 = nI (tS c b i + 1) := by rw [e6, sI_I, if_neg (by decide), f5]; exact nI_1 _
          rw [this] at e7
          refine h p7 (by rw [e7, e6]; exact f2) ?_ ?_ ?_ ⟨?_, ?_, ?_, fun w => absurd w hk⟩
          · rw [e7, sI_I, if_neg (by decide), e6, sI_I, if_neg (by decide)]; exact f3 1 (by decide) (by decide)
          · rw [e7, sI_I, if_neg (by decide), e6, sI_I, if_neg (by decide)]; exact f3 6 (by decide) (by decide)
          · rw [e7, sI_I, if_neg (by decide), e6, sI_I, if_neg (by decide)]; exact f3 7 (by decide) (by decide)
          · rw [e7, sI_I, if_neg (by decide), e6, sI_I, if_neg (by decide)]; exact f4
          · rw [e7, sI_I, if_pos rfl, eE]
          · rw [e7, sI_I, if_neg (by decide), e6, sI_I, if_pos rfl, ev]
        have hk : tK c b i ≠ 6 := fun w => by
          have := (tK_C c b i).2.2.1.mp w
          unfold tC at this
          rw [if_neg h0, if_neg hL, if_neg hD] at this
          split at this <;> omega
        refine ⟨vp_in_nI (by omega) (by omega), fun w p6 e6 p7 e7 => fin 4 p6 p7 e6 e7 ?_ hk, fun w p6 e6 p7 e7 => fin 3 p6 p7 e6 e7 ?_ hk⟩
        · have hne : c (tS c b i) ≠ 59 := fun u => w (by rw [u]; rfl)
          unfold tC; rw [if_neg h0, if_neg hL, if_neg hD, if_neg hne]
        · have he : c (tS c b i) = 59 := (nI_eq (b := 59) (by omega) (by decide)).mp w
          unfold tC; rw [if_neg h0, if_neg hL, if_neg hD, if_pos he]
  · have h0 : tS c b i = b := by omega
    refine h p10 (by rw [e10]; exact f2) ?_ ?_ ?_ ⟨?_, ?_, ?_, fun w => ?_⟩
    · rw [e10, sI_I, if_neg (by decide)]; exact f3 1 (by decide) (by decide)
    · rw [e10, sI_I, if_neg (by decide)]; exact f3 6 (by decide) (by decide)
    · rw [e10, sI_I, if_neg (by decide)]; exact f3 7 (by decide) (by decide)
    · rw [e10, sI_I, if_neg (by decide)]; exact f4
    · rw [e10, sI_I, if_neg (by decide), f5]
      unfold tE; rw [if_pos h0, h0]
    · rw [e10, sI_I, if_pos rfl]
      unfold tC; rw [if_pos h0]; rfl
    · have := (tK_C c b i).2.2.1.mp w
      unfold tC at this
      rw [if_pos h0] at this; omega
end
section
theorem nq {a w : Nat} (ha : a < 2 ^ 31) (hw : w < 2 ^ 31) {A B : Prop} (f : a ≠ w → A) (g : a = w → B) : ((¬ nI a = nI w) → A) ∧ ((nI a = nI w) → B) := ⟨fun q => f (fun e => q (by rw [e])), fun q => g ((nI_eq ha hw).mp q)⟩
def TM (x : St) (c : Nat → Nat) (b : Nat) : Prop := b ≤ 150 ∧ x.I 11 = nI b ∧ ∀ k, k < b → x.A 10 k = nI (c k) ∧ c k < 128
def TkM (y : St) (c : Nat → Nat) (b i : Nat) : Prop := y.I 15 = nI (tS c b i) ∧ y.I 12 = nI (tE c b i) ∧ y.I 13 = nI (tK c b i) ∧ (tK c b i = 6 → y.I 14 = nI (tV c b i))
theorem TM_of {p y : St} {c : Nat → Nat} {b : Nat} (h : TM p c b) (e : y.2 = p.2) (e1 : y.I 11 = p.I 11) : TM y c b := ⟨h.1, e1.trans h.2.1, fun k hk => by rw [A_of2 e]; exact h.2.2 k hk⟩
def cB (c : Nat → Nat) (b j : Nat) : Nat := if j < b then c j else 0
theorem m_byteAt {x : St} {c : Nat → Nat} {b j : Nat} (hT : TM x c b) (hj : j ≤ b) {Post : Int32 → Prop} (h : Post (nI (cB c b j))) : wpX12_byteAt (nI j) x Post := by
  obtain ⟨hb, e1, e2⟩ := hT
  unfold wpX12_byteAt
  unfold cB at h
  rw [e1, ncl (by omega)]
  refine pk_le b j (fun hle => ?_) (fun hlt => ⟨vp_in_nI (by omega) (by omega), ?_⟩)
  · rw [if_neg (by omega)] at h; exact h
  · rw [if_pos hlt] at h; rw [(e2 j hlt).1]; exact h
theorem cB_lt {x : St} {c : Nat → Nat} {b j : Nat} (hT : TM x c b) : cB c b j < 128 := by
  unfold cB
  split
  · rename_i h; exact (hT.2.2 j h).2
  · omega
theorem m_inN {v lo hi : Nat} (hv : v < 2 ^ 31) (hlo : lo < 2 ^ 31) (hhi : hi < 2 ^ 31) {Post : Int32 → Prop} (h1 : lo ≤ v ∧ v ≤ hi → Post 1) (h0 : ¬ (lo ≤ v ∧ v ≤ hi) → Post 0) : wpX12_in ((nI v).toInt64) (lN lo) (lN hi) Post := by
  refine in_rule (lo : Int) (hi : Int) (pk_lT (by omega)) (pk_lT (by omega)) (fun a b => h1 ?_) (fun q => h0 ?_)
  · rw [nI_toInt hv] at a b; omega
  · rw [nI_toInt hv] at q; omega
/-! words -/
theorem m_w0 {p : St} {Post : Int32 → Prop} (x4 x5 x6 z : Int32) (h : Post 0) : wjX12_isWord_84 p Post x4 x5 x6 z 0 := by
  unfold wjX12_isWord_84 wjX12_isWord_118
  exact ⟨fun _ => ⟨fun _ => h, fun q => absurd rfl q⟩, fun q => absurd rfl q⟩
theorem m_word3 {p : St} {c : Nat → Nat} {b s l w1 w2 w3 : Nat} (hT : TM p c b) (hl : s + l ≤ b) (e15 : p.I 15 = nI s) (e12 : p.I 12 = nI (s + l)) (h1 : w1 < 1000) (h2 : w2 < 1000) (h3 : w3 < 1000) {Post : Int32 → Prop} (hy : (l = 3 ∧ c s = w1 ∧ c (s + 1) = w2 ∧ c (s + 2) = w3) → Post 1) (hn : ¬ (l = 3 ∧ c s = w1 ∧ c (s + 1) = w2 ∧ c (s + 2) = w3) → Post 0) : wpX12_isWord (nI w1) (nI w2) (nI w3) 0 0 0 p Post := by
  have hb := hT.1
  unfold wpX12_isWord wjX12_isWord_20
  refine ⟨fun q => absurd rfl q, fun _ => ?_⟩
  rw [e12, e15, pk_sub (by omega), show s + l - s = l by omega]
  refine nq (w := 3) (by omega) (by omega) (fun q => m_w0 _ _ _ _ (hn (fun w => q w.1))) (fun q => ?_)
  subst q
  obtain ⟨a1, c1⟩ := hT.2.2 s (by omega)
  obtain ⟨a2, c2⟩ := hT.2.2 (s + 1) (by omega)
  obtain ⟨a3, c3⟩ := hT.2.2 (s + 2) (by omega)
  rw [show nI s + 1 = nI (s + 1) from nI_1 s, show nI s + 2 = nI (s + 2) from nI_add s 2, ncl (by omega), ncl (by omega), ncl (by omega), a1, a2, a3]
  refine ⟨vp_in_nI (by omega) (by omega), nq (by omega) (by omega) (fun q => m_w0 _ _ _ _ (hn (fun w => q w.2.1))) (fun q1 => ⟨vp_in_nI (by omega) (by omega), nq (by omega) (by omega) (fun q => m_w0 _ _ _ _ (hn (fun w => q w.2.2.1))) (fun q2 => ⟨vp_in_nI (by omega) (by omega), nq (by omega) (by omega) (fun q => m_w0 _ _ _ _ (hn (fun w => q w.2.2.2))) (fun q3 => ?_)⟩)⟩)⟩
  unfold wjX12_isWord_84 wjX12_isWord_118
  exact b1e ⟨fun _ => b1e ⟨fun _ => hy ⟨rfl, q1, q2, q3⟩, fun q => absurd (by decide) q⟩, fun q => absurd (by decide) q⟩
theorem m_word4 {p : St} {c : Nat → Nat} {b s l w1 w2 w3 w4 : Nat} (hT : TM p c b) (hl : s + l ≤ b) (e15 : p.I 15 = nI s) (e12 : p.I 12 = nI (s + l)) (h1 : w1 < 1000) (h2 : w2 < 1000) (h3 : w3 < 1000) (h4 : w4 < 1000) (h40 : w4 ≠ 0) {Post : Int32 → Prop} (hy : (l = 4 ∧ c s = w1 ∧ c (s + 1) = w2 ∧ c (s + 2) = w3 ∧ c (s + 3) = w4) → Post 1) (hn : ¬ (l = 4 ∧ c s = w1 ∧ c (s + 1) = w2 ∧ c (s + 2) = w3 ∧ c (s + 3) = w4) → Post 0) : wpX12_isWord (nI w1) (nI w2) (nI w3) (nI w4) 0 0 p Post := by
  have hb := hT.1
  unfold wpX12_isWord wjX12_isWord_20
  refine ⟨fun _ => ⟨fun q => absurd rfl q, fun _ => ?_⟩, fun q => absurd ((nI_eq (b := 0) (by omega) (by decide)).mp q) h40⟩
  rw [e12, e15, pk_sub (by omega), show s + l - s = l by omega]
  refine nq (w := 4) (by omega) (by omega) (fun q => m_w0 _ _ _ _ (hn (fun w => q w.1))) (fun q => ?_)
  subst q
  obtain ⟨a1, c1⟩ := hT.2.2 s (by omega)
  obtain ⟨a2, c2⟩ := hT.2.2 (s + 1) (by omega)
  obtain ⟨a3, c3⟩ := hT.2.2 (s + 2) (by omega)
  obtain ⟨a4, c4⟩ := hT.2.2 (s + 3) (by omega)
  rw [show nI s + 1 = nI (s + 1) from nI_1 s, show nI s + 2 = nI (s + 2) from nI_add s 2, ncl (by omega), ncl (by omega), ncl (by omega), a1, a2, a3]
  refine ⟨vp_in_nI (by omega) (by omega), nq (by omega) (by omega) (fun q => m_w0 _ _ _ _ (hn (fun w => q w.2.1))) (fun q1 => ⟨vp_in_nI (by omega) (by omega), nq (by omega) (by omega) (fun q => m_w0 _ _ _ _ (hn (fun w => q w.2.2.1))) (fun q2 => ⟨vp_in_nI (by omega) (by omega), nq (by omega) (by omega) (fun q => m_w0 _ _ _ _ (hn (fun w => q w.2.2.2.1))) (fun q3 => ?_)⟩)⟩)⟩
  unfold wjX12_isWord_84 wjX12_isWord_118
  rw [e15, show nI s + 3 = nI (s + 3) from nI_add s 3, ncl (by omega), a4]
  refine b1e ⟨fun q => absurd q (by decide), fun _ => ⟨vp_in_nI (by omega) (by omega), nq (by omega) (by omega) (fun q => b0e (hn (fun w => q w.2.2.2.2))) (fun q4 => b1e ⟨fun _ => hy ⟨rfl, q1, q2, q3, q4⟩, fun q => absurd (by decide) q⟩)⟩⟩
theorem m_word6 {p : St} {c : Nat → Nat} {b s l w1 w2 w3 w4 w5 w6 : Nat} (hT : TM p c b) (hl : s + l ≤ b) (e15 : p.I 15 = nI s) (e12 : p.I 12 = nI (s + l)) (h1 : w1 < 1000) (h2 : w2 < 1000) (h3 : w3 < 1000) (h4 : w4 < 1000) (h5 : w5 < 1000) (h6 : w6 < 1000) (h40 : w4 ≠ 0) (h50 : w5 ≠ 0) {Post : Int32 → Prop} (hy : (l = 6 ∧ c s = w1 ∧ c (s + 1) = w2 ∧ c (s + 2) = w3 ∧ c (s + 3) = w4 ∧ c (s + 4) = w5 ∧ c (s + 5) = w6) → Post 1) (hn : ¬ (l = 6 ∧ c s = w1 ∧ c (s + 1) = w2 ∧ c (s + 2) = w3 ∧ c (s + 3) = w4 ∧ c (s + 4) = w5 ∧ c (s + 5) = w6) → Post 0) : wpX12_isWord (nI w1) (nI w2) (nI w3) (nI w4) (nI w5) (nI w6) p Post := by
  have hb := hT.1
  unfold wpX12_isWord wjX12_isWord_20
  refine ⟨fun _ => ⟨fun _ => ?_, fun q => absurd ((nI_eq (b := 0) (by omega) (by decide)).mp q) h50⟩, fun q => absurd ((nI_eq (b := 0) (by omega) (by decide)).mp q) h40⟩
  rw [e12, e15, pk_sub (by omega), show s + l - s = l by omega]
  refine nq (w := 6) (by omega) (by omega) (fun q => m_w0 _ _ _ _ (hn (fun w => q w.1))) (fun q => ?_)
  subst q
  obtain ⟨a1, c1⟩ := hT.2.2 s (by omega)
  obtain ⟨a2, c2⟩ := hT.2.2 (s + 1) (by omega)
  obtain ⟨a3, c3⟩ := hT.2.2 (s + 2) (by omega)
  obtain ⟨a4, c4⟩ := hT.2.2 (s + 3) (by omega)
  obtain ⟨a5, c5⟩ := hT.2.2 (s + 4) (by omega)
  obtain ⟨a6, c6⟩ := hT.2.2 (s + 5) (by omega)
  rw [show nI s + 1 = nI (s + 1) from nI_1 s, show nI s + 2 = nI (s + 2) from nI_add s 2, ncl (by omega), ncl (by omega), ncl (by omega), a1, a2, a3]
  refine ⟨vp_in_nI (by omega) (by omega), nq (by omega) (by omega) (fun q => m_w0 _ _ _ _ (hn (fun w => q w.2.1))) (fun q1 => ⟨vp_in_nI (by omega) (by omega), nq (by omega) (by omega) (fun q => m_w0 _ _ _ _ (hn (fun w => q w.2.2.1))) (fun q2 => ⟨vp_in_nI (by omega) (by omega), nq (by omega) (by omega) (fun q => m_w0 _ _ _ _ (hn (fun w => q w.2.2.2.1))) (fun q3 => ?_)⟩)⟩)⟩
  unfold wjX12_isWord_84 wjX12_isWord_118
  rw [e15, show nI s + 3 = nI (s + 3) from nI_add s 3, show nI s + 4 = nI (s + 4) from nI_add s 4, show nI s + 5 = nI (s + 5) from nI_add s 5, ncl (by omega), ncl (by omega), ncl (by omega), a4, a5, a6]
  refine b1e ⟨fun q => absurd q (by decide), fun _ => ⟨vp_in_nI (by omega) (by omega), nq (by omega) (by omega) (fun q => b0e (hn (fun w => q w.2.2.2.2.1))) (fun q4 => b1e ⟨fun q => absurd q (by decide), fun _ => ⟨vp_in_nI (by omega) (by omega), nq (by omega) (by omega) (fun q => hn (fun w => q w.2.2.2.2.2.1)) (fun q5 => ⟨vp_in_nI (by omega) (by omega), nq (by omega) (by omega) (fun q => hn (fun w => q w.2.2.2.2.2.2)) (fun q6 => hy ⟨rfl, q1, q2, q3, q4, q5, q6⟩)⟩)⟩⟩)⟩⟩
/-! the next token -/
theorem m_skip {p : St} {c : Nat → Nat} {b i : Nat} (hT : TM p c b) (hi : i ≤ b) (e2 : p.I 12 = nI i) {Post : St → Prop} {KX : St → Prop} (h : ∀ y : St, y.2 = p.2 → (∀ k, k ≠ 12 → y.I k = p.I k) → y.I 12 = nI (tS c b i) → KX y) : ∃ n, wLX12_nextToken_0 Post KX n p := by
  have hb := hT.1
  refine it_rule (F := fun self z => wlX12_nextToken_0 Post KX self z) (fun y => ∃ j, i ≤ j ∧ j ≤ tS c b i ∧ y.2 = p.2 ∧ (∀ k, k ≠ 12 → y.I k = p.I k) ∧ y.I 12 = nI j) (fun y => 150 - (y.I 12).toNatClampNeg) ?_ _ ⟨i, Nat.le_refl _, (tS_b hi).1, rfl, fun _ _ => rfl, e2⟩
  rintro self y ⟨j, h1, hj, a1, a2, a3⟩ hself
  have hs := tS_b (c := c) hi
  obtain ⟨s1, s2, s3⟩ := fs_step (P := nSp c) (b := b) hj hi h1
  have fin : j = tS c b i → KX y := fun q => h y a1 a2 (by rw [a3, q])
  have hTy := TM_of hT a1 (a2 11 (by decide))
  unfold wlX12_nextToken_0
  rw [a3]
  have hcb := cB_lt (j := j) hTy
  refine m_byteAt hTy (by omega) (nq (w := 32) (by omega) (by omega) (fun q => fin ?_) (fun q y' ey => ?_))
  · unfold cB at q
    by_cases hjb : j < b
    · rw [if_pos hjb] at q
      exact s2 (decide_eq_true q)
    · exact s1 (by omega)
  · unfold cB at q
    by_cases hjb : j < b
    · rw [if_pos hjb] at q
      rw [nI_1] at ey
      have hn := s3 hjb (by unfold nSp; exact decide_eq_false (fun w => w q))
      refine hself y' ⟨j + 1, by omega, hn, by rw [ey]; exact a1, fun k hk => by rw [ey, sI_I, if_neg hk]; exact a2 k hk, by rw [ey]; rfl⟩ ?_
      have : y'.I 12 = nI (j + 1) := by rw [ey]; rfl
      rw [this, a3, ncl (by omega), ncl (by omega)]; omega
    · rw [if_neg hjb] at q; omega
theorem cB_at {c : Nat → Nat} {b j : Nat} (h : j < b) : cB c b j = c j := by unfold cB; rw [if_pos h]
theorem m_letters {p : St} {c : Nat → Nat} {b s : Nat} (hT : TM p c b) (hs : s ≤ b) (e2 : p.I 12 = nI s) {Post : St → Prop} {KX : St → Prop} (h : ∀ y : St, y.2 = p.2 → (∀ k, k ≠ 12 → y.I k = p.I k) → y.I 12 = nI (fs (fun j => !isL c j) s b) → KX y) : ∃ n, wLX12_nextToken_81 Post KX n p := by
  have hb := hT.1
  refine it_rule (F := fun self z => wlX12_nextToken_81 Post KX self z) (fun y => ∃ j, s ≤ j ∧ j ≤ fs (fun j => !isL c j) s b ∧ y.2 = p.2 ∧ (∀ k, k ≠ 12 → y.I k = p.I k) ∧ y.I 12 = nI j) (fun y => 150 - (y.I 12).toNatClampNeg) ?_ _ ⟨s, Nat.le_refl _, fs_ge _ _ _, rfl, fun _ _ => rfl, e2⟩
  rintro self y ⟨j, h1, hj, a1, a2, a3⟩ hself
  obtain ⟨s1, s2, s3⟩ := fs_step (P := fun j => !isL c j) (b := b) hj hs h1
  have hle := fs_le (P := fun j => !isL c j) hs
  have fin : j = fs (fun j => !isL c j) s b → KX y := fun q => h y a1 a2 (by rw [a3, q])
  have hTy := TM_of hT a1 (a2 11 (by decide))
  have hcb := cB_lt (j := j) hTy
  unfold wlX12_nextToken_81
  rw [a3]
  refine m_byteAt hTy (by omega) (m_inN (lo := 97) (hi := 122) (by omega) (by omega) (by omega) (fun q => b1e (fun y' ey => ?_)) (fun q => b0e (fin ?_)))
  · have hjb : j < b := by
      refine Nat.lt_of_not_le fun w => ?_
      unfold cB at q
      rw [if_neg (by omega)] at q; omega
    rw [cB_at hjb] at q
    rw [nI_1] at ey
    have hn := s3 hjb (by rw [(isL_iff c j).mpr q]; rfl)
    refine hself y' ⟨j + 1, by omega, hn, by rw [ey]; exact a1, fun k hk => by rw [ey, sI_I, if_neg hk]; exact a2 k hk, by rw [ey]; rfl⟩ ?_
    have : y'.I 12 = nI (j + 1) := by rw [ey]; rfl
    rw [this, a3, ncl (by omega), ncl (by omega)]; omega
  · by_cases hjb : j < b
    · rw [cB_at hjb] at q
      have : isL c j = false := Bool.eq_false_iff.mpr (fun w => q ((isL_iff c j).mp w))
      exact s2 (by rw [this]; rfl)
    · exact s1 (by omega)
theorem m_figures {p : St} {c : Nat → Nat} {b s : Nat} (hT : TM p c b) (hs : s ≤ b) (e2 : p.I 12 = nI s) (e5 : p.I 14 = 0) {Post : St → Prop} {KX : St → Prop} (h : ∀ y : St, y.2 = p.2 → (∀ k, k ≠ 12 → k ≠ 14 → y.I k = p.I k) → y.I 12 = nI (fs (fun j => !isD c j) s b) → (fs (fun j => !isD c j) s b - s ≤ 2 → y.I 14 = nI (vv c s (fs (fun j => !isD c j) s b - s))) → KX y) : ∃ n, wLX12_nextToken_229 Post KX n p := by
  have hb := hT.1
  refine it_rule (F := fun self z => wlX12_nextToken_229 Post KX self z) (fun y => ∃ j, s ≤ j ∧ j ≤ fs (fun j => !isD c j) s b ∧ y.2 = p.2 ∧ (∀ k, k ≠ 12 → k ≠ 14 → y.I k = p.I k) ∧ y.I 12 = nI j ∧ (j - s ≤ 2 → y.I 14 = nI (vv c s (j - s)))) (fun y => 150 - (y.I 12).toNatClampNeg) ?_ _ ⟨s, Nat.le_refl _, fs_ge _ _ _, rfl, fun _ _ _ => rfl, e2, fun _ => by rw [show s - s = 0 by omega]; exact e5⟩
  rintro self y ⟨j, h1, hj, a1, a2, a3, a4⟩ hself
  obtain ⟨s1, s2, s3⟩ := fs_step (P := fun j => !isD c j) (b := b) hj hs h1
  have hle := fs_le (P := fun j => !isD c j) hs
  have fin : j = fs (fun j => !isD c j) s b → KX y := fun q => h y a1 a2 (by rw [a3, q]) (by rw [← q]; exact a4)
  have hTy := TM_of hT a1 (a2 11 (by decide) (by decide))
  have hcb := cB_lt (j := j) hTy
  unfold wlX12_nextToken_229 wjX12_nextToken_287
  rw [a3]
  refine m_byteAt hTy (by omega) (m_inN (lo := 48) (hi := 57) (by omega) (by omega) (by omega) (fun q => b1e ?_) (fun q => b0e (fin ?_)))
  · have hjb : j < b := by
      refine Nat.lt_of_not_le fun w => ?_
      unfold cB at q
      rw [if_neg (by omega)] at q; omega
    rw [cB_at hjb] at q
    have hn := s3 hjb (by rw [(isD_iff c j).mpr q]; rfl)
    have next : ∀ (v : Int32) (y3 y4 : St), y3 = y.sI 14 v → y4 = y3.sI 12 (y3.I 12 + 1) → (j + 1 - s ≤ 2 → v = nI (vv c s (j + 1 - s))) → self y4 := by
      intro v y3 y4 ey3 ey4 hv
      have e32 : y3.I 12 + 1 = nI (j + 1) := by rw [ey3, sI_I, if_neg (by decide), a3]; exact nI_1 j
      rw [e32] at ey4
      refine hself y4 ⟨j + 1, by omega, hn, by rw [ey4, ey3]; exact a1, fun k k2 k5 => by rw [ey4, sI_I, if_neg k2, ey3, sI_I, if_neg k5]; exact a2 k k2 k5, by rw [ey4]; rfl, fun hq => ?_⟩ ?_
      · rw [ey4, sI_I, if_neg (by decide), ey3, sI_I, if_pos rfl]; exact hv hq
      · have : y4.I 12 = nI (j + 1) := by rw [ey4]; rfl
        rw [this, a3, ncl (by omega), ncl (by omega)]; omega
    rw [ncl (by omega), (hTy.2.2 j hjb).1]
    refine ⟨fun h2 => ⟨vp_in_nI (by omega) (by omega), fun y3 ey3 y4 ey4 => next _ y3 y4 ey3 ey4 (fun w => ?_)⟩, fun h2 y3 ey3 y4 ey4 => next _ y3 y4 ey3 ey4 (fun w => absurd ?_ h2)⟩
    · rw [a4 (by omega), dig_eq q.1, show j + 1 - s = (j - s) + 1 by omega, vv_s, show s + (j - s) = j by omega]
    · rw [a4 (by omega)]
      rcases (show j - s = 0 ∨ j - s = 1 by omega) with w0 | w0
      · rw [w0]
        show nI 0 ≤ 99
        decide
      · rw [w0]
        have hd0 := fs_no (P := fun j => !isD c j) (Nat.le_refl s) (b := b) (by omega)
        have hd1 := (isD_iff c s).mp (by simpa using hd0)
        have : vv c s 1 = c s - 48 := by
          show 10 * 0 + c (s + 0) - 48 = _
          rw [Nat.add_zero]; omega
        rw [this]
        exact nI_le (b := 99) (by omega) (by omega)
  · by_cases hjb : j < b
    · rw [cB_at hjb] at q
      have : isD c j = false := Bool.eq_false_iff.mpr (fun w => q ((isD_iff c j).mp w))
      exact s2 (by rw [this]; rfl)
    · exact s1 (by omega)
theorem m_nextToken {p : St} {c : Nat → Nat} {b i : Nat} (hT : TM p c b) (hi : i ≤ b) (e2 : p.I 12 = nI i) {Post : St → Prop} (h : ∀ y : St, y.2 = p.2 → (∀ k, k ≠ 12 → k ≠ 13 → k ≠ 14 → k ≠ 15 → y.I k = p.I k) → TkM y c b i → Post y) : wpX12_nextToken p Post := by
  have hb := hT.1
  have hs := tS_b (c := c) hi
  have hE := tE_b (c := c) hi
  unfold wpX12_nextToken
  refine m_skip hT hi e2 (fun y a1 a2 a3 => ?_)
  intro p4 e4
  have i12 : p4.I 12 = nI (tS c b i) := by rw [e4, sI_I, if_neg (by decide)]; exact a3
  have i11 : p4.I 11 = nI b := by rw [e4, sI_I, if_neg (by decide), a2 11 (by decide)]; exact hT.2.1
  have body : ∀ (v : Nat), (v = 7 ↔ tS c b i = b) → (v = 0 ∨ v = 7) → wjX12_nextToken_52 Post (nI v) p4 := by
    intro v hv hv2 p5 e5 p6 e6
    have f2 : p6.2 = p.2 := by rw [e6, e5, e4]; exact a1
    have f3 : ∀ k, k ≠ 12 → k ≠ 13 → k ≠ 14 → k ≠ 15 → p6.I k = p.I k := fun k k1 k2 k3 k4 => by
      rw [e6, sI_I, if_neg k3, e5, sI_I, if_neg k2, e4, sI_I, if_neg k4]; exact a2 k k1
    have g12 : p6.I 12 = nI (tS c b i) := by rw [e6, sI_I, if_neg (by decide), e5, sI_I, if_neg (by decide)]; exact i12
    have g13 : p6.I 13 = nI v := by rw [e6, sI_I, if_neg (by decide), e5, sI_I, if_pos rfl]
    have g14 : p6.I 14 = 0 := by rw [e6, sI_I, if_pos rfl]
    have g15 : p6.I 15 = nI (tS c b i) := by rw [e6, sI_I, if_neg (by decide), e5, sI_I, if_neg (by decide), e4, sI_I, if_pos rfl]; exact a3
    have hT6 := TM_of hT f2 (f3 11 (by decide) (by decide) (by decide) (by decide))
    have hcb := cB_lt (j := tS c b i) hT6
    rw [g12, g13]
    refine m_byteAt hT6 hs.2 (m_inN (lo := 97) (hi := 122) (by omega) (by omega) (by omega) (fun q => b1e ?_) (fun q => b0e ?_))
    · have hjb : tS c b i < b := by
        refine Nat.lt_of_not_le fun w => ?_
        unfold cB at q
        rw [if_neg (by omega)] at q; omega
      rw [cB_at hjb] at q
      have h0 : tS c b i ≠ b := by omega
      have hL := (isL_iff c (tS c b i)).mpr q
      have eE : tE c b i = fs (fun j => !isL c j) (tS c b i) b := by unfold tE; rw [if_neg h0, if_pos hL]
      have eK : tK c b i = wdK c (tS c b i) (tE c b i - tS c b i) := by unfold tK; rw [if_neg h0, if_pos hL]
      refine m_letters (s := tS c b i) hT6 hs.2 g12 (fun z b1 b2 b3 => ?_)
      rw [← eE] at b3
      have hTz := TM_of hT6 b1 (b2 11 (by decide))
      have z15 : z.I 15 = nI (tS c b i) := by rw [b2 15 (by decide)]; exact g15
      have z12 : z.I 12 = nI (tS c b i + (tE c b i - tS c b i)) := by rw [b3]; congr 1; omega
      have fin : ∀ (v : Nat) (p28 : St), p28 = z.sI 13 (nI v) → tK c b i = v → v ≠ 6 → Post p28 := by
        intro v p28 e28 ev hv6
        refine h p28 (by rw [e28]; exact b1.trans f2) (fun k k1 k2 k3 k4 => by rw [e28, sI_I, if_neg k2, b2 k k1]; exact f3 k k1 k2 k3 k4) ⟨?_, ?_, ?_, fun w => ?_⟩
        · rw [e28, sI_I, if_neg (by decide)]; exact z15
        · rw [e28, sI_I, if_neg (by decide)]; exact b3
        · rw [e28, sI_I, if_pos rfl, ev]
        · omega
      unfold wjX12_nextToken_202
      refine m_word3 (w1 := 112) (w2 := 97) (w3 := 100) hTz (by omega) z15 z12 (by omega) (by omega) (by omega) (fun q1 => b1e (fun p28 e28 => fin 1 p28 e28 ?_ (by omega))) (fun q1 => b0e ?_)
      · rw [eK]; unfold wdK; rw [if_pos q1]
      refine m_word6 (w1 := 99) (w2 := 97) (w3 := 114) (w4 := 98) (w5 := 111) (w6 := 110) hTz (by omega) z15 z12 (by omega) (by omega) (by omega) (by omega) (by omega) (by omega) (by omega) (by omega) (fun q2 => b1e (fun p28 e28 => fin 2 p28 e28 ?_ (by omega))) (fun q2 => b0e ?_)
      · rw [eK]; unfold wdK; rw [if_neg q1, if_pos q2]
      refine m_word4 (w1 := 110) (w2 := 111) (w3 := 116) (w4 := 101) hTz (by omega) z15 z12 (by omega) (by omega) (by omega) (by omega) (by omega) (fun q3 => b1e (fun p28 e28 => fin 3 p28 e28 ?_ (by omega))) (fun q3 => b0e ?_)
      · rw [eK]; unfold wdK; rw [if_neg q1, if_neg q2, if_pos q3]
      refine m_word4 (w1 := 116) (w2 := 101) (w3 := 97) (w4 := 114) hTz (by omega) z15 z12 (by omega) (by omega) (by omega) (by omega) (by omega) (fun q4 => b1e (fun p28 e28 => fin 4 p28 e28 ?_ (by omega))) (fun q4 => b0e (fun p28 e28 => fin 0 p28 e28 ?_ (by omega)))
      · rw [eK]; unfold wdK; rw [if_neg q1, if_neg q2, if_neg q3, if_pos q4]
      · rw [eK]; unfold wdK; rw [if_neg q1, if_neg q2, if_neg q3, if_neg q4]
    · refine m_byteAt hT6 hs.2 (m_inN (lo := 48) (hi := 57) (by omega) (by omega) (by omega) (fun q2 => b1e ?_) (fun q2 => b0e ?_))
      · have hjb : tS c b i < b := by
          refine Nat.lt_of_not_le fun w => ?_
          unfold cB at q2
          rw [if_neg (by omega)] at q2; omega
        rw [cB_at hjb] at q q2
        have h0 : tS c b i ≠ b := by omega
        have hL : ¬ isL c (tS c b i) = true := fun w => q ((isL_iff c (tS c b i)).mp w)
        have hD := (isD_iff c (tS c b i)).mpr q2
        have eE : tE c b i = fs (fun j => !isD c j) (tS c b i) b := by unfold tE; rw [if_neg h0, if_neg hL, if_pos hD]
        have eK : tK c b i = if tE c b i - tS c b i ≤ 2 then 6 else 0 := by unfold tK; rw [if_neg h0, if_neg hL, if_pos hD]
        refine m_figures (s := tS c b i) hT6 hs.2 g12 g14 (fun z b1 b2 b3 b4 => ?_)
        rw [← eE] at b3 b4
        have z15 : z.I 15 = nI (tS c b i) := by rw [b2 15 (by decide) (by decide)]; exact g15
        unfold wjX12_nextToken_323
        rw [b3, z15, pk_sub hE.1]
        have fin : ∀ (v : Nat) (p28 : St), p28 = z.sI 13 (nI v) → tK c b i = v → Post p28 := by
          intro v p28 e28 ev
          refine h p28 (by rw [e28]; exact b1.trans f2) (fun k k1 k2 k3 k4 => by rw [e28, sI_I, if_neg k2, b2 k k1 k3]; exact f3 k k1 k2 k3 k4) ⟨?_, ?_, ?_, fun w => ?_⟩
          · rw [e28, sI_I, if_neg (by decide)]; exact z15
          · rw [e28, sI_I, if_neg (by decide)]; exact b3
          · rw [e28, sI_I, if_pos rfl, ev]
          · rw [e28, sI_I, if_neg (by decide)]
            refine b4 ?_
            rw [eK] at w
            by_cases w2 : tE c b i - tS c b i ≤ 2
            · exact w2
            · rw [if_neg w2] at w; omega
        refine pk_le (tE c b i - tS c b i) 2 (fun w p28 e28 => fin 6 p28 e28 ?_) (fun w p28 e28 => fin 0 p28 e28 ?_)
        · rw [eK, if_pos w]
        · rw [eK, if_neg (by omega)]
      · rcases hv2 with hv0 | hv7
        · subst hv0
          refine ⟨fun w => absurd rfl w, fun _ => ?_⟩
          have h0 : tS c b i ≠ b := fun w => absurd (hv.mpr w) (by omega)
          have hjb : tS c b i < b := by omega
          rw [cB_at hjb] at q q2
          have hL : ¬ isL c (tS c b i) = true := fun w => q ((isL_iff c (tS c b i)).mp w)
          have hD : ¬ isD c (tS c b i) = true := fun w => q2 ((isD_iff c (tS c b i)).mp w)
          have eE : tE c b i = tS c b i + 1 := by unfold tE; rw [if_neg h0, if_neg hL, if_neg hD]
          have eK : tK c b i = if c (tS c b i) = 59 then 5 else 0 := by unfold tK; rw [if_neg h0, if_neg hL, if_neg hD]
          have fin : ∀ (v : Nat) (p12 p13 : St), p12 = p6.sI 13 (nI v) → p13 = p12.sI 12 (p12.I 12 + 1) → tK c b i = v → v ≠ 6 → Post p13 := by
            intro v p12 p13 e12 e13 ev hv6
            have : p12.I 12 + 1 = nI (tE c b i) := by rw [e12, sI_I, if_neg (by decide), g12, eE]; exact nI_1 _
            rw [this] at e13
            refine h p13 (by rw [e13, e12]; exact f2) (fun k k1 k2 k3 k4 => by rw [e13, sI_I, if_neg k1, e12, sI_I, if_neg k2]; exact f3 k k1 k2 k3 k4) ⟨?_, ?_, ?_, fun w => ?_⟩
            · rw [e13, sI_I, if_neg (by decide), e12, sI_I, if_neg (by decide)]; exact g15
            · rw [e13, sI_I, if_pos rfl]
            · rw [e13, sI_I, if_neg (by decide), e12, sI_I, if_pos rfl, ev]
            · omega
          unfold wjX12_nextToken_355
          refine m_byteAt hT6 hs.2 ?_
          rw [cB_at hjb] at hcb ⊢
          refine nq (w := 59) (by omega) (by omega) (fun w p12 e12 p13 e13 => fin 0 p12 p13 e12 e13 ?_ (by omega)) (fun w p12 e12 p13 e13 => fin 5 p12 p13 e12 e13 ?_ (by omega))
          · rw [eK, if_neg w]
          · rw [eK, if_pos w]
        · subst hv7
          refine ⟨fun _ => ?_, fun w => absurd w (by decide)⟩
          have h0 : tS c b i = b := hv.mp rfl
          have eE : tE c b i = b := by unfold tE; rw [if_pos h0]
          have eK : tK c b i = 7 := by unfold tK; rw [if_pos h0]
          refine h p6 f2 f3 ⟨g15, by rw [g12, eE, h0], by rw [g13, eK], fun w => by omega⟩
  rw [i12, i11]
  refine nq (by omega) (by omega) (fun q => body 0 ⟨fun w => by omega, fun w => absurd w q⟩ (Or.inl rfl)) (fun q => body 7 ⟨fun _ => q, fun _ => rfl⟩ (Or.inr rfl))
end
section
/-! words of the class -/
def WN (w j : Nat) : Nat := ((if w = 0 then [112, 97, 100] else if w = 1 then [99, 97, 114, 98, 111, 110] else if w = 2 then [116, 101, 97, 114] else [110, 111, 116, 101]) : List Nat).getD j 0
def wCode (w : Nat) : Nat := if w = 0 then 1 else if w = 1 then 2 else if w = 2 then 4 else 3
theorem WN_ok : ∀ w, w < 4 → ∀ j, j < lenS.getD w 0 → (bytS.getD w []).getD j 0 = nI (WN w j) ∧ WN w j < 1000 := by decide +kernel
theorem lenS_le : ∀ w, w < 4 → lenS.getD w 0 ≤ 6 := by decide
theorem wd_iff {c : Nat → Nat} {s l w : Nat} (hw : w < 4) : wdK c s l = wCode w ↔ l = lenS.getD w 0 ∧ ∀ j, j < lenS.getD w 0 → c (s + j) = WN w j := by
  have a3 : ∀ f : Nat → Nat, (∀ j, j < 3 → c (s + j) = f j) ↔ c s = f 0 ∧ c (s + 1) = f 1 ∧ c (s + 2) = f 2 := fun f => ⟨fun h => ⟨h 0 (by omega), h 1 (by omega), h 2 (by omega)⟩, fun h j hj => by
    rcases (show j = 0 ∨ j = 1 ∨ j = 2 by omega) with rfl | rfl | rfl
    · exact h.1
    · exact h.2.1
    · exact h.2.2⟩
  have a4 : ∀ f : Nat → Nat, (∀ j, j < 4 → c (s + j) = f j) ↔ c s = f 0 ∧ c (s + 1) = f 1 ∧ c (s + 2) = f 2 ∧ c (s + 3) = f 3 := fun f => ⟨fun h => ⟨h 0 (by omega), h 1 (by omega), h 2 (by omega), h 3 (by omega)⟩, fun h j hj => by
    rcases (show j = 0 ∨ j = 1 ∨ j = 2 ∨ j = 3 by omega) with rfl | rfl | rfl | rfl
    · exact h.1
    · exact h.2.1
    · exact h.2.2.1
    · exact h.2.2.2⟩
  have a6 : ∀ f : Nat → Nat, (∀ j, j < 6 → c (s + j) = f j) ↔ c s = f 0 ∧ c (s + 1) = f 1 ∧ c (s + 2) = f 2 ∧ c (s + 3) = f 3 ∧ c (s + 4) = f 4 ∧ c (s + 5) = f 5 := fun f => ⟨fun h => ⟨h 0 (by omega), h 1 (by omega), h 2 (by omega), h 3 (by omega), h 4 (by omega), h 5 (by omega)⟩, fun h j hj => by
    rcases (show j = 0 ∨ j = 1 ∨ j = 2 ∨ j = 3 ∨ j = 4 ∨ j = 5 by omega) with rfl | rfl | rfl | rfl | rfl | rfl
    · exact h.1
    · exact h.2.1
    · exact h.2.2.1
    · exact h.2.2.2.1
    · exact h.2.2.2.2.1
    · exact h.2.2.2.2.2⟩
  rcases (show w = 0 ∨ w = 1 ∨ w = 2 ∨ w = 3 by omega) with rfl | rfl | rfl | rfl
  · show wdK c s l = 1 ↔ l = 3 ∧ ∀ j, j < 3 → c (s + j) = WN 0 j
    rw [a3 (WN 0)]
    show wdK c s l = 1 ↔ l = 3 ∧ c s = 112 ∧ c (s + 1) = 97 ∧ c (s + 2) = 100
    unfold wdK
    split
    · rename_i h; exact ⟨fun _ => h, fun _ => rfl⟩
    · rename_i h
      refine ⟨fun q => ?_, fun q => absurd q h⟩
      split at q
      · omega
      · split at q
        · omega
        · split at q <;> omega
  · show wdK c s l = 2 ↔ l = 6 ∧ ∀ j, j < 6 → c (s + j) = WN 1 j
    rw [a6 (WN 1)]
    show wdK c s l = 2 ↔ l = 6 ∧ c s = 99 ∧ c (s + 1) = 97 ∧ c (s + 2) = 114 ∧ c (s + 3) = 98 ∧ c (s + 4) = 111 ∧ c (s + 5) = 110
    unfold wdK
    split
    · rename_i h; exact ⟨fun q => by omega, fun q => by omega⟩
    · split
      · rename_i h1 h; exact ⟨fun _ => h, fun _ => rfl⟩
      · rename_i h1 h
        refine ⟨fun q => ?_, fun q => absurd q h⟩
        split at q
        · omega
        · split at q <;> omega
  · show wdK c s l = 4 ↔ l = 4 ∧ ∀ j, j < 4 → c (s + j) = WN 2 j
    rw [a4 (WN 2)]
    show wdK c s l = 4 ↔ l = 4 ∧ c s = 116 ∧ c (s + 1) = 101 ∧ c (s + 2) = 97 ∧ c (s + 3) = 114
    unfold wdK
    split
    · rename_i h; exact ⟨fun q => by omega, fun q => by omega⟩
    · split
      · rename_i h1 h; exact ⟨fun q => by omega, fun q => by omega⟩
      · split
        · rename_i h1 h2 h; exact ⟨fun q => by omega, fun q => by omega⟩
        · split
          · rename_i h1 h2 h3 h; exact ⟨fun _ => h, fun _ => rfl⟩
          · rename_i h1 h2 h3 h; exact ⟨fun q => by omega, fun q => absurd q h⟩
  · show wdK c s l = 3 ↔ l = 4 ∧ ∀ j, j < 4 → c (s + j) = WN 3 j
    rw [a4 (WN 3)]
    show wdK c s l = 3 ↔ l = 4 ∧ c s = 110 ∧ c (s + 1) = 111 ∧ c (s + 2) = 116 ∧ c (s + 3) = 101
    unfold wdK
    split
    · rename_i h; exact ⟨fun q => by omega, fun q => by omega⟩
    · split
      · rename_i h1 h; exact ⟨fun q => by omega, fun q => by omega⟩
      · split
        · rename_i h1 h2 h; exact ⟨fun _ => h, fun _ => rfl⟩
        · rename_i h1 h2 h
          refine ⟨fun q => ?_, fun q => absurd q h⟩
          split at q <;> omega
theorem tK_word (c : Nat → Nat) (b i : Nat) : (tC c b i = 1 → tK c b i = wdK c (tS c b i) (tE c b i - tS c b i)) ∧ (tC c b i ≠ 1 → tK c b i = 0 ∨ 5 ≤ tK c b i) := by
  unfold tK tC
  by_cases h0 : tS c b i = b
  · rw [if_pos h0, if_pos h0]; exact ⟨fun q => by omega, fun _ => by omega⟩
  · rw [if_neg h0, if_neg h0]
    by_cases h1 : isL c (tS c b i) = true
    · rw [if_pos h1, if_pos h1]; exact ⟨fun _ => rfl, fun q => absurd rfl q⟩
    · rw [if_neg h1, if_neg h1]
      by_cases h2 : isD c (tS c b i) = true
      · rw [if_pos h2, if_pos h2]
        split
        · exact ⟨fun q => by omega, fun _ => by omega⟩
        · exact ⟨fun q => by omega, fun _ => by omega⟩
      · rw [if_neg h2, if_neg h2]
        split
        · exact ⟨fun q => by omega, fun _ => by omega⟩
        · exact ⟨fun q => by omega, fun _ => by omega⟩
theorem wCode_b (w : Nat) : 1 ≤ wCode w ∧ wCode w ≤ 4 := by
  unfold wCode
  split
  · omega
  · split
    · omega
    · split <;> omega
theorem k_isWord {p : St} {c : Nat → Nat} {b i w : Nat} (hT : TX p c b) (hi : i ≤ b) (hk : TkC p c b i) (hw : w < 4) {Post : Int32 → Prop} (h1 : tK c b i = wCode w → Post 1) (h0 : tK c b i ≠ wCode w → Post 0) : wpX7_isWord w p Post := by
  have hb := hT.1
  have hs := tS_b (c := c) hi
  have hE := tE_b (c := c) hi
  obtain ⟨k4, k2, k3, k5⟩ := hk
  obtain ⟨w1, w2⟩ := tK_word c b i
  have hC := (tK_C c b i).2.2.2.1
  have hwc := wCode_b w
  unfold wpX7_isWord
  rw [k3, k2, k4, pk_sub hE.1]
  refine nq (w := 1) (by omega) (by omega) (fun q => h0 (by have := w2 q; omega)) (fun q => ⟨hw, ?_⟩)
  have hl6 := lenS_le w hw
  rw [w1 q] at h1 h0
  have hiff := wd_iff (c := c) (s := tS c b i) (l := tE c b i - tS c b i) hw
  refine ⟨fun hl => ?_, fun hl => h0 (fun w => hl (by rw [(hiff.mp w).1]))⟩
  have hl' : tE c b i - tS c b i = lenS.getD w 0 := (nI_eq (by omega) (by omega)).mp hl
  refine it_rule (F := fun self z => wlX7_isWord_28 w p Post (Post 1) self z) (fun z => ∃ j, z = nI j ∧ j ≤ lenS.getD w 0 ∧ ∀ k, k < j → c (tS c b i + k) = WN w k) (fun z => 6 - z.toNatClampNeg) ?_ _ ⟨0, rfl, by omega, fun k hk => absurd hk (Nat.not_lt_zero k)⟩
  rintro self z ⟨j, rfl, hj, a⟩ hself
  unfold wlX7_isWord_28
  refine ⟨hw, pk_le (lenS.getD w 0) j (fun hle => h1 (hiff.mpr ⟨hl', fun k hk => a k (by omega)⟩)) (fun hlt => ?_)⟩
  obtain ⟨g1, g2⟩ := hT.2.2 (tS c b i + j) (by omega)
  obtain ⟨g3, g4⟩ := WN_ok w hw j hlt
  rw [k4, nI_add, ncl (by omega), ncl (by omega), g1, g3]
  refine ⟨vp_in_nI (by omega) (by omega), hw, vp_in_nI (by omega) (by omega), fun q z ez => ?_, fun q => h0 (fun w => q ?_)⟩
  · have hq := (nI_eq (by omega) (by omega)).mp q
    rw [ez, nI_1]
    refine hself _ ⟨j + 1, rfl, by omega, fun k hk => ?_⟩ (by rw [ncl (by omega), ncl (by omega)]; omega)
    by_cases hkj : k = j
    · subst hkj; exact hq
    · exact a k (by omega)
  · rw [(hiff.mp w).2 j hlt]
def inN (c : Nat → Nat) (b i lo hi : Nat) : Prop := tK c b i = 6 ∧ lo ≤ tV c b i ∧ tV c b i ≤ hi
theorem k_isNumber {p : St} {c : Nat → Nat} {b i lo hi : Nat} (hi' : i ≤ b) (hk : TkC p c b i) (hlo : lo < 1000) (hhi : hi < 1000) {Post : Int32 → Prop} (h1 : inN c b i lo hi → Post 1) (h0 : ¬ inN c b i lo hi → Post 0) : wpX7_isNumber (nI lo) (nI hi) p Post := by
  obtain ⟨k4, k2, k3, k5⟩ := hk
  have hC := tK_C c b i
  unfold wpX7_isNumber
  rw [k3]
  refine nq (w := 2) (by omega) (by omega) (fun q => h0 (fun w => q (hC.2.2.1.mp w.1))) (fun q => ?_)
  have hK := hC.2.2.1.mpr q
  have hV := tV_b hi' hK
  rw [k5 hK]
  refine pk_lt (tV c b i) lo (fun g => h0 (fun w => by have := w.2.1; omega)) (fun g => pk_lt hi (tV c b i) (fun g2 => h0 (fun w => by have := w.2.2; omega)) (fun g2 => h1 ⟨hK, g, g2⟩))
theorem k_passStop {p : St} {c : Nat → Nat} {b i : Nat} (hT : TX p c b) (hi : i ≤ b) (hk : TkC p c b i) {Post : Int32 → St → Prop} (h1 : tK c b i = 5 → ∀ y : St, y.2 = p.2 → y.I 1 = p.I 1 → TkC y c b (tE c b i) → Post 1 y) (h0 : tK c b i ≠ 5 → Post 0 p) : wpX7_passStop p Post := by
  have hk' := hk
  obtain ⟨k4, k2, k3, k5⟩ := hk'
  have hC := tK_C c b i
  have hE := tE_b (c := c) hi
  unfold wpX7_passStop
  rw [k3]
  refine ⟨fun q => ?_, fun q => h0 (fun w => q (by rw [hC.2.1.mp w]; rfl))⟩
  have hK := hC.2.1.mpr ((nI_eq (b := 3) (by omega) (by decide)).mp q)
  exact k_step hT hE.2.1 k2 (fun y a1 a2 a3 a4 a5 => h1 hK y a1 a2 a5)
/-! the cells of a note -/
def cel (c : Nat → Nat) (b : Nat) : Nat → Nat → Nat → Nat → Nat × Nat
  | 0, _, acc, i => (acc, i)
  | f + 1, le, acc, i => if tK c b i = 6 ∧ le ≤ tV c b i ∧ tV c b i ≤ 11 then cel c b f (tV c b i + 1) (acc ||| 2 ^ tV c b i) (tE c b i) else (acc, i)
theorem cel_s (c : Nat → Nat) (b f le acc i : Nat) : cel c b (f + 1) le acc i = if tK c b i = 6 ∧ le ≤ tV c b i ∧ tV c b i ≤ 11 then cel c b f (tV c b i + 1) (acc ||| 2 ^ tV c b i) (tE c b i) else (acc, i) := rfl
theorem cel_b {c : Nat → Nat} {b : Nat} : ∀ (f le acc i : Nat), i ≤ b → acc < 4096 → i ≤ (cel c b f le acc i).2 ∧ (cel c b f le acc i).2 ≤ b ∧ (cel c b f le acc i).1 < 4096
  | 0, le, acc, i, hi, ha => ⟨Nat.le_refl _, hi, ha⟩
  | f + 1, le, acc, i, hi, ha => by
    rw [cel_s]
    split
    · rename_i h
      have hE := tE_b (c := c) hi
      have hs := tS_b (c := c) hi
      have := cel_b (c := c) f (tV c b i + 1) (acc ||| 2 ^ tV c b i) (tE c b i) hE.2.1 (or_lt (n := 12) ha (by omega))
      exact ⟨by omega, this.2⟩
    · exact ⟨Nat.le_refl _, hi, ha⟩
theorem k_readCells {p : St} {c : Nat → Nat} {b i : Nat} (hT : TX p c b) (hi : i ≤ b) (hk : TkC p c b i) {Post : Int32 → St → Prop} (h : ∀ y : St, y.2 = p.2 → y.I 1 = p.I 1 → y.I 6 = p.I 6 → y.I 7 = p.I 7 → TkC y c b (cel c b 12 0 0 i).2 → Post (nI (cel c b 12 0 0 i).1) y) : wpX7_readCells p Post := by
  unfold wpX7_readCells
  refine it_rule (F := fun self z => wlX7_readCells_6 Post _ self z.1 z.2.1 z.2.2.1 z.2.2.2) (fun z => ∃ (t acc le j : Nat) (y : St), z = (nI acc, nI le, nI t, y) ∧ t ≤ 12 ∧ le ≤ 12 ∧ j ≤ b ∧ acc < 4096 ∧ cel c b (12 - t) le acc j = cel c b 12 0 0 i ∧ y.2 = p.2 ∧ y.I 1 = p.I 1 ∧ y.I 6 = p.I 6 ∧ y.I 7 = p.I 7 ∧ TkC y c b j) (fun z => 12 - z.2.2.1.toNatClampNeg) ?_ _ ⟨0, 0, 0, i, p, rfl, by omega, by omega, hi, by omega, rfl, rfl, rfl, rfl, rfl, hk⟩
  rintro self z ⟨t, acc, le, j, y, rfl, ht, hle, hj, hacc, hc, a1, a2, a3, a4, a5⟩ hself
  dsimp only at hself ⊢
  unfold wlX7_readCells_6
  refine pk_le 12 t (fun hge => ?_) (fun hlt => ?_)
  · rw [show 12 - t = 0 by omega] at hc
    have e1 : (cel c b 12 0 0 i).1 = acc := by rw [← hc]; rfl
    have e2 : (cel c b 12 0 0 i).2 = j := by rw [← hc]; rfl
    rw [← e1]
    exact h y a1 a2 a3 a4 (by rw [e2]; exact a5)
  · rw [show 12 - t = (12 - (t + 1)) + 1 by omega, cel_s] at hc
    have hTy := TX_of hT a1 a2
    refine k_isNumber (hi := 11) hj a5 (by omega) (by omega) (fun q => b1e (fun acc' ea le' el => ?_)) (fun q => b0e ?_)
    · unfold inN at q
      rw [if_pos q] at hc
      have hV := q.2.2
      rw [a5.2.2.2 q.1, sh_or (by omega)] at ea
      rw [a5.2.2.2 q.1, nI_1] at el
      have hE := tE_b (c := c) hj
      refine k_step hTy hE.2.1 a5.2.1 (fun y4 b1 b2 b3 b4 b5 t' et => ?_)
      subst ea; subst el; subst et
      rw [nI_1]
      exact hself _ ⟨t + 1, acc ||| 2 ^ tV c b j, tV c b j + 1, tE c b j, y4, rfl, by omega, by omega, hE.2.1, or_lt (n := 12) hacc (by omega), hc, b1.trans a1, b2.trans a2, b3.trans a3, b4.trans a4, b5⟩ (by dsimp only; rw [ncl (by omega), ncl (by omega)]; omega)
    · unfold inN at q
      rw [if_neg q] at hc
      have e1 : (cel c b 12 0 0 i).1 = acc := by rw [← hc]
      have e2 : (cel c b 12 0 0 i).2 = j := by rw [← hc]
      rw [← e1]
      exact h y a1 a2 a3 a4 (by rw [e2]; exact a5)
end
section
/-! items -/
def trI (it : Nat × Nat × Nat × Nat) : Nat := if it.1 = 4 then 1 else 0
def ntI (it : Nat × Nat × Nat × Nat) : Nat := if it.1 = 3 then 1 else 0
def ItOk (c : Nat → Nat) (b n T m i : Nat) (it : Nat × Nat × Nat × Nat) (i' : Nat) : Prop :=
  (tK c b i = 2 ∧ inN c b (tE c b i) 0 (n - 1) ∧ tK c b (tE c b (tE c b i)) = 5 ∧ it = (2, tV c b (tE c b i), 0, 0) ∧ i' = tE c b (tE c b (tE c b i))) ∨
  (tK c b i = 4 ∧ T < n ∧ tK c b (tE c b i) = 5 ∧ it = (4, 0, 0, 0) ∧ i' = tE c b (tE c b i)) ∨
  (tK c b i = 3 ∧ T < n ∧ m < 10 ∧ inN c b (tE c b i) 0 5 ∧ inN c b (tE c b (tE c b i)) 1 9 ∧ tK c b (cel c b 12 0 0 (tE c b (tE c b (tE c b i)))).2 = 5 ∧ it = (3, tV c b (tE c b i), tV c b (tE c b (tE c b i)), (cel c b 12 0 0 (tE c b (tE c b (tE c b i)))).1) ∧ i' = tE c b (cel c b 12 0 0 (tE c b (tE c b (tE c b i)))).2)
def ItBad (c : Nat → Nat) (b n T m i f : Nat) : Prop :=
  (tK c b i ≠ 7 ∧ ((tK c b i ≠ 2 ∧ tK c b i ≠ 3 ∧ tK c b i ≠ 4) ∨ (tK c b i = 4 ∧ T = n) ∨ (tK c b i = 3 ∧ (T = n ∨ m = 10))) ∧ f = tS c b i) ∨
  (tK c b i = 2 ∧ ¬ inN c b (tE c b i) 0 (n - 1) ∧ f = tS c b (tE c b i)) ∨
  (tK c b i = 2 ∧ inN c b (tE c b i) 0 (n - 1) ∧ tK c b (tE c b (tE c b i)) ≠ 5 ∧ f = tS c b (tE c b (tE c b i))) ∨
  (tK c b i = 4 ∧ T < n ∧ tK c b (tE c b i) ≠ 5 ∧ f = tS c b (tE c b i)) ∨
  (tK c b i = 3 ∧ T < n ∧ m < 10 ∧ ¬ inN c b (tE c b i) 0 5 ∧ f = tS c b (tE c b i)) ∨
  (tK c b i = 3 ∧ T < n ∧ m < 10 ∧ inN c b (tE c b i) 0 5 ∧ ¬ inN c b (tE c b (tE c b i)) 1 9 ∧ f = tS c b (tE c b (tE c b i))) ∨
  (tK c b i = 3 ∧ T < n ∧ m < 10 ∧ inN c b (tE c b i) 0 5 ∧ inN c b (tE c b (tE c b i)) 1 9 ∧ tK c b (cel c b 12 0 0 (tE c b (tE c b (tE c b i)))).2 ≠ 5 ∧ f = tS c b (cel c b 12 0 0 (tE c b (tE c b (tE c b i)))).2)
theorem tE_lt {c : Nat → Nat} {b i : Nat} (hi : i ≤ b) (hk : tK c b i ≠ 7) : i < tE c b i := by
  have hs := tS_b (c := c) hi
  have hE := tE_b (c := c) hi
  have : tS c b i ≠ b := fun w => hk (by unfold tK; rw [if_pos w])
  have := hE.2.2 (by omega)
  omega
theorem ItOk_b {c : Nat → Nat} {b n T m i i' : Nat} {it : Nat × Nat × Nat × Nat} (hi : i ≤ b) (h : ItOk c b n T m i it i') : i < i' ∧ i' ≤ b := by
  have h1 := tE_b (c := c) hi
  have h2 := tE_b (c := c) h1.2.1
  have h3 := tE_b (c := c) h2.2.1
  have s1 := tS_b (c := c) h1.2.1
  have s2 := tS_b (c := c) h2.2.1
  have s3 := tS_b (c := c) h3.2.1
  rcases h with ⟨k, -, -, -, e⟩ | ⟨k, -, -, -, e⟩ | ⟨k, -, -, -, -, -, -, e⟩
  · have := tE_lt hi (by omega : tK c b i ≠ 7); omega
  · have := tE_lt hi (by omega : tK c b i ≠ 7); omega
  · have := tE_lt hi (by omega : tK c b i ≠ 7)
    have hc := cel_b (c := c) 12 0 0 (tE c b (tE c b (tE c b i))) h3.2.1 (by omega)
    have h4 := tE_b (c := c) hc.2.1
    have s4 := tS_b (c := c) hc.2.1
    omega
def DStep (q q' : St) (n T m : Nat) (it : Nat × Nat × Nat × Nat) : Prop := (it.1 = 2 ∧ q' = q.sI 4 (q.I 4 ||| ((1 : Int32) <<< (nI it.2.1 &&& 31)))) ∨ (it.1 = 4 ∧ q' = q.sA 0 (upd (q.A 0) 0 (q.A 0 0 + 1))) ∨ (it.1 = 3 ∧ PutN q q' n T m it.2.1 it.2.2.1 it.2.2.2)
theorem k_item {p q : St} {c : Nat → Nat} {b i n T m : Nat} (hT : TX p c b) (hi : i ≤ b) (hk : TkC p c b i) (h7 : tK c b i ≠ 7) (h1n : 1 ≤ n) (hn : n ≤ 6) (hTn : T ≤ n) (hm : m ≤ 10) (eI : q.I 3 = nI n) (eT : q.A 0 0 = nI T) (em : q.A 0 1 = nI m) {Post : Int32 → (St × St) → Prop} (h1 : ∀ it i' p' q', ItOk c b n T m i it i' → p'.2 = p.2 → p'.I 1 = p.I 1 → TkC p' c b i' → DStep q q' n T m it → Post 1 (p', q')) (h0 : ∀ f p' q', ItBad c b n T m i f → p'.2 = p.2 → p'.I 1 = p.I 1 → p'.I 4 = nI f → Post 0 (p', q')) : wpX7_readItem p q Post := by
  have hb := hT.1
  have hE1 := tE_b (c := c) hi
  have hE2 := tE_b (c := c) hE1.2.1
  have hE3 := tE_b (c := c) hE2.2.1
  have hE4 := tE_b (c := c) hE3.2.1
  have hcel := cel_b (c := c) 12 0 0 (tE c b (tE c b (tE c b i))) hE3.2.1 (by omega)
  unfold wpX7_readItem
  refine k_isWord (w := 1) hT hi hk (by omega) (fun w1 => b1e ?_) (fun w1 => b0e ?_)
  · -- carbon
    have w1 : tK c b i = 2 := w1
    unfold wpX7_readCarbon
    refine k_step hT hE1.2.1 hk.2.1 (fun y a1 a2 a3 a4 a5 => ?_)
    rw [eI, show nI n - 1 = nI (n - 1) from pk_sub (b := 1) h1n]
    have hTy := TX_of hT a1 a2
    refine k_isNumber (lo := 0) hE1.2.1 a5 (by omega) (by omega) (fun g => b1n ?_) (fun g => b0n (fun p18 p19 e => ?_))
    · intro p3 e3
      rw [a5.2.2.2 g.1] at e3
      refine k_step hTy hE2.2.1 a5.2.1 (fun y2 b1 b2 b3 b4 b5 => ?_)
      refine k_passStop (TX_of hTy b1 b2) hE2.2.1 b5 (fun g5 y3 c1 c2 c3 => ?_) (fun g5 => ?_)
      · refine ⟨vb1, fun p18 p19 e => ?_⟩
        obtain ⟨rfl, rfl⟩ := Prod.mk.inj e
        exact ⟨vb1, h1 _ _ y3 p3 (Or.inl ⟨w1, g, g5, rfl, rfl⟩) (c1.trans (b1.trans a1)) (c2.trans (b2.trans a2)) c3 (Or.inl ⟨rfl, e3⟩)⟩
      · refine ⟨vb0, fun p18 p19 e => ?_⟩
        obtain ⟨rfl, rfl⟩ := Prod.mk.inj e
        exact ⟨vb0, h0 _ y2 p3 (Or.inr (Or.inr (Or.inl ⟨w1, g, g5, rfl⟩))) (b1.trans a1) (b2.trans a2) b5.1⟩
    · obtain ⟨rfl, rfl⟩ := Prod.mk.inj e
      exact ⟨vb0, h0 _ y q (Or.inr (Or.inl ⟨w1, g, rfl⟩)) a1 a2 a5.1⟩
  · have w1 : tK c b i ≠ 2 := w1
    have bad : ((tK c b i ≠ 2 ∧ tK c b i ≠ 3 ∧ tK c b i ≠ 4) ∨ (tK c b i = 4 ∧ T = n) ∨ (tK c b i = 3 ∧ (T = n ∨ m = 10))) → Post 0 (p, q) := fun g => h0 _ p q (Or.inl ⟨h7, g, rfl⟩) rfl rfl hk.1
    -- what follows the word
    have go : ∀ x3 : Int32, (x3 = 0 → tK c b i = 3 ∧ m < 10) → (x3 ≠ 0 → tK c b i = 4) → wjX7_readItem_56 Post x3 p q := by
      intro x3 g3 g4
      unfold wjX7_readItem_56
      refine k_usedUp eT eI (by omega) hn (fun hlt => b0e ?_) (fun hge => b1e ?_)
      · refine k_step hT hE1.2.1 hk.2.1 (fun y a1 a2 a3 a4 a5 => ?_)
        have hTy := TX_of hT a1 a2
        refine ⟨fun e0 => ?_, fun e0 => ?_⟩
        · obtain ⟨k3, hm10⟩ := g3 e0
          unfold wpX7_readPen
          refine k_isNumber (lo := 0) (hi := 5) hE1.2.1 a5 (by omega) (by omega) (fun g => b1n ?_) (fun g => b0n (b0e ?_))
          · intro p2 e2
            rw [a5.2.2.2 g.1] at e2
            have hT2 : TX p2 c b := TX_of hTy (by rw [e2]; rfl) (by rw [e2]; rfl)
            refine k_step (i := tE c b (tE c b i)) hT2 hE2.2.1 (by rw [e2]; exact a5.2.1) (fun y2 b1 b2 b3 b4 b5 => ?_)
            have hTy2 := TX_of hT2 b1 b2
            refine k_isNumber (lo := 1) (hi := 9) hE2.2.1 b5 (by omega) (by omega) (fun gg => b1n ?_) (fun gg => b0n (b0e ?_))
            · intro p5 e5
              rw [b5.2.2.2 gg.1] at e5
              have hT5 : TX p5 c b := TX_of hTy2 (by rw [e5]; rfl) (by rw [e5]; rfl)
              refine k_step (i := tE c b (tE c b (tE c b i))) hT5 hE3.2.1 (by rw [e5]; exact b5.2.1) (fun y3 c1 c2 c3 c4 c5 => b1e ?_)
              have hTy3 := TX_of hT5 c1 c2
              refine k_readCells hTy3 hE3.2.1 c5 (fun y4 d1 d2 d3 d4 d5 => ?_)
              have e6 : y4.I 6 = nI (tV c b (tE c b i)) := by rw [d3, c3, e5, sI_I, if_neg (by decide), b3, e2, sI_I, if_pos rfl]
              have e7 : y4.I 7 = nI (tV c b (tE c b (tE c b i))) := by rw [d4, c4, e5, sI_I, if_pos rfl]
              rw [e6, e7]
              have f2 : y4.2 = p.2 := by rw [d1, c1, e5]; exact b1.trans (by rw [e2]; exact a1)
              have f1 : y4.I 1 = p.I 1 := by rw [d2, c2, e5, sI_I, if_neg (by decide), b2, e2, sI_I, if_neg (by decide)]; exact a2
              refine k_putNote (n := n) (T := T) (m := m) eI hn eT hlt em hm10 hcel.2.2 (fun q2 hP => ?_)
              unfold wjX7_readItem_115
              refine k_passStop (TX_of hTy3 d1 d2) hcel.2.1 d5 (fun g5 y5 z1 z2 z3 => ⟨vb1, ?_⟩) (fun g5 => ⟨vb0, ?_⟩)
              · exact h1 _ _ y5 q2 (Or.inr (Or.inr ⟨k3, hlt, hm10, g, gg, g5, rfl, rfl⟩)) (z1.trans f2) (z2.trans f1) z3 (Or.inr (Or.inr ⟨rfl, hP⟩))
              · exact h0 _ y4 q2 (Or.inr (Or.inr (Or.inr (Or.inr (Or.inr (Or.inr ⟨k3, hlt, hm10, g, gg, g5, rfl⟩)))))) f2 f1 d5.1
            · have f2 : y2.2 = p.2 := by rw [b1, e2]; exact a1
              have f1 : y2.I 1 = p.I 1 := by rw [b2, e2, sI_I, if_neg (by decide)]; exact a2
              exact h0 _ y2 q (Or.inr (Or.inr (Or.inr (Or.inr (Or.inr (Or.inl ⟨k3, hlt, hm10, g, gg, rfl⟩)))))) f2 f1 b5.1
          · exact h0 _ y q (Or.inr (Or.inr (Or.inr (Or.inr (Or.inl ⟨k3, hlt, hm10, g, rfl⟩))))) a1 a2 a5.1
        · have k4 := g4 e0
          intro q1 eq1
          unfold wjX7_readItem_115
          refine k_passStop hTy hE1.2.1 a5 (fun g5 y5 z1 z2 z3 => ⟨vb1, ?_⟩) (fun g5 => ⟨vb0, ?_⟩)
          · exact h1 _ _ y5 q1 (Or.inr (Or.inl ⟨k4, hlt, g5, rfl, rfl⟩)) (z1.trans a1) (z2.trans a2) z3 (Or.inr (Or.inl ⟨rfl, eq1⟩))
          · exact h0 _ y q1 (Or.inr (Or.inr (Or.inr (Or.inl ⟨k4, hlt, g5, rfl⟩)))) a1 a2 a5.1
      · refine bad ?_
        by_cases e0 : x3 = 0
        · exact Or.inr (Or.inr ⟨(g3 e0).1, Or.inl (by omega)⟩)
        · exact Or.inr (Or.inl ⟨g4 e0, by omega⟩)
    refine k_isWord (w := 2) hT hi hk (by omega) (fun w2 => ?_) (fun w2 => ?_)
    · have w2 : tK c b i = 4 := w2
      have yes : ∀ z0, wjX7_readItem_45 Post 1 z0 p q := fun z0 => ⟨fun _ => go 1 (fun e => absurd e (by decide)) (fun _ => w2), fun e => absurd e (by decide)⟩
      refine k_isWord (w := 3) hT hi hk (by omega) (fun w3 => ?_) (fun w3 => b0e (yes 0))
      have w3 : tK c b i = 3 := w3
      omega
    · have w2 : tK c b i ≠ 4 := w2
      refine k_isWord (w := 3) hT hi hk (by omega) (fun w3 => b1e ?_) (fun w3 => b0e ?_)
      · have w3 : tK c b i = 3 := w3
        refine k_noteCount ?_
        rw [em]
        refine pk_le 10 m (fun hge => ?_) (fun hlt => ?_)
        · exact ⟨fun e => absurd rfl e, fun _ => b0e (bad (Or.inr (Or.inr ⟨w3, Or.inr (by omega)⟩)))⟩
        · exact ⟨fun e => absurd rfl e, fun _ => b1e (go 0 (fun _ => ⟨w3, hlt⟩) (fun e => absurd rfl e))⟩
      · have w3 : tK c b i ≠ 3 := w3
        exact ⟨fun e => absurd rfl e, fun _ => b0e (bad (Or.inl ⟨w1, w3, w2⟩))⟩
end
section
/-! replaying items -/
def mkS (ca : Int32) (st : Nat → Int32) : St := (fun _ => ca, fun _ => 0, fun _ => st)
theorem wrS_mk (x : St) (n k pr ce : Nat) : wrS x n k pr ce = wrS (mkS (x.I 1) (x.A 4)) n k pr ce := rfl
def rpI (n : Nat) (s : Int32 × (Nat → Int32)) (it : Nat × Nat × Nat × Nat) : Int32 × (Nat → Int32) := if it.1 = 2 then (s.1 ||| ((1 : Int32) <<< (nI it.2.1 &&& 31)), s.2) else if it.1 = 3 then (s.1, wrS (mkS s.1 s.2) n it.2.1 it.2.2.1 it.2.2.2) else (s.1, upd s.2 125 (s.2 125 + 1))
def rpL (n : Nat) (s : Int32 × (Nat → Int32)) (L : List (Nat × Nat × Nat × Nat)) : Int32 × (Nat → Int32) := L.foldl (rpI n) s
theorem rpL_snoc (n : Nat) (s : Int32 × (Nat → Int32)) (L : List (Nat × Nat × Nat × Nat)) (it : Nat × Nat × Nat × Nat) : rpL n s (L ++ [it]) = rpI n (rpL n s L) it := by
  unfold rpL
  rw [List.foldl_append]; rfl
theorem tear_WF {st : Nat → Int32} {n : Nat} (hW : WF st n) (hT : tN st < n) (hn : n ≤ 6) : WF (upd st 125 (st 125 + 1)) n ∧ tN (upd st 125 (st 125 + 1)) = tN st + 1 ∧ mN (upd st 125 (st 125 + 1)) = mN st := by
  obtain ⟨w1, w2, w3, w4, w5, w6⟩ := hW
  have hstA : ∀ k, k ≠ 125 → upd st 125 (st 125 + 1) k = st k := fun k hk => upd_ne hk
  have hst125 : upd st 125 (st 125 + 1) 125 = nI (tN st + 1) := by rw [upd_at, w1]; exact nI_1 _
  have etN : tN (upd st 125 (st 125 + 1)) = tN st + 1 := by
    have : tN (upd st 125 (st 125 + 1)) = (nI (tN st + 1)).toNatClampNeg := by rw [← hst125]; rfl
    rw [this, ncl (by omega)]
  have emN : mN (upd st 125 (st 125 + 1)) = mN st := by unfold mN; rw [hstA 124 (by decide)]
  refine ⟨⟨by rw [hst125, etN], by omega, by rw [hstA 124 (by decide), emN]; exact w3, by omega, fun k hk => ?_, fun s hs c hc => ?_⟩, etN, emN⟩
  · rw [emN] at hk
    exact GN_c (fun i h1 h2 => hstA i (by omega)) (by rw [etN]; omega) (w5 k hk)
  · rw [hstA _ (by omega), w6 s hs c hc, emN, mx_c _ (fun i h1 h2 => hstA i (by omega))]
theorem PadN_tear0 {p : St} {st ah wo : Nat → Int32} {n w : Nat} (h : PadN p st ah wo n w 0) (hT : tN st < n) : PadN (p.sA 0 (upd (p.A 0) 0 (p.A 0 0 + 1))) (upd st 125 (st 125 + 1)) ah wo n w 0 := by
  have hcur := h.cur
  obtain ⟨g1, g2, g3, g4, g5, g6, g7, g8, g9, g10⟩ := h
  obtain ⟨t1, t2, t3⟩ := tear_WF hcur.2 hT g2
  obtain ⟨r1, r2, r3, r4⟩ := hcur.1
  have hstA : ∀ k, k ≠ 125 → upd st 125 (st 125 + 1) k = st k := fun k hk => upd_ne hk
  refine ⟨g1, g2, g3, g4, g5, g6, g7, g8, fun j hj => ?_, fun i j hij hj => ?_⟩
  · have e : j = 0 := by omega
    subst e
    unfold pgk stk
    rw [if_pos rfl, if_pos rfl]
    refine ⟨⟨?_, ?_, fun s hs => ⟨?_, ?_, fun c hc => ?_⟩, fun k hk => ?_⟩, t1⟩
    · show upd (p.A 0) 0 (p.A 0 0 + 1) 0 = _
      rw [upd_at, upd_at, r1]
    · show upd (p.A 0) 0 (p.A 0 0 + 1) 1 = _
      rw [upd_ne (by decide), hstA 124 (by decide)]; exact r2
    · show upd (p.A 0) 0 (p.A 0 0 + 1) (2 + 14 * s) = _
      rw [upd_ne (by omega), hstA _ (by omega)]; exact (r3 s hs).1
    · show upd (p.A 0) 0 (p.A 0 0 + 1) (3 + 14 * s) = _
      rw [upd_ne (by omega), hstA _ (by omega)]; exact (r3 s hs).2.1
    · show upd (p.A 0) 0 (p.A 0 0 + 1) (4 + 14 * s + c) = _
      rw [upd_ne (by omega), hstA _ (by omega)]; exact (r3 s hs).2.2 c hc
    · rw [t3] at hk
      have := hcur.2.2.2.2.1
      rw [hstA _ (by omega), hstA _ (by omega), hstA _ (by omega), hstA _ (by omega)]
      exact r4 k hk
  · have e : i = j := by omega
    rw [e]; exact Nat.le_refl _
def Dr (q : St) (n : Nat) (s : Int32 × (Nat → Int32)) (T m : Nat) : Prop := PadN q s.2 (fun _ => 0) (fun _ => 0) n 0 0 ∧ q.I 4 = s.1 ∧ tN s.2 = T ∧ mN s.2 = m
theorem Dr_step {q q' : St} {c : Nat → Nat} {b n T m i i' : Nat} {s : Int32 × (Nat → Int32)} {it : Nat × Nat × Nat × Nat} (hi : i ≤ b) (h : Dr q n s T m) (hO : ItOk c b n T m i it i') (hD : DStep q q' n T m it) : Dr q' n (rpI n s it) (T + trI it) (m + ntI it) := by
  obtain ⟨h1, h2, h3, h4⟩ := h
  have hE1 := tE_b (c := c) hi
  have hE2 := tE_b (c := c) hE1.2.1
  have hE3 := tE_b (c := c) hE2.2.1
  rcases hO with ⟨k, g, g5, rfl, -⟩ | ⟨k, hT, g5, rfl, -⟩ | ⟨k, hT, hm, g, gg, g5, rfl, -⟩
  · rcases hD with ⟨-, eq⟩ | ⟨w, -⟩ | ⟨w, -⟩
    · subst eq
      refine ⟨h1, ?_, h3, h4⟩
      show q.I 4 ||| _ = s.1 ||| _
      rw [h2]
    · exact absurd w (by show ¬ (2 : Nat) = 4; decide)
    · exact absurd w (by show ¬ (2 : Nat) = 3; decide)
  · rcases hD with ⟨w, -⟩ | ⟨-, eq⟩ | ⟨w, -⟩
    · exact absurd w (by show ¬ (4 : Nat) = 2; decide)
    · subst eq
      have ht := tear_WF h1.cur.2 (by omega) h1.2.1
      refine ⟨PadN_tear0 h1 (by omega), h2, ?_, ?_⟩
      · show tN (upd s.2 125 (s.2 125 + 1)) = T + 1
        rw [ht.2.1, h3]
      · show mN (upd s.2 125 (s.2 125 + 1)) = m + 0
        rw [ht.2.2, h4]; rfl
    · exact absurd w (by show ¬ (4 : Nat) = 3; decide)
  · rcases hD with ⟨w, -⟩ | ⟨w, -⟩ | ⟨-, hP⟩
    · exact absurd w (by show ¬ (3 : Nat) = 2; decide)
    · exact absurd w (by show ¬ (3 : Nat) = 4; decide)
    · have hP' : PutN q q' n T m (tV c b (tE c b i)) (tV c b (tE c b (tE c b i))) (cel c b 12 0 0 (tE c b (tE c b (tE c b i)))).1 := hP
      rw [← h3, ← h4] at hP'
      have hce := (cel_b (c := c) 12 0 0 (tE c b (tE c b (tE c b i))) hE3.2.1 (by omega)).2.2
      have hcur := h1.cur
      have gk := g.2.2
      have ggl := gg.2.1
      have ggh := gg.2.2
      have hp := PadN_put (x := mkS s.1 s.2) (st := s.2) rfl h1 h2 (by omega) (by omega) (by omega) ggl ggh hce hP'
      have hr := Put_RP (x := mkS s.1 s.2) (st := s.2) rfl hcur.1 hcur.2 h1.2.1 h2 (by omega) (by omega) (by omega) ggl ggh hce hP'
      refine ⟨hp, ?_, ?_, ?_⟩
      · rw [hP.1]; exact h2
      · show tN (wrS (mkS s.1 s.2) n _ _ _) = T + 0
        rw [hr.2.2.2]; exact h3
      · show mN (wrS (mkS s.1 s.2) n _ _ _) = m + 1
        rw [hr.2.2.1, h4]
/-! a run of items -/
def Ch (c : Nat → Nat) (b n : Nat) : Nat → Nat → Nat → List (Nat × Nat × Nat × Nat) → Nat → Nat → Nat → Prop
  | i0, T0, m0, [], i, T, m => i = i0 ∧ T = T0 ∧ m = m0
  | i0, T0, m0, it :: L, i, T, m => ∃ i1, ItOk c b n T0 m0 i0 it i1 ∧ Ch c b n i1 (T0 + trI it) (m0 + ntI it) L i T m
theorem Ch_snoc {c : Nat → Nat} {b n : Nat} {it : Nat × Nat × Nat × Nat} {i T m i' : Nat} (hO : ItOk c b n T m i it i') : ∀ (L : List (Nat × Nat × Nat × Nat)) (i0 T0 m0 : Nat), Ch c b n i0 T0 m0 L i T m → Ch c b n i0 T0 m0 (L ++ [it]) i' (T + trI it) (m + ntI it)
  | [], i0, T0, m0, h => by
    obtain ⟨rfl, rfl, rfl⟩ := h
    exact ⟨i', hO, rfl, rfl, rfl⟩
  | a :: L, i0, T0, m0, h => by
    obtain ⟨i1, h1, h2⟩ := h
    exact ⟨i1, h1, Ch_snoc hO L i1 _ _ h2⟩
def First (c : Nat → Nat) (b n i0 : Nat) : Prop := tK c b 0 = 1 ∧ inN c b (tE c b 0) 1 6 ∧ n = tV c b (tE c b 0) ∧ tK c b (tE c b (tE c b 0)) = 5 ∧ i0 = tE c b (tE c b (tE c b 0))
def FirstBad (c : Nat → Nat) (b f : Nat) : Prop := (tK c b 0 ≠ 1 ∧ f = tS c b 0) ∨ (tK c b 0 = 1 ∧ ¬ inN c b (tE c b 0) 1 6 ∧ f = tS c b (tE c b 0)) ∨ (tK c b 0 = 1 ∧ inN c b (tE c b 0) 1 6 ∧ tK c b (tE c b (tE c b 0)) ≠ 5 ∧ f = tS c b (tE c b (tE c b 0)))
theorem k_readInto {p q : St} {c : Nat → Nat} {b : Nat} (hT : TX p c b) {Post : Int32 → (St × St) → Prop} (hg : ∀ n i0 L i T m p' q', First c b n i0 → Ch c b n i0 0 0 L i T m → tK c b i = 7 → L.length ≤ 150 → (∀ row0 : Nat → Int32, (∀ k, k < 126 → row0 k = 0) → Dr q' n (rpL n (0, row0) L) T m) → p'.2 = p.2 → p'.I 1 = p.I 1 → Post (nI (1 + L.length)) (p', q')) (hb0 : ∀ f p' q', FirstBad c b f → p'.2 = p.2 → p'.I 1 = p.I 1 → p'.I 4 = nI f → Post (-1) (p', q')) (hb1 : ∀ n i0 L i T m f p' q', First c b n i0 → Ch c b n i0 0 0 L i T m → ItBad c b n T m i f → p'.2 = p.2 → p'.I 1 = p.I 1 → p'.I 4 = nI f → Post (-1) (p', q')) : wpX7_readInto p q Post := by
  have hb := hT.1
  have hE0 := tE_b (c := c) (Nat.zero_le b)
  have hE1 := tE_b (c := c) hE0.2.1
  have hE2 := tE_b (c := c) hE1.2.1
  intro p1 e1
  have hT1 : TX p1 c b := TX_of hT (by rw [e1]; rfl) (by rw [e1]; rfl)
  have f1 : p1.2 = p.2 := by rw [e1]; rfl
  have f11 : p1.I 1 = p.I 1 := by rw [e1]; rfl
  refine k_step hT1 (Nat.zero_le b) (by rw [e1]; rfl) (fun y a1 a2 a3 a4 a5 => ?_)
  have hTy := TX_of hT1 a1 a2
  unfold wpX7_readFirst
  refine k_isWord (w := 0) hTy (Nat.zero_le b) a5 (by omega) (fun w1 => b1n ?_) (fun w1 => b0n (fun p4 p5 e => ?_))
  · have w1 : tK c b 0 = 1 := w1
    refine k_step hTy hE0.2.1 a5.2.1 (fun y2 b1 b2 b3 b4 b5 => ?_)
    have hTy2 := TX_of hTy b1 b2
    refine k_isNumber (lo := 1) (hi := 6) hE0.2.1 b5 (by omega) (by omega) (fun g => b1n ?_) (fun g => b0n (fun p4 p5 e => ?_))
    · rw [b5.2.2.2 g.1]
      refine k_beginAnew (fun q1 c1 c2 c3 c4 c5 c6 => ?_)
      refine k_step hTy2 hE1.2.1 b5.2.1 (fun y3 d1 d2 d3 d4 d5 => ?_)
      have hTy3 := TX_of hTy2 d1 d2
      refine k_passStop hTy3 hE1.2.1 d5 (fun g5 y4 z1 z2 z3 => ⟨vb1, fun p4 p5 e => b1n ?_⟩) (fun g5 => ⟨vb0, fun p4 p5 e => b0n ?_⟩)
      · obtain ⟨rfl, rfl⟩ := Prod.mk.inj e
        have hF : First c b (tV c b (tE c b 0)) (tE c b (tE c b (tE c b 0))) := ⟨w1, g, rfl, g5, rfl⟩
        have hn1 := g.2.1
        have hn6 := g.2.2
        have hTy4 := TX_of hTy3 z1 z2
        have g1 : y4.2 = p.2 := z1.trans (d1.trans (b1.trans (a1.trans f1)))
        have g11 : y4.I 1 = p.I 1 := z2.trans (d2.trans (b2.trans (a2.trans f11)))
        refine it_rule (F := fun self z => wlX7_readInto_24 Post _ self z.1 z.2.1 z.2.2.1 z.2.2.2) (fun z => ∃ (L : List (Nat × Nat × Nat × Nat)) (i T m : Nat) (p' q' : St), z = (nI (1 + L.length), nI L.length, p', q') ∧ Ch c b (tV c b (tE c b 0)) (tE c b (tE c b (tE c b 0))) 0 0 L i T m ∧ i ≤ b ∧ L.length ≤ i ∧ p'.2 = p.2 ∧ p'.I 1 = p.I 1 ∧ TkC p' c b i ∧ T ≤ tV c b (tE c b 0) ∧ m ≤ 10 ∧ ∀ row0 : Nat → Int32, (∀ k, k < 126 → row0 k = 0) → Dr q' (tV c b (tE c b 0)) (rpL (tV c b (tE c b 0)) (0, row0) L) T m) (fun z => 151 - z.2.1.toNatClampNeg) ?_ _ ⟨[], tE c b (tE c b (tE c b 0)), 0, 0, y4, q1, rfl, ⟨rfl, rfl, rfl⟩, hE2.2.1, by simp, g1, g11, z3, by omega, by omega, fun row0 hz => ?_⟩
        · rintro self z ⟨L, i, T, m, p', q', rfl, hC, hi, hLi, k1, k2, k3, kT, km, kD⟩ hself
          dsimp only at hself ⊢
          unfold wlX7_readInto_24
          have hTp := TX_of hT k1 k2
          obtain ⟨D1, D2, D3, D4⟩ := kD (fun _ => 0) (fun _ _ => rfl)
          obtain ⟨q0, q1', q2, q3, q4, q5⟩ := D1.nums
          have hKC := tK_C c b i
          refine pk_lt 150 L.length (fun w => by omega) (fun _ => ?_)
          rw [k3.2.2.1]
          refine ⟨fun w => ?_, fun w => ?_⟩
          · have hk7 : tK c b i = 7 := hKC.1.mpr ((nI_eq (b := 0) (by omega) (by decide)).mp w)
            exact hg _ _ L i T m p' q' hF hC hk7 (by omega) kD k1 k2
          · have hk7 : tK c b i ≠ 7 := fun v => w (by rw [hKC.1.mp v]; rfl)
            refine k_item hTp hi k3 hk7 hn1 hn6 kT km D1.2.2.1 (by rw [← D3]; exact q0) (by rw [← D4]; exact q1') (fun it i' p2 q2' o1 o2 o3 o4 o5 p7 p8 e => b1n ?_) (fun f p2 q2' o1 o2 o3 o4 p7 p8 e => b0n ?_)
            · obtain ⟨rfl, rfl⟩ := Prod.mk.inj e
              intro v ev v2 ev2
              have hib := ItOk_b hi o1
              rw [ev, ev2, nI_1, nI_1]
              have hTm : T + trI it ≤ tV c b (tE c b 0) ∧ m + ntI it ≤ 10 := by
                rcases o1 with ⟨-, -, -, rfl, -⟩ | ⟨-, ht, -, rfl, -⟩ | ⟨-, -, hm, -, -, -, rfl, -⟩
                · exact ⟨kT, km⟩
                · exact ⟨ht, km⟩
                · exact ⟨kT, hm⟩
              refine hself _ ⟨L ++ [it], i', _, _, p2, q2', ?_, Ch_snoc o1 L _ _ _ hC, hib.2, ?_, o2.trans k1, o3.trans k2, o4, hTm.1, hTm.2, fun row0 hz => ?_⟩ ?_
              · rw [List.length_append]; rfl
              · rw [List.length_append]
                show L.length + 1 ≤ i'
                omega
              · rw [rpL_snoc]
                exact Dr_step hi (kD row0 hz) o1 o5
              · dsimp only; rw [ncl (by omega), ncl (by omega)]; omega
            · obtain ⟨rfl, rfl⟩ := Prod.mk.inj e
              exact hb1 _ _ L i T m f p2 q2' hF hC o1 (o2.trans k1) (o3.trans k2) o4
        · refine ⟨PadN_new hn1 hn6 c1 c4 c3 c5 hz, c2, ?_, ?_⟩
          · show tN row0 = 0
            unfold tN; rw [hz 125 (by decide)]; decide
          · show mN row0 = 0
            unfold mN; rw [hz 124 (by decide)]; decide
      · obtain ⟨rfl, rfl⟩ := Prod.mk.inj e
        exact hb0 _ y3 q1 (Or.inr (Or.inr ⟨w1, g, g5, rfl⟩)) (d1.trans (b1.trans (a1.trans f1))) (d2.trans (b2.trans (a2.trans f11))) d5.1
    · obtain ⟨rfl, rfl⟩ := Prod.mk.inj e
      refine ⟨fun w => absurd rfl w, fun _ => ?_⟩
      exact hb0 _ y2 q (Or.inr (Or.inl ⟨w1, g, rfl⟩)) (b1.trans (a1.trans f1)) (b2.trans (a2.trans f11)) b5.1
  · obtain ⟨rfl, rfl⟩ := Prod.mk.inj e
    have w1 : tK c b 0 ≠ 1 := w1
    refine ⟨fun w => absurd rfl w, fun _ => ?_⟩
    exact hb0 _ y q (Or.inl ⟨w1, rfl⟩) (a1.trans f1) (a2.trans f11) a5.1
end
section
/-! the model reads -/
def FrA (y p : St) : Prop := (∀ k, k ≠ 16 → y.A k = p.A k) ∧ (∀ k, y.L k = p.L k) ∧ ∀ k, k ≠ 12 → k ≠ 13 → k ≠ 14 → k ≠ 15 → y.I k = p.I k
theorem FrA_refl (p : St) : FrA p p := ⟨fun _ _ => rfl, fun _ => rfl, fun _ _ _ _ _ => rfl⟩
theorem FrA.trans {z y p : St} (h : FrA z y) (g : FrA y p) : FrA z p := ⟨fun k hk => (h.1 k hk).trans (g.1 k hk), fun k => (h.2.1 k).trans (g.2.1 k), fun k a b c d => (h.2.2 k a b c d).trans (g.2.2 k a b c d)⟩
theorem FrA_of {y p : St} (e : y.2 = p.2) (h : ∀ k, k ≠ 12 → k ≠ 13 → k ≠ 14 → k ≠ 15 → y.I k = p.I k) : FrA y p := ⟨fun k _ => A_of2 e k, fun k => L_of2 e k, h⟩
theorem FrA_sA (y : St) (v : Nat → Int32) : FrA (y.sA 16 v) y := ⟨fun k hk => by rw [sA_A, if_neg hk], fun _ => rfl, fun _ _ _ _ _ => rfl⟩
theorem TM_fr {y p : St} {c : Nat → Nat} {b : Nat} (h : TM p c b) (f : FrA y p) : TM y c b := ⟨h.1, (f.2.2 11 (by decide) (by decide) (by decide) (by decide)).trans h.2.1, fun k hk => by rw [f.1 10 (by decide)]; exact h.2.2 k hk⟩
theorem m_number {p : St} {c : Nat → Nat} {b i lo hi : Nat} (hT : TM p c b) (hi' : i ≤ b) (e : p.I 12 = nI i) (hlo : lo < 1000) (hhi : hi < 1000) {Post : Int32 → St → Prop} (h1 : inN c b i lo hi → ∀ y : St, y.2 = p.2 → FrA y p → TkM y c b i → Post 1 y) (h0 : ¬ inN c b i lo hi → ∀ y : St, y.2 = p.2 → FrA y p → TkM y c b i → Post 0 y) : wpX12_number (nI lo) (nI hi) p Post := by
  unfold wpX12_number
  refine m_nextToken hT hi' e (fun y a1 a2 a3 => ?_)
  have hK := tK_C c b i
  have hF := FrA_of a1 a2
  rw [a3.2.2.1]
  refine nq (w := 6) (by omega) (by omega) (fun q => h0 (fun w => q w.1) y a1 hF a3) (fun q => ?_)
  have hV := tV_b hi' q
  rw [a3.2.2.2 q]
  refine in_rule (lo : Int) (hi : Int) (by rw [wideT, nI_toInt (by omega)]) (by rw [wideT, nI_toInt (by omega)]) (fun g1 g2 => b1e ?_) (fun g => b0e ?_)
  · rw [nI_toInt (by omega)] at g1 g2
    exact h1 ⟨q, by omega, by omega⟩ y a1 hF a3
  · rw [nI_toInt (by omega)] at g
    exact h0 (fun w => by have w1 := w.2.1; have w2 := w.2.2; omega) y a1 hF a3
theorem m_cells {c : Nat → Nat} {b : Nat} {Post : Int32 → St → Prop} {KX : Int32 → Int32 → St → Prop} {a0 : Int32} : ∀ (f le acc i : Nat) (x3 : Int32) (p : St), 12 ≤ f + le → le ≤ 12 → i ≤ b → acc < 4096 → x3 + 1 = nI le → TM p c b → TkM p c b i → (∀ y : St, y.2 = p.2 → FrA y p → TkM y c b (cel c b f le acc i).2 → tK c b (cel c b f le acc i).2 ≠ 6 → KX a0 (nI (cel c b f le acc i).1) y) → (∀ y : St, y.2 = p.2 → FrA y p → TkM y c b (cel c b f le acc i).2 → tK c b (cel c b f le acc i).2 = 6 → Post 0 y) → wLX12_readNote_55 Post KX (f + 1) (a0, nI acc, x3, p)
  | 0, le, acc, i, x3, p, h12, hle, hi, ha, e3, hT, hk, hg, hb => by
    show wlX12_readNote_55 Post KX _ a0 (nI acc) x3 p
    unfold wlX12_readNote_55
    have hK := tK_C c b i
    rw [hk.2.2.1]
    refine nq (w := 6) (by omega) (by omega) (fun q => hg p rfl (FrA_refl p) hk q) (fun q => ?_)
    have hV := tV_b hi q
    rw [hk.2.2.2 q, e3]
    refine in_rule (le : Int) 11 (by rw [wideT, nI_toInt (by omega)]) (by decide) (fun g1 g2 => ?_) (fun g => b0n (hb p rfl (FrA_refl p) hk q))
    rw [nI_toInt (by omega)] at g1 g2
    omega
  | f + 1, le, acc, i, x3, p, h12, hle, hi, ha, e3, hT, hk, hg, hb => by
    show wlX12_readNote_55 Post KX (wLX12_readNote_55 Post KX (f + 1)) a0 (nI acc) x3 p
    unfold wlX12_readNote_55
    rw [cel_s] at hg hb
    have hK := tK_C c b i
    have hE := tE_b (c := c) hi
    rw [hk.2.2.1]
    refine nq (w := 6) (by omega) (by omega) (fun q => ?_) (fun q => ?_)
    · rw [if_neg (fun w => q w.1)] at hg
      exact hg p rfl (FrA_refl p) hk q
    · have hV := tV_b hi q
      rw [hk.2.2.2 q, e3]
      refine in_rule (le : Int) 11 (by rw [wideT, nI_toInt (by omega)]) (by decide) (fun g1 g2 => b1n ?_) (fun g => b0n ?_)
      · rw [nI_toInt (by omega)] at g1 g2
        rw [if_pos ⟨q, by omega, by omega⟩] at hg hb
        intro x3' e3' x2' e2'
        rw [sh_or (by omega)] at e2'
        subst e2'
        refine m_nextToken hT hE.2.1 hk.2.1 (fun y a1 a2 a3 => ?_)
        have hF := FrA_of a1 a2
        exact m_cells f (tV c b i + 1) (acc ||| 2 ^ tV c b i) (tE c b i) x3' y (by omega) (by omega) hE.2.1 (or_lt (n := 12) ha (by omega)) (by rw [e3', nI_1]) (TM_fr hT hF) a3 (fun z f1 f2 f3 f4 => hg z (f1.trans a1) (f2.trans hF) f3 f4) (fun z f1 f2 f3 f4 => hb z (f1.trans a1) (f2.trans hF) f3 f4)
      · rw [nI_toInt (by omega)] at g
        rw [if_neg (fun w => by have w1 := w.2.1; have w2 := w.2.2; omega)] at hb
        exact hb p rfl (FrA_refl p) hk q
theorem m_readNote {p : St} {c : Nat → Nat} {b i a : Nat} (hT : TM p c b) (hi : i ≤ b) (e : p.I 12 = nI i) (ha : a + 3 < 600) {Post : Int32 → St → Prop}
    (h1 : inN c b i 0 5 → inN c b (tE c b i) 1 9 → tK c b (cel c b 12 0 0 (tE c b (tE c b i))).2 ≠ 6 → ∀ y : St, FrA y p → TkM y c b (cel c b 12 0 0 (tE c b (tE c b i))).2 → y.A 16 = upd (upd (upd (p.A 16) (a + 1) (nI (tV c b i))) (a + 2) (nI (tV c b (tE c b i)))) (a + 3) (nI (cel c b 12 0 0 (tE c b (tE c b i))).1) → Post 1 y)
    (h2 : ¬ inN c b i 0 5 → ∀ y : St, FrA y p → TkM y c b i → Post 0 y)
    (h3 : inN c b i 0 5 → ¬ inN c b (tE c b i) 1 9 → ∀ y : St, FrA y p → TkM y c b (tE c b i) → Post 0 y)
    (h4 : inN c b i 0 5 → inN c b (tE c b i) 1 9 → tK c b (cel c b 12 0 0 (tE c b (tE c b i))).2 = 6 → ∀ y : St, FrA y p → TkM y c b (cel c b 12 0 0 (tE c b (tE c b i))).2 → Post 0 y) : wpX12_readNote (nI a) p Post := by
  have hE1 := tE_b (c := c) hi
  have hE2 := tE_b (c := c) hE1.2.1
  unfold wpX12_readNote
  rw [show nI a + 1 = nI (a + 1) from nI_1 a, show nI a + 2 = nI (a + 2) from nI_add a 2]
  refine m_number (lo := 0) (hi := 5) hT hi e (by omega) (by omega) (fun g y a1 f1 k1 => b1n ?_) (fun g y a1 f1 k1 => b0n (h2 g y f1 k1))
  refine ⟨vp_in_nI (by omega) (by omega), fun p3 e3 => ?_⟩
  rw [ncl (by omega), k1.2.2.2 g.1, A_of2 a1] at e3
  have f3 : FrA p3 y := by rw [e3]; exact FrA_sA y _
  have f3p := f3.trans f1
  refine m_number (lo := 1) (hi := 9) (TM_fr hT f3p) hE1.2.1 (by rw [e3]; exact k1.2.1) (by omega) (by omega) (fun gg y2 a2 f2 k2 => b1n ?_) (fun gg y2 a2 f2 k2 => b0n (h3 g gg y2 (f2.trans f3p) k2))
  refine ⟨vp_in_nI (by omega) (by omega), fun p6 e6 x3 ex3 => ?_⟩
  rw [ncl (by omega), k2.2.2.2 gg.1, A_of2 a2] at e6
  have f6 : FrA p6 y2 := by rw [e6]; exact FrA_sA y2 _
  have f6p := f6.trans (f2.trans f3p)
  refine m_nextToken (TM_fr hT f6p) hE2.2.1 (by rw [e6]; exact k2.2.1) (fun y3 b1 b2 b3 => ?_)
  have f7p := (FrA_of b1 b2).trans f6p
  refine ⟨13, m_cells 12 0 0 _ x3 y3 (by omega) (by omega) hE2.2.1 (by omega) (by rw [ex3]; decide) (TM_fr hT f7p) b3 (fun z c1 c2 c3 c4 => ?_) (fun z c1 c2 c3 c4 => h4 g gg c4 z (c2.trans f7p) c3)⟩
  rw [show nI a + 3 = nI (a + 3) from nI_add a 3]
  refine ⟨vp_in_nI (by omega) (by omega), fun p16 e16 => ?_⟩
  rw [ncl (by omega)] at e16
  have f16 : FrA p16 z := by rw [e16]; exact FrA_sA z _
  refine h1 g gg c4 p16 (f16.trans (c2.trans f7p)) ?_ ?_
  · rw [e16]; exact c3
  · rw [e16, sA_A, if_pos rfl, A_of2 c1, A_of2 b1, e6, sA_A, if_pos rfl, e3, sA_A, if_pos rfl]
/-! an item of the model -/
def FrB (y p : St) : Prop := (∀ k, k ≠ 16 → y.A k = p.A k) ∧ (∀ k, y.L k = p.L k) ∧ (∀ k, k < 12 ∨ 20 < k → y.I k = p.I k) ∧ y.I 18 = p.I 18
theorem FrB_refl (p : St) : FrB p p := ⟨fun _ _ => rfl, fun _ => rfl, fun _ _ => rfl, rfl⟩
theorem FrB.trans {z y p : St} (h : FrB z y) (g : FrB y p) : FrB z p := ⟨fun k hk => (h.1 k hk).trans (g.1 k hk), fun k => (h.2.1 k).trans (g.2.1 k), fun k a => (h.2.2.1 k a).trans (g.2.2.1 k a), h.2.2.2.trans g.2.2.2⟩
theorem FrB_of {y p : St} (f : FrA y p) : FrB y p := ⟨f.1, f.2.1, fun k hk => f.2.2 k (by omega) (by omega) (by omega) (by omega), f.2.2 18 (by decide) (by decide) (by decide) (by decide)⟩
theorem FrB_end {y z p : St} (d1 : y.2 = z.2) (d2 : ∀ k, k < 12 ∨ 20 < k ∨ k = 18 → y.I k = z.I k) (f : FrA z p) : FrB y p := ⟨fun k hk => (A_of2 d1 k).trans (f.1 k hk), fun k => (L_of2 d1 k).trans (f.2.1 k), fun k hk => (d2 k (by omega)).trans (f.2.2 k (by omega) (by omega) (by omega) (by omega)), (d2 18 (Or.inr (Or.inr rfl))).trans (f.2.2 18 (by decide) (by decide) (by decide) (by decide))⟩
theorem TM_frB {y p : St} {c : Nat → Nat} {b : Nat} (h : TM p c b) (f : FrB y p) : TM y c b := ⟨h.1, (f.2.2.1 11 (by omega)).trans h.2.1, fun k hk => by rw [f.1 10 (by decide)]; exact h.2.2 k hk⟩
def StoI (a : Nat → Int32) (k : Nat) (it : Nat × Nat × Nat × Nat) : Prop := a (4 * (1 + k)) = nI it.1 ∧ (it.1 = 2 → a (4 * (1 + k) + 1) = nI it.2.1) ∧ (it.1 = 3 → a (4 * (1 + k) + 1) = nI it.2.1 ∧ a (4 * (1 + k) + 2) = nI it.2.2.1 ∧ a (4 * (1 + k) + 3) = nI it.2.2.2)
theorem StoI_c {a a' : Nat → Int32} {k : Nat} {it : Nat × Nat × Nat × Nat} (h : ∀ j, j < 4 * (1 + k) + 4 → a' j = a j) (g : StoI a k it) : StoI a' k it := by
  obtain ⟨g1, g2, g3⟩ := g
  refine ⟨by rw [h _ (by omega)]; exact g1, fun w => by rw [h _ (by omega)]; exact g2 w, fun w => ?_⟩
  rw [h _ (by omega), h _ (by omega), h _ (by omega)]; exact g3 w
theorem m_end {z : St} {c : Nat → Nat} {b j T m k u v : Nat} {x1 x2 : Int32} (hT : TM z c b) (hj : j ≤ b) (hk : TkM z c b j) (e17 : z.I 17 = nI (1 + k)) (e19 : z.I 19 = nI T) (e20 : z.I 20 = nI m) (hu : (x1 = 4 ∧ u = 1) ∨ (¬ x1 = 4 ∧ u = 0)) (hv : (¬ x2 = 0 ∧ v = 1) ∨ (x2 = 0 ∧ v = 0)) {Post : Int32 → St → Prop} {self KX : St → Prop}
    (h5 : tK c b j = 5 → ∀ y : St, y.2 = z.2 → (∀ k, k < 12 ∨ 20 < k ∨ k = 18 → y.I k = z.I k) → TkM y c b (tE c b j) → y.I 17 = nI (1 + (k + 1)) → y.I 19 = nI (T + u) → y.I 20 = nI (m + v) → self y) (hn : tK c b j ≠ 5 → Post 0 z) : wjX12_readPad_210 Post self KX x1 x2 z := by
  have hE := tE_b (c := c) hj
  have hK := tK_C c b j
  have key : tK c b j = 5 → ∀ p15 : St, p15 = z.sI 19 (nI T + nI u) → wjX12_readPad_253 Post self KX (nI v) (p15.I 20) p15 := by
    intro w p15 e15 p16 e16 p17 e17'
    have i20 : p15.I 20 = nI m := by rw [e15, sI_I, if_neg (by decide)]; exact e20
    rw [i20, nI_add] at e16
    have i17 : p16.I 17 = nI (1 + k) := by rw [e16, sI_I, if_neg (by decide), e15, sI_I, if_neg (by decide)]; exact e17
    rw [i17, nI_1] at e17'
    rw [nI_add] at e15
    have f2 : p17.2 = z.2 := by rw [e17', e16, e15]; rfl
    have fI : ∀ k, k ≠ 17 → k ≠ 19 → k ≠ 20 → p17.I k = z.I k := fun k k1 k2 k3 => by rw [e17', sI_I, if_neg k1, e16, sI_I, if_neg k3, e15, sI_I, if_neg k2]
    refine m_nextToken (TM_of hT f2 (fI 11 (by decide) (by decide) (by decide))) hE.2.1 ((fI 12 (by decide) (by decide) (by decide)).trans hk.2.1) (fun y a1 a2 a3 => ?_)
    refine h5 w y (a1.trans f2) (fun k hk => ?_) a3 ?_ ?_ ?_
    · rw [a2 k (by omega) (by omega) (by omega) (by omega)]; exact fI k (by omega) (by omega) (by omega)
    · rw [a2 17 (by decide) (by decide) (by decide) (by decide), e17', sI_I, if_pos rfl]; rfl
    · rw [a2 19 (by decide) (by decide) (by decide) (by decide), e17', sI_I, if_neg (by decide), e16, sI_I, if_neg (by decide), e15, sI_I, if_pos rfl]
    · rw [a2 20 (by decide) (by decide) (by decide) (by decide), e17', sI_I, if_neg (by decide), e16, sI_I, if_pos rfl]
  unfold wjX12_readPad_210
  rw [hk.2.2.1]
  refine ⟨fun q => ?_, fun q => hn (fun w => q (by rw [w]; rfl))⟩
  have w : tK c b j = 5 := (nI_eq (b := 5) (by omega) (by decide)).mp q
  have go : ∀ p15 : St, p15 = z.sI 19 (nI T + nI u) → ((x2 = 0 → wjX12_readPad_253 Post self KX 0 (p15.I 20) p15) ∧ (¬ x2 = 0 → wjX12_readPad_253 Post self KX 1 (p15.I 20) p15)) := by
    intro p15 e15
    rcases hv with ⟨h, rfl⟩ | ⟨h, rfl⟩
    · exact ⟨fun e => absurd e h, fun _ => key w p15 e15⟩
    · exact ⟨fun _ => key w p15 e15, fun e => absurd h e⟩
  rw [e19]
  rcases hu with ⟨h, rfl⟩ | ⟨h, rfl⟩
  · exact ⟨fun e => absurd h e, fun _ => go⟩
  · exact ⟨fun _ => go, fun e => absurd e h⟩
theorem m_item {p : St} {c : Nat → Nat} {b i n T m k : Nat} (hT : TM p c b) (hi : i ≤ b) (hk : TkM p c b i) (h7 : tK c b i ≠ 7) (h1n : 1 ≤ n) (hn : n ≤ 6) (hTn : T ≤ n) (hm : m ≤ 10) (hk6 : k < 148) (e17 : p.I 17 = nI (1 + k)) (e18 : p.I 18 = nI n) (e19 : p.I 19 = nI T) (e20 : p.I 20 = nI m) {Post : Int32 → St → Prop} {self KX : St → Prop}
    (h1 : ∀ it i' (y : St), ItOk c b n T m i it i' → FrB y p → TkM y c b i' → y.I 17 = nI (1 + (k + 1)) → y.I 19 = nI (T + trI it) → y.I 20 = nI (m + ntI it) → StoI (y.A 16) k it → (∀ j, j < 4 * (1 + k) → y.A 16 j = p.A 16 j) → self y)
    (h0 : ∀ f (y : St), ItBad c b n T m i f → FrB y p → y.I 15 = nI f → Post 0 y) : wlX12_readPad_75 Post KX self p := by
  have hE1 := tE_b (c := c) hi
  have hE2 := tE_b (c := c) hE1.2.1
  have hE3 := tE_b (c := c) hE2.2.1
  have hcel := cel_b (c := c) 12 0 0 (tE c b (tE c b (tE c b i))) hE3.2.1 (by omega)
  have hK := tK_C c b i
  have bad : ((tK c b i ≠ 2 ∧ tK c b i ≠ 3 ∧ tK c b i ≠ 4) ∨ (tK c b i = 4 ∧ T = n) ∨ (tK c b i = 3 ∧ (T = n ∨ m = 10))) → Post 0 p := fun g => h0 _ p (Or.inl ⟨h7, g, rfl⟩) (FrB_refl p) hk.1
  unfold wlX12_readPad_75
  rw [hk.2.2.1]
  refine ⟨fun q => absurd ((nI_eq (b := 7) (by omega) (by decide)).mp q) h7, fun _ x1 ex1 => ?_⟩
  have ix : (4 : Int32) * p.I 17 = nI (4 * (1 + k)) := by rw [e17]; exact pk_mul 4 (1 + k)
  have eT : ∀ {A B : Prop}, (T = n → A) → (T < n → B) → ((p.I 19 = p.I 18) → A) ∧ ((¬ p.I 19 = p.I 18) → B) := by
    intro A B f g
    rw [e19, e18]
    exact ⟨fun w => f ((nI_eq (by omega) (by omega)).mp w), fun w => g (by
      have : T ≠ n := fun z => w (by rw [z])
      omega)⟩
  by_cases k2 : tK c b i = 2
  · rw [k2] at ex1
    have ex1 : x1 = 2 := ex1
    subst ex1
    refine ⟨fun _ => ?_, fun e => absurd e (by decide)⟩
    refine ⟨fun e => absurd e (by decide), fun _ => ⟨fun e => absurd e (by decide), fun _ => ⟨fun _ => ?_, fun e => absurd (by decide) e⟩⟩⟩
    refine ⟨fun _ => ?_, fun e => absurd rfl e⟩
    intro x3 ex3
    rw [ix] at ex3
    subst ex3
    rw [ncl (by omega)]
    refine ⟨vp_in_nI (by omega) (by omega), fun p14 e14 => ⟨fun e => absurd rfl e, fun _ => ?_⟩⟩
    have f14 : FrA p14 p := by rw [e14]; exact FrA_sA p _
    have i18 : p14.I 18 = nI n := by rw [e14]; exact e18
    rw [i18, show nI n - 1 = nI (n - 1) from pk_sub (b := 1) h1n, nI_1]
    refine m_number (lo := 0) (TM_fr hT f14) hE1.2.1 (by rw [e14]; exact hk.2.1) (by omega) (by omega) (fun g y a1 f1 k1 => b1n ?_) (fun g y a1 f1 k1 => b0n ?_)
    · refine ⟨vp_in_nI (by omega) (by omega), fun p24 e24 => ?_⟩
      rw [ncl (by omega), k1.2.2.2 g.1, A_of2 a1, e14, sA_A, if_pos rfl] at e24
      have f24 : FrA p24 y := by rw [e24]; exact FrA_sA y _
      have fA := f24.trans (f1.trans f14)
      refine ⟨fun _ => ?_, fun e => absurd rfl e⟩
      refine ⟨fun e => absurd rfl e, fun _ => ?_⟩
      refine m_nextToken (TM_fr hT fA) hE2.2.1 (by rw [e24]; exact k1.2.1) (fun z b1 b2 b3 => ?_)
      have fz := (FrA_of b1 b2).trans fA
      refine m_end (T := T) (m := m) (k := k) (u := 0) (v := 0) (TM_fr hT fz) hE2.2.1 b3 ((fz.2.2 17 (by decide) (by decide) (by decide) (by decide)).trans e17) ((fz.2.2 19 (by decide) (by decide) (by decide) (by decide)).trans e19) ((fz.2.2 20 (by decide) (by decide) (by decide) (by decide)).trans e20) (Or.inr ⟨by decide, rfl⟩) (Or.inr ⟨rfl, rfl⟩) (fun g5 y2 d1 d2 d3 d4 d5 d6 => ?_) (fun g5 => ?_)
      · have eA : y2.A 16 = upd (upd (p.A 16) (4 * (1 + k)) 2) (4 * (1 + k) + 1) (nI (tV c b (tE c b i))) := by rw [A_of2 d1, A_of2 b1, e24, sA_A, if_pos rfl]
        refine h1 (2, tV c b (tE c b i), 0, 0) _ y2 (Or.inl ⟨k2, g, g5, rfl, rfl⟩) (FrB_end d1 d2 fz) d3 d4 d5 d6 ?_ ?_
        · rw [eA]
          exact ⟨by rw [upd_ne (by omega), upd_at]; rfl, fun _ => upd_at, fun e => absurd e (by show ¬ (2 : Nat) = 3; decide)⟩
        · intro j hj
          rw [eA, upd_ne (by omega), upd_ne (by omega)]
      · exact h0 _ z (Or.inr (Or.inr (Or.inl ⟨k2, g, g5, rfl⟩))) (FrB_of fz) b3.1
    · exact h0 _ y (Or.inr (Or.inl ⟨k2, g, rfl⟩)) (FrB_of (f1.trans f14)) k1.1
  by_cases k4 : tK c b i = 4
  · rw [k4] at ex1
    have ex1 : x1 = 4 := ex1
    subst ex1
    refine ⟨fun _ => ?_, fun e => absurd e (by decide)⟩
    refine ⟨fun e => absurd e (by decide), fun _ => ⟨fun e => absurd e (by decide), fun _ => ⟨fun e => absurd e (by decide), fun _ => eT (fun w => bad (Or.inr (Or.inl ⟨k4, w⟩))) (fun hlt => ?_)⟩⟩⟩
    refine ⟨fun _ => ?_, fun e => absurd rfl e⟩
    intro x3 ex3
    rw [ix] at ex3
    subst ex3
    rw [ncl (by omega)]
    refine ⟨vp_in_nI (by omega) (by omega), fun p14 e14 => ⟨fun _ => ?_, fun e => absurd e (by decide)⟩⟩
    have f14 : FrA p14 p := by rw [e14]; exact FrA_sA p _
    refine ⟨fun _ => ?_, fun e => absurd rfl e⟩
    refine ⟨fun e => absurd rfl e, fun _ => ?_⟩
    refine m_nextToken (TM_fr hT f14) hE1.2.1 (by rw [e14]; exact hk.2.1) (fun z b1 b2 b3 => ?_)
    have fz := (FrA_of b1 b2).trans f14
    refine m_end (T := T) (m := m) (k := k) (u := 1) (v := 0) (TM_fr hT fz) hE1.2.1 b3 ((fz.2.2 17 (by decide) (by decide) (by decide) (by decide)).trans e17) ((fz.2.2 19 (by decide) (by decide) (by decide) (by decide)).trans e19) ((fz.2.2 20 (by decide) (by decide) (by decide) (by decide)).trans e20) (Or.inl ⟨rfl, rfl⟩) (Or.inr ⟨rfl, rfl⟩) (fun g5 y2 d1 d2 d3 d4 d5 d6 => ?_) (fun g5 => ?_)
    · have eA : y2.A 16 = upd (p.A 16) (4 * (1 + k)) 4 := by rw [A_of2 d1, A_of2 b1, e14, sA_A, if_pos rfl]
      refine h1 (4, 0, 0, 0) _ y2 (Or.inr (Or.inl ⟨k4, hlt, g5, rfl, rfl⟩)) (FrB_end d1 d2 fz) d3 d4 d5 d6 ?_ ?_
      · rw [eA]
        exact ⟨by rw [upd_at]; rfl, fun e => absurd e (by show ¬ (4 : Nat) = 2; decide), fun e => absurd e (by show ¬ (4 : Nat) = 3; decide)⟩
      · intro j hj
        rw [eA, upd_ne (by omega)]
    · exact h0 _ z (Or.inr (Or.inr (Or.inr (Or.inl ⟨k4, hlt, g5, rfl⟩)))) (FrB_of fz) b3.1
  by_cases k3 : tK c b i = 3
  · rw [k3] at ex1
    have ex1 : x1 = 3 := ex1
    subst ex1
    refine ⟨fun e => absurd rfl e, fun _ => ?_⟩
    refine ⟨fun e => absurd e (by decide), fun _ => ⟨fun e => absurd e (by decide), fun _ => ⟨fun e => absurd e (by decide), fun _ => eT (fun w => bad (Or.inr (Or.inr ⟨k3, Or.inl w⟩))) (fun hlt => ?_)⟩⟩⟩
    refine ⟨fun e => absurd e (by decide), fun _ => ?_⟩
    rw [e20]
    refine nq (w := 10) (by omega) (by omega) (fun hm10 => ?_) (fun w => bad (Or.inr (Or.inr ⟨k3, Or.inr w⟩)))
    have hm10 : m < 10 := by omega
    intro x3 ex3
    rw [ix] at ex3
    subst ex3
    rw [ncl (by omega)]
    refine ⟨vp_in_nI (by omega) (by omega), fun p14 e14 => ⟨fun _ => ?_, fun e => absurd e (by decide)⟩⟩
    have f14 : FrA p14 p := by rw [e14]; exact FrA_sA p _
    refine ⟨fun e => absurd e (by decide), fun _ => ?_⟩
    refine m_readNote (TM_fr hT f14) hE1.2.1 (by rw [e14]; exact hk.2.1) (by omega) (fun g gg w6 y f1 k1 eA1 => b1n ?_) (fun g y f1 k1 => b0n ?_) (fun g gg y f1 k1 => b0n ?_) (fun g gg w6 y f1 k1 => b0n ?_)
    · have fz := f1.trans f14
      refine ⟨fun _ => ?_, fun e => absurd e (by decide)⟩
      refine m_end (T := T) (m := m) (k := k) (u := 0) (v := 1) (TM_fr hT fz) hcel.2.1 k1 ((fz.2.2 17 (by decide) (by decide) (by decide) (by decide)).trans e17) ((fz.2.2 19 (by decide) (by decide) (by decide) (by decide)).trans e19) ((fz.2.2 20 (by decide) (by decide) (by decide) (by decide)).trans e20) (Or.inr ⟨by decide, rfl⟩) (Or.inl ⟨by decide, rfl⟩) (fun g5 y2 d1 d2 d3 d4 d5 d6 => ?_) (fun g5 => ?_)
      · rw [e14, sA_A, if_pos rfl] at eA1
        have eA := (A_of2 d1 16).trans eA1
        refine h1 (3, tV c b (tE c b i), tV c b (tE c b (tE c b i)), (cel c b 12 0 0 (tE c b (tE c b (tE c b i)))).1) _ y2 (Or.inr (Or.inr ⟨k3, hlt, hm10, g, gg, g5, rfl, rfl⟩)) (FrB_end d1 d2 fz) d3 d4 d5 d6 ?_ ?_
        · rw [eA]
          refine ⟨?_, fun e => absurd e (by show ¬ (3 : Nat) = 2; decide), fun _ => ⟨?_, ?_, ?_⟩⟩
          · rw [upd_ne (by omega), upd_ne (by omega), upd_ne (by omega), upd_at]; rfl
          · rw [upd_ne (by omega), upd_ne (by omega), upd_at]
          · rw [upd_ne (by omega), upd_at]
          · rw [upd_at]
        · intro j hj
          rw [eA, upd_ne (by omega), upd_ne (by omega), upd_ne (by omega), upd_ne (by omega)]
      · exact h0 _ y (Or.inr (Or.inr (Or.inr (Or.inr (Or.inr (Or.inr ⟨k3, hlt, hm10, g, gg, g5, rfl⟩)))))) (FrB_of fz) k1.1
    · exact h0 _ y (Or.inr (Or.inr (Or.inr (Or.inr (Or.inl ⟨k3, hlt, hm10, g, rfl⟩))))) (FrB_of (f1.trans f14)) k1.1
    · exact h0 _ y (Or.inr (Or.inr (Or.inr (Or.inr (Or.inr (Or.inl ⟨k3, hlt, hm10, g, gg, rfl⟩)))))) (FrB_of (f1.trans f14)) k1.1
    · exact h0 _ y (Or.inr (Or.inr (Or.inr (Or.inr (Or.inr (Or.inr ⟨k3, hlt, hm10, g, gg, by omega, rfl⟩)))))) (FrB_of (f1.trans f14)) k1.1
  have hb := bad (Or.inl ⟨k2, k3, k4⟩)
  have fin : ∀ z0 : Int32, wjX12_readPad_99 Post self KX x1 z0 p := by
    intro z0
    refine ⟨fun _ => hb, fun w1 => ⟨fun _ => hb, fun w2 => ?_⟩⟩
    exfalso
    rw [ex1, fa_lt, nI_toInt (by omega)] at w1
    rw [ex1, fa_lt, nI_toInt (by omega)] at w2
    have z2 : (2 : Int32).toInt = 2 := by decide
    have z4 : (4 : Int32).toInt = 4 := by decide
    omega
  exact ⟨fun _ => fin 0, fun _ => fin 1⟩
end
section
/-! the items are told by the text alone -/
theorem ItOk_det {c : Nat → Nat} {b n T m i i' i2 : Nat} {it it2 : Nat × Nat × Nat × Nat} (h : ItOk c b n T m i it i') (g : ItOk c b n T m i it2 i2) : it = it2 ∧ i' = i2 := by
  rcases h with ⟨a, -, -, e, f⟩ | ⟨a, -, -, e, f⟩ | ⟨a, -, -, -, -, -, e, f⟩ <;> rcases g with ⟨a', -, -, e', f'⟩ | ⟨a', -, -, e', f'⟩ | ⟨a', -, -, -, -, -, e', f'⟩ <;> first | exact ⟨e.trans e'.symm, f.trans f'.symm⟩ | (exfalso; omega)
theorem itd_abs {K T n m f f2 A B D s0 s1 s2 s3 : Nat} {P Q R : Prop} (h : (K ≠ 7 ∧ ((K ≠ 2 ∧ K ≠ 3 ∧ K ≠ 4) ∨ (K = 4 ∧ T = n) ∨ (K = 3 ∧ (T = n ∨ m = 10))) ∧ f = s0) ∨ (K = 2 ∧ ¬ P ∧ f = s1) ∨ (K = 2 ∧ P ∧ A ≠ 5 ∧ f = s2) ∨ (K = 4 ∧ T < n ∧ B ≠ 5 ∧ f = s1) ∨ (K = 3 ∧ T < n ∧ m < 10 ∧ ¬ Q ∧ f = s1) ∨ (K = 3 ∧ T < n ∧ m < 10 ∧ Q ∧ ¬ R ∧ f = s2) ∨ (K = 3 ∧ T < n ∧ m < 10 ∧ Q ∧ R ∧ D ≠ 5 ∧ f = s3))
    (g : (K ≠ 7 ∧ ((K ≠ 2 ∧ K ≠ 3 ∧ K ≠ 4) ∨ (K = 4 ∧ T = n) ∨ (K = 3 ∧ (T = n ∨ m = 10))) ∧ f2 = s0) ∨ (K = 2 ∧ ¬ P ∧ f2 = s1) ∨ (K = 2 ∧ P ∧ A ≠ 5 ∧ f2 = s2) ∨ (K = 4 ∧ T < n ∧ B ≠ 5 ∧ f2 = s1) ∨ (K = 3 ∧ T < n ∧ m < 10 ∧ ¬ Q ∧ f2 = s1) ∨ (K = 3 ∧ T < n ∧ m < 10 ∧ Q ∧ ¬ R ∧ f2 = s2) ∨ (K = 3 ∧ T < n ∧ m < 10 ∧ Q ∧ R ∧ D ≠ 5 ∧ f2 = s3)) : f = f2 := by
  rcases h with ⟨-, h, h9⟩ | ⟨h1, h2, h9⟩ | ⟨h1, h2, h3, h9⟩ | ⟨h1, h2, h3, h9⟩ | ⟨h1, h2, h3, h4, h9⟩ | ⟨h1, h2, h3, h4, h5, h9⟩ | ⟨h1, h2, h3, h4, h5, h6, h9⟩ <;> rcases g with ⟨-, g, g9⟩ | ⟨g1, g2, g9⟩ | ⟨g1, g2, g3, g9⟩ | ⟨g1, g2, g3, g9⟩ | ⟨g1, g2, g3, g4, g9⟩ | ⟨g1, g2, g3, g4, g5, g9⟩ | ⟨g1, g2, g3, g4, g5, g6, g9⟩ <;> first | (exact h9.trans g9.symm) | contradiction | omega
theorem ito_abs {K T n m f A B D s0 s1 s2 s3 : Nat} {P Q R U V W : Prop} (h : (K = 2 ∧ P ∧ A = 5 ∧ U) ∨ (K = 4 ∧ T < n ∧ B = 5 ∧ V) ∨ (K = 3 ∧ T < n ∧ m < 10 ∧ Q ∧ R ∧ D = 5 ∧ W))
    (g : (K ≠ 7 ∧ ((K ≠ 2 ∧ K ≠ 3 ∧ K ≠ 4) ∨ (K = 4 ∧ T = n) ∨ (K = 3 ∧ (T = n ∨ m = 10))) ∧ f = s0) ∨ (K = 2 ∧ ¬ P ∧ f = s1) ∨ (K = 2 ∧ P ∧ A ≠ 5 ∧ f = s2) ∨ (K = 4 ∧ T < n ∧ B ≠ 5 ∧ f = s1) ∨ (K = 3 ∧ T < n ∧ m < 10 ∧ ¬ Q ∧ f = s1) ∨ (K = 3 ∧ T < n ∧ m < 10 ∧ Q ∧ ¬ R ∧ f = s2) ∨ (K = 3 ∧ T < n ∧ m < 10 ∧ Q ∧ R ∧ D ≠ 5 ∧ f = s3)) : False := by
  rcases h with ⟨a, b1, b2, -⟩ | ⟨a, b1, b2, -⟩ | ⟨a, b1, b2, b3, b4, b5, -⟩ <;> rcases g with ⟨-, g, -⟩ | ⟨g1, g2, -⟩ | ⟨g1, g2, g3, -⟩ | ⟨g1, g2, g3, -⟩ | ⟨g1, g2, g3, g4, -⟩ | ⟨g1, g2, g3, g4, g5, -⟩ | ⟨g1, g2, g3, g4, g5, g6, -⟩ <;> first | contradiction | omega
theorem ItOk_bad {c : Nat → Nat} {b n T m i i' f : Nat} {it : Nat × Nat × Nat × Nat} (h : ItOk c b n T m i it i') (g : ItBad c b n T m i f) : False := by
  unfold ItOk at h
  unfold ItBad at g
  exact ito_abs h g
theorem ItBad_det {c : Nat → Nat} {b n T m i f f2 : Nat} (h : ItBad c b n T m i f) (g : ItBad c b n T m i f2) : f = f2 := by
  unfold ItBad at h g
  exact itd_abs h g
theorem ItBad_7 {c : Nat → Nat} {b n T m i f : Nat} (h : ItBad c b n T m i f) : tK c b i ≠ 7 := by
  rcases h with ⟨h1, -⟩ | ⟨h1, -⟩ | ⟨h1, -⟩ | ⟨h1, -⟩ | ⟨h1, -⟩ | ⟨h1, -⟩ | ⟨h1, -⟩ <;> omega
theorem ItOk_7 {c : Nat → Nat} {b n T m i i' : Nat} {it : Nat × Nat × Nat × Nat} (h : ItOk c b n T m i it i') : tK c b i ≠ 7 := by
  rcases h with ⟨h1, -⟩ | ⟨h1, -⟩ | ⟨h1, -⟩ <;> omega
theorem ItOk_Tm {c : Nat → Nat} {b n T m i i' : Nat} {it : Nat × Nat × Nat × Nat} (hT : T ≤ n) (hm : m ≤ 10) (h : ItOk c b n T m i it i') : T + trI it ≤ n ∧ m + ntI it ≤ 10 := by
  rcases h with ⟨-, -, -, rfl, -⟩ | ⟨-, ht, -, rfl, -⟩ | ⟨-, -, hm', -, -, -, rfl, -⟩
  · exact ⟨hT, hm⟩
  · exact ⟨ht, hm⟩
  · exact ⟨hT, hm'⟩
theorem ItOk_2 {c : Nat → Nat} {b n T m i i' : Nat} {it : Nat × Nat × Nat × Nat} (hi : i ≤ b) (h : ItOk c b n T m i it i') : i + 2 ≤ i' ∧ i' ≤ b := by
  have h1 := tE_b (c := c) hi
  have h2 := tE_b (c := c) h1.2.1
  have h3 := tE_b (c := c) h2.2.1
  have s1 := tS_b (c := c) h1.2.1
  have s2 := tS_b (c := c) h2.2.1
  have s3 := tS_b (c := c) h3.2.1
  have h7 := tE_lt hi (ItOk_7 h)
  rcases h with ⟨k, g, -, -, e⟩ | ⟨k, -, g, -, e⟩ | ⟨k, -, -, g, -, -, -, e⟩
  · have := tE_lt h1.2.1 (by rw [g.1]; decide); omega
  · have := tE_lt h1.2.1 (by rw [g]; decide); omega
  · have := tE_lt h1.2.1 (by rw [g.1]; decide)
    have hc := cel_b (c := c) 12 0 0 (tE c b (tE c b (tE c b i))) h3.2.1 (by omega)
    have h4 := tE_b (c := c) hc.2.1
    have s4 := tS_b (c := c) hc.2.1
    omega
theorem Ch_len {c : Nat → Nat} {b n : Nat} : ∀ (L : List (Nat × Nat × Nat × Nat)) {i T m i' T' m' : Nat}, Ch c b n i T m L i' T' m' → i ≤ b → i + 2 * L.length ≤ i' ∧ i' ≤ b
  | [], i, T, m, i', T', m', h, hi => by
    obtain ⟨rfl, -, -⟩ := h
    exact ⟨Nat.le_refl _, hi⟩
  | it :: L, i, T, m, i', T', m', h, hi => by
    obtain ⟨i1, h1, h2⟩ := h
    have a := ItOk_2 hi h1
    have r := Ch_len L h2 a.2
    rw [List.length_cons]
    omega
/-! the model's loop over the items -/
theorem m_loopG {c : Nat → Nat} {b n : Nat} {Post : Int32 → St → Prop} {KX : St → Prop} (h1n : 1 ≤ n) (hn : n ≤ 6) : ∀ (L : List (Nat × Nat × Nat × Nat)) (i T m k : Nat) (p : St) {i' T' m' : Nat}, Ch c b n i T m L i' T' m' → tK c b i' = 7 → i ≤ b → TM p c b → TkM p c b i → T ≤ n → m ≤ 10 → k + L.length < 148 → p.I 17 = nI (1 + k) → p.I 18 = nI n → p.I 19 = nI T → p.I 20 = nI m → (∀ y : St, FrB y p → y.I 17 = nI (1 + (k + L.length)) → (∀ j (h : j < L.length), StoI (y.A 16) (k + j) (L[j])) → (∀ j, j < 4 * (1 + k) → y.A 16 j = p.A 16 j) → KX y) → wLX12_readPad_75 Post KX (L.length + 1) p
  | [], i, T, m, k, p, i', T', m', hC, h7, hi, hM, hk, hT, hm, hl, e17, e18, e19, e20, hg => by
    obtain ⟨rfl, -, -⟩ := hC
    show wlX12_readPad_75 Post KX _ p
    unfold wlX12_readPad_75
    rw [hk.2.2.1, h7]
    exact ⟨fun _ => hg p (FrB_refl p) e17 (fun j h => absurd h (Nat.not_lt_zero j)) (fun _ _ => rfl), fun e => absurd rfl e⟩
  | it :: L, i, T, m, k, p, i', T', m', hC, h7, hi, hM, hk, hT, hm, hl, e17, e18, e19, e20, hg => by
    obtain ⟨i1, hO, hC⟩ := hC
    show wlX12_readPad_75 Post KX (wLX12_readPad_75 Post KX (L.length + 1)) p
    rw [List.length_cons] at hl
    refine m_item hM hi hk (ItOk_7 hO) h1n hn hT hm (by omega) e17 e18 e19 e20 (fun it2 i2 y o1 o2 o3 o4 o5 o6 o7 o8 => ?_) (fun f y o1 o2 o3 => (ItOk_bad hO o1).elim)
    obtain ⟨rfl, rfl⟩ := ItOk_det hO o1
    have hTm := ItOk_Tm hT hm hO
    have h2 := ItOk_2 hi hO
    refine m_loopG h1n hn L i1 _ _ (k + 1) y hC h7 h2.2 (TM_frB hM o2) o3 hTm.1 hTm.2 (by omega) o4 (o2.2.2.2.trans e18) o5 o6 (fun z z1 z2 z3 z4 => ?_)
    refine hg z (z1.trans o2) (by rw [z2, List.length_cons]; congr 1; omega) (fun j hj => ?_) (fun j hj => by rw [z4 j (by omega)]; exact o8 j hj)
    cases j with
    | zero => exact StoI_c (fun j hj => z4 j (by omega)) o7
    | succ j =>
      have := z3 j (by rw [List.length_cons] at hj; omega)
      rw [show k + (j + 1) = k + 1 + j by omega]
      exact this
theorem m_loopB {c : Nat → Nat} {b n f : Nat} {Post : Int32 → St → Prop} {KX : St → Prop} (h1n : 1 ≤ n) (hn : n ≤ 6) : ∀ (L : List (Nat × Nat × Nat × Nat)) (i T m k : Nat) (p : St) {i' T' m' : Nat}, Ch c b n i T m L i' T' m' → ItBad c b n T' m' i' f → i ≤ b → TM p c b → TkM p c b i → T ≤ n → m ≤ 10 → k + L.length < 148 → p.I 17 = nI (1 + k) → p.I 18 = nI n → p.I 19 = nI T → p.I 20 = nI m → (∀ y : St, FrB y p → y.I 15 = nI f → Post 0 y) → wLX12_readPad_75 Post KX (L.length + 1) p
  | [], i, T, m, k, p, i', T', m', hC, hB, hi, hM, hk, hT, hm, hl, e17, e18, e19, e20, hg => by
    obtain ⟨rfl, rfl, rfl⟩ := hC
    show wlX12_readPad_75 Post KX _ p
    have hl' : k + 0 < 148 := hl
    refine m_item hM hi hk (ItBad_7 hB) h1n hn hT hm (by omega) e17 e18 e19 e20 (fun it2 i2 y o1 o2 o3 o4 o5 o6 o7 o8 => (ItOk_bad o1 hB).elim) (fun f2 y o1 o2 o3 => hg y o2 ?_)
    rw [o3, ItBad_det o1 hB]
  | it :: L, i, T, m, k, p, i', T', m', hC, hB, hi, hM, hk, hT, hm, hl, e17, e18, e19, e20, hg => by
    obtain ⟨i1, hO, hC⟩ := hC
    show wlX12_readPad_75 Post KX (wLX12_readPad_75 Post KX (L.length + 1)) p
    rw [List.length_cons] at hl
    refine m_item hM hi hk (ItOk_7 hO) h1n hn hT hm (by omega) e17 e18 e19 e20 (fun it2 i2 y o1 o2 o3 o4 o5 o6 o7 o8 => ?_) (fun f y o1 o2 o3 => (ItOk_bad hO o1).elim)
    obtain ⟨rfl, rfl⟩ := ItOk_det hO o1
    have hTm := ItOk_Tm hT hm hO
    have h2 := ItOk_2 hi hO
    exact m_loopB h1n hn L i1 _ _ (k + 1) y hC hB h2.2 (TM_frB hM o2) o3 hTm.1 hTm.2 (by omega) o4 (o2.2.2.2.trans e18) o5 o6 (fun z z1 z2 => hg z (z1.trans o2) z2)
/-! the first item -/
def FrC (y p : St) : Prop := (∀ k, k ≠ 16 → y.A k = p.A k) ∧ (∀ k, y.L k = p.L k) ∧ ∀ k, k < 12 ∨ 20 < k → y.I k = p.I k
theorem FrC.trans {z y p : St} (h : FrC z y) (g : FrC y p) : FrC z p := ⟨fun k hk => (h.1 k hk).trans (g.1 k hk), fun k => (h.2.1 k).trans (g.2.1 k), fun k a => (h.2.2 k a).trans (g.2.2 k a)⟩
theorem FrC_A {y p : St} (f : FrA y p) : FrC y p := ⟨f.1, f.2.1, fun k hk => f.2.2 k (by omega) (by omega) (by omega) (by omega)⟩
theorem FrC_B {y p : St} (f : FrB y p) : FrC y p := ⟨f.1, f.2.1, f.2.2.1⟩
theorem FrC_I (y : St) (k : Nat) (v : Int32) (h1 : 12 ≤ k) (h2 : k ≤ 20) : FrC (y.sI k v) y := ⟨fun _ _ => rfl, fun _ => rfl, fun j hj => by rw [sI_I, if_neg (by omega)]⟩
theorem TM_frC {y p : St} {c : Nat → Nat} {b : Nat} (h : TM p c b) (f : FrC y p) : TM y c b := ⟨h.1, (f.2.2 11 (by omega)).trans h.2.1, fun k hk => by rw [f.1 10 (by decide)]; exact h.2.2 k hk⟩
theorem m_first {x : St} {c : Nat → Nat} {b : Nat} (hT : TM x c b) {Post : Int32 → St → Prop} (hg : ∀ n i0 (y : St), First c b n i0 → i0 ≤ b → FrC y x → TkM y c b i0 → y.I 17 = nI (1 + 0) → y.I 18 = nI n → y.I 19 = nI 0 → y.I 20 = nI 0 → ∃ N, wLX12_readPad_75 Post (fun p25 => Post 1 p25) N y) (hb : ∀ f (y : St), FirstBad c b f → FrC y x → y.I 15 = nI f → Post 0 y) : wpX12_readPad x Post := by
  have hE0 := tE_b (c := c) (Nat.zero_le b)
  have hE1 := tE_b (c := c) hE0.2.1
  have hE2 := tE_b (c := c) hE1.2.1
  intro p1 e1 p2 e2 p3 e3 p4 e4
  have f1 : FrC p1 x := by rw [e1]; exact FrC_I _ _ _ (by decide) (by decide)
  have f2 : FrC p2 x := by rw [e2]; exact (FrC_I _ _ _ (by decide) (by decide)).trans f1
  have f3 : FrC p3 x := by rw [e3]; exact (FrC_I _ _ _ (by decide) (by decide)).trans f2
  have f4 : FrC p4 x := by rw [e4]; exact (FrC_I _ _ _ (by decide) (by decide)).trans f3
  have i12 : p4.I 12 = nI 0 := by rw [e4, sI_I, if_neg (by decide), e3, sI_I, if_neg (by decide), e2, sI_I, if_neg (by decide), e1, sI_I, if_pos rfl]; rfl
  have i19 : p4.I 19 = nI 0 := by rw [e4, sI_I, if_neg (by decide), e3, sI_I, if_pos rfl]; rfl
  have i20 : p4.I 20 = nI 0 := by rw [e4, sI_I, if_pos rfl]; rfl
  refine m_nextToken (TM_frC hT f4) (Nat.zero_le b) i12 (fun y a1 a2 a3 => ?_)
  have fA := FrA_of a1 a2
  have fy := (FrC_A fA).trans f4
  have hK := tK_C c b 0
  rw [a3.2.2.1]
  refine nq (w := 1) (by omega) (by omega) (fun q => hb _ y (Or.inl ⟨q, rfl⟩) fy a3.1) (fun q => ?_)
  refine m_number (lo := 1) (hi := 6) (TM_frC hT fy) hE0.2.1 a3.2.1 (by omega) (by omega) (fun g y2 b1 g2 b3 => b1n ?_) (fun g y2 b1 g2 b3 => b0n (hb _ y2 (Or.inr (Or.inl ⟨q, g, rfl⟩)) ((FrC_A g2).trans fy) b3.1))
  intro p8 e8
  have fy2 := (FrC_A g2).trans fy
  have f8 : FrC p8 x := by rw [e8]; exact (FrC_I _ _ _ (by decide) (by decide)).trans fy2
  refine m_nextToken (TM_frC hT f8) hE1.2.1 (by rw [e8]; exact b3.2.1) (fun y3 c1 c2 c3 => ?_)
  have fy3 := (FrC_A (FrA_of c1 c2)).trans f8
  have hK2 := tK_C c b (tE c b (tE c b 0))
  rw [c3.2.2.1]
  refine ⟨fun w => ?_, fun w => hb _ y3 (Or.inr (Or.inr ⟨q, g, fun z => w (by rw [z]; rfl), rfl⟩)) fy3 c3.1⟩
  have w5 : tK c b (tE c b (tE c b 0)) = 5 := (nI_eq (b := 5) (by omega) (by decide)).mp w
  intro p10 e10
  have f10 : FrC p10 x := by rw [e10]; exact (FrC_I _ _ _ (by decide) (by decide)).trans fy3
  refine m_nextToken (TM_frC hT f10) hE2.2.1 (by rw [e10]; exact c3.2.1) (fun y4 d1 d2 d3 => ?_)
  refine hg _ _ y4 ⟨q, g, rfl, w5, rfl⟩ hE2.2.1 ((FrC_A (FrA_of d1 d2)).trans f10) d3 ?_ ?_ ?_ ?_
  · rw [d2 17 (by decide) (by decide) (by decide) (by decide), e10, sI_I, if_pos rfl]; rfl
  · rw [d2 18 (by decide) (by decide) (by decide) (by decide), e10, sI_I, if_neg (by decide), c2 18 (by decide) (by decide) (by decide) (by decide), e8, sI_I, if_pos rfl]
    exact b3.2.2.2 g.1
  · rw [d2 19 (by decide) (by decide) (by decide) (by decide), e10, sI_I, if_neg (by decide), c2 19 (by decide) (by decide) (by decide) (by decide), e8, sI_I, if_neg (by decide), g2.2.2 19 (by decide) (by decide) (by decide) (by decide), fA.2.2 19 (by decide) (by decide) (by decide) (by decide)]; exact i19
  · rw [d2 20 (by decide) (by decide) (by decide) (by decide), e10, sI_I, if_neg (by decide), c2 20 (by decide) (by decide) (by decide) (by decide), e8, sI_I, if_neg (by decide), g2.2.2 20 (by decide) (by decide) (by decide) (by decide), fA.2.2 20 (by decide) (by decide) (by decide) (by decide)]; exact i20
theorem First_bad {c : Nat → Nat} {b n i0 f : Nat} (h : First c b n i0) (g : FirstBad c b f) : False := by
  obtain ⟨h1, h2, h3, h4, h5⟩ := h
  rcases g with ⟨g1, -⟩ | ⟨g1, g2, -⟩ | ⟨g1, g2, g3, -⟩
  · exact g1 h1
  · exact g2 h2
  · exact g3 h4
theorem FirstBad_det {c : Nat → Nat} {b f f2 : Nat} (h : FirstBad c b f) (g : FirstBad c b f2) : f = f2 := by
  rcases h with ⟨h1, h9⟩ | ⟨h1, h2, h9⟩ | ⟨h1, h2, h3, h9⟩ <;> rcases g with ⟨g1, g9⟩ | ⟨g1, g2, g9⟩ | ⟨g1, g2, g3, g9⟩ <;> first | omega | contradiction
theorem First_det {c : Nat → Nat} {b n i0 n2 i2 : Nat} (h : First c b n i0) (g : First c b n2 i2) : n = n2 ∧ i0 = i2 := ⟨h.2.2.1.trans g.2.2.1.symm, h.2.2.2.2.trans g.2.2.2.2.symm⟩
theorem m_padG {x : St} {c : Nat → Nat} {b n i0 i T m : Nat} {L : List (Nat × Nat × Nat × Nat)} (hT : TM x c b) (hF : First c b n i0) (hC : Ch c b n i0 0 0 L i T m) (h7 : tK c b i = 7) {Post : Int32 → St → Prop} (h : ∀ y : St, FrC y x → y.I 17 = nI (1 + L.length) → y.I 18 = nI n → (∀ j (h : j < L.length), StoI (y.A 16) j (L[j])) → Post 1 y) : wpX12_readPad x Post := by
  have hb := hT.1
  refine m_first hT (fun n' i' y o1 o2 o3 o4 o5 o6 o7 o8 => ?_) (fun f y o1 => (First_bad hF o1).elim)
  obtain ⟨rfl, rfl⟩ := First_det hF o1
  have hl := Ch_len L hC o2
  have hn1 := hF.2.1.2.1
  have hn6 := hF.2.1.2.2
  rw [← hF.2.2.1] at hn1 hn6
  refine ⟨L.length + 1, m_loopG hn1 hn6 L _ 0 0 0 y hC h7 o2 (TM_frC hT o3) o4 (by omega) (by omega) (by omega) o5 o6 o7 o8 (fun z z1 z2 z3 z4 => ?_)⟩
  refine h z ((FrC_B z1).trans o3) (by rw [z2, Nat.zero_add]) (z1.2.2.2.trans o6) (fun j hj => ?_)
  have := z3 j hj
  rw [Nat.zero_add] at this
  exact this
theorem m_padB {x : St} {c : Nat → Nat} {b f : Nat} (hT : TM x c b) (hB : FirstBad c b f ∨ ∃ n i0 L i T m, First c b n i0 ∧ Ch c b n i0 0 0 L i T m ∧ ItBad c b n T m i f) {Post : Int32 → St → Prop} (h : ∀ y : St, FrC y x → y.I 15 = nI f → Post 0 y) : wpX12_readPad x Post := by
  have hb := hT.1
  rcases hB with hB | ⟨n, i0, L, i, T, m, hF, hC, hI⟩
  · refine m_first hT (fun n' i' y o1 => (First_bad o1 hB).elim) (fun f2 y o1 o2 o3 => h y o2 ?_)
    rw [o3, FirstBad_det o1 hB]
  · refine m_first hT (fun n' i' y o1 o2 o3 o4 o5 o6 o7 o8 => ?_) (fun f y o1 => (First_bad hF o1).elim)
    obtain ⟨rfl, rfl⟩ := First_det hF o1
    have hl := Ch_len L hC o2
    have hn1 := hF.2.1.2.1
    have hn6 := hF.2.1.2.2
    rw [← hF.2.2.1] at hn1 hn6
    exact ⟨L.length + 1, m_loopB hn1 hn6 L _ 0 0 0 y hC hI o2 (TM_frC hT o3) o4 (by omega) (by omega) (by omega) o5 o6 o7 o8 (fun z z1 z2 => h z ((FrC_B z1).trans o3) z2)⟩
end
section
/-! replaying in the model -/
theorem WF_put {x : St} {n k pr ce : Nat} {st : Nat → Int32} (hst : x.A 4 = st) (hW : WF st n) (hn : n ≤ 6) (hT : tN st < n) (hm : mN st < 10) (hk : k < 6) (hp1 : 1 ≤ pr) (hp9 : pr ≤ 9) (hce : ce < 4096) : WF (wrS x n k pr ce) n ∧ mN (wrS x n k pr ce) = mN st + 1 ∧ tN (wrS x n k pr ce) = tN st := by
  obtain ⟨w1, w2, w3, w4, w5, w6⟩ := hW
  have far : ∀ j, 84 ≤ j → rwS 12 12 6 1 (x.I 1) (tN st) k pr ce (inkR k ce (tN st) st) (n - tN st) j = st j := fun j hj => by
    rw [mS_far (by omega) _ (by omega), inkR_far (by omega)]
  have ew : wrS x n k pr ce = upd (upd (upd (upd (upd (rwS 12 12 6 1 (x.I 1) (tN st) k pr ce (inkR k ce (tN st) st) (n - tN st)) (84 + 4 * mN st) (nI k)) (85 + 4 * mN st) (nI pr)) (86 + 4 * mN st) (nI ce)) (87 + 4 * mN st) (nI (tN st))) 124 (nI (mN st + 1)) := by unfold wrS; rw [hst]
  have low : ∀ j, j < 84 → wrS x n k pr ce j = rwS 12 12 6 1 (x.I 1) (tN st) k pr ce (inkR k ce (tN st) st) (n - tN st) j := fun j hj => by
    rw [ew, upd_ne (by omega), upd_ne (by omega), upd_ne (by omega), upd_ne (by omega), upd_ne (by omega)]
  have old : ∀ j, 84 ≤ j → j < 84 + 4 * mN st → wrS x n k pr ce j = st j := fun j h1 h2 => by
    rw [ew, upd_ne (by omega), upd_ne (by omega), upd_ne (by omega), upd_ne (by omega), upd_ne (by omega), far j h1]
  have n0 : wrS x n k pr ce (84 + 4 * mN st) = nI k := by rw [ew, upd_ne (by omega), upd_ne (by omega), upd_ne (by omega), upd_ne (by omega), upd_at]
  have n1 : wrS x n k pr ce (85 + 4 * mN st) = nI pr := by rw [ew, upd_ne (by omega), upd_ne (by omega), upd_ne (by omega), upd_at]
  have n2 : wrS x n k pr ce (86 + 4 * mN st) = nI ce := by rw [ew, upd_ne (by omega), upd_ne (by omega), upd_at]
  have n3 : wrS x n k pr ce (87 + 4 * mN st) = nI (tN st) := by rw [ew, upd_ne (by omega), upd_at]
  have n124 : wrS x n k pr ce 124 = nI (mN st + 1) := by rw [ew, upd_at]
  have n125 : wrS x n k pr ce 125 = nI (tN st) := by rw [ew, upd_ne (by omega), upd_ne (by omega), upd_ne (by omega), upd_ne (by omega), upd_ne (by omega), far 125 (by omega), w1]
  have emN : mN (wrS x n k pr ce) = mN st + 1 := by
    have : mN (wrS x n k pr ce) = (nI (mN st + 1)).toNatClampNeg := by rw [← n124]; rfl
    rw [this, ncl (by omega)]
  have etN : tN (wrS x n k pr ce) = tN st := by
    have : tN (wrS x n k pr ce) = (nI (tN st)).toNatClampNeg := by rw [← n125]; rfl
    rw [this, ncl (by omega)]
  refine ⟨⟨by rw [n125, etN], by omega, by rw [n124, emN], by omega, fun j hj => ?_, fun s hs c hc => ?_⟩, emN, etN⟩
  · rw [emN] at hj
    by_cases hjm : j = mN st
    · subst hjm
      unfold GN kN prN ceN onN
      rw [n0, n1, n2, n3, ncl (by omega), ncl (by omega), ncl (by omega), ncl (by omega), etN]
      exact ⟨rfl, hk, rfl, hp1, hp9, rfl, hce, rfl, hT, Nat.le_refl _⟩
    · exact GN_c (fun i h1 h2 => old i (by omega) (by omega)) (by rw [etN]; exact Nat.le_refl _) (w5 j (by omega))
  · rw [emN, mx_s, mx_c _ (fun i h1 h2 => old i h1 h2), low _ (by omega), mS_dent (by omega) hc _ (by omega), inkR_far (by omega), w6 s hs c hc]
    have hmx : 0 ≤ (mx st s c (mN st)).toInt := by
      have := exN_T (K := 0) (c := c) (show WF st n from ⟨w1, w2, w3, w4, w5, w6⟩) (show s < 6 by omega) (mN st) (Nat.le_refl _)
      omega
    have hfr : frc (wrS x n k pr ce) s c (mN st) = if tN st ≤ s ∧ ce.testBit c = true then ftN k pr (s - tN st) else 0 := by
      unfold frc onN ceN
      rw [n0, n1, n2, n3, ncl (by omega), ncl (by omega)]; rfl
    rw [hfr]
    by_cases hq : tN st ≤ s ∧ ce.testBit c = true
    · rw [if_pos hq]
      by_cases hl : mx st s c (mN st) < ftN k pr (s - tN st)
      · rw [if_pos ⟨hq.1, by omega, hq.2, hl⟩, if_pos hl]
      · rw [if_neg (fun w => hl w.2.2.2), if_neg hl]
    · rw [if_neg hq, if_neg (fun w => hq ⟨w.1, w.2.2.1⟩), if_neg (fun w => by rw [fa_lt, z0I] at w; omega)]
def FrD (y x : St) : Prop := (∀ k, k ≠ 4 → y.A k = x.A k) ∧ (∀ k, y.L k = x.L k) ∧ ∀ k, k ≠ 1 → y.I k = x.I k
theorem FrD_refl (p : St) : FrD p p := ⟨fun _ _ => rfl, fun _ => rfl, fun _ _ => rfl⟩
theorem FrD.trans {z y p : St} (h : FrD z y) (g : FrD y p) : FrD z p := ⟨fun k hk => (h.1 k hk).trans (g.1 k hk), fun k => (h.2.1 k).trans (g.2.1 k), fun k a => (h.2.2 k a).trans (g.2.2 k a)⟩
theorem FrD_sA (x : St) (v : Nat → Int32) : FrD (x.sA 4 v) x := ⟨fun k hk => by rw [sA_A, if_neg hk], fun _ => rfl, fun _ _ => rfl⟩
theorem FrD_sI (x : St) (v : Int32) : FrD (x.sI 1 v) x := ⟨fun _ _ => rfl, fun _ => rfl, fun k hk => by rw [sI_I, if_neg hk]⟩
theorem m_replay {c : Nat → Nat} {b n : Nat} {Post : Int32 → St → Prop} {KX : St → Prop} (hn : n ≤ 6) : ∀ (L : List (Nat × Nat × Nat × Nat)) (i T m k : Nat) (x : St) {i' T' m' : Nat}, Ch c b n i T m L i' T' m' → i ≤ b → k + L.length < 148 → x.I 17 = nI (1 + (k + L.length)) → (∀ j (h : j < L.length), StoI (x.A 16) (k + j) (L[j])) → x.I 0 = nI n → WF (x.A 4) n → tN (x.A 4) = T → mN (x.A 4) = m → (∀ y : St, FrD y x → y.I 1 = (rpL n (x.I 1, x.A 4) L).1 → y.A 4 = (rpL n (x.I 1, x.A 4) L).2 → KX y) → wLX12_read_34 Post KX (L.length + 1) (nI (1 + k), x)
  | [], i, T, m, k, x, i', T', m', hC, hi, hl, e17, hS, e0, hW, hT, hm, hg => by
    show wlX12_read_34 Post KX _ (nI (1 + k)) x
    unfold wlX12_read_34
    have hl' : k + 0 < 148 := hl
    have e17' : x.I 17 = nI (1 + k) := e17
    refine ⟨fun _ => hg x (FrD_refl x) rfl rfl, fun w => absurd ?_ w⟩
    rw [e17']
    exact nI_le (Nat.le_refl _) (by omega)
  | it :: L, i, T, m, k, x, i', T', m', hC, hi, hl, e17, hS, e0, hW, hT, hm, hg => by
    obtain ⟨i1, hO, hC⟩ := hC
    rw [List.length_cons] at hl e17
    have h2 := ItOk_2 hi hO
    have hE1 := tE_b (c := c) hi
    have hE2 := tE_b (c := c) hE1.2.1
    have hE3 := tE_b (c := c) hE2.2.1
    have hcel := cel_b (c := c) 12 0 0 (tE c b (tE c b (tE c b i))) hE3.2.1 (by omega)
    obtain ⟨s0, s2, s3⟩ : StoI (x.A 16) k it := hS 0 (by rw [List.length_cons]; omega)
    show wlX12_read_34 Post KX (wLX12_read_34 Post KX (L.length + 1)) (nI (1 + k)) x
    unfold wlX12_read_34
    refine ⟨fun w => absurd w ?_, fun _ x2 ex2 => ?_⟩
    · rw [e17]
      exact nI_ge (by omega) (by omega)
    have ix : (4 : Int32) * nI (1 + k) = nI (4 * (1 + k)) := pk_mul 4 (1 + k)
    rw [ix] at ex2
    subst ex2
    have next : ∀ (z : Int32) (y : St), z = nI (1 + k) + 1 → FrD y x → WF (y.A 4) n → tN (y.A 4) = T + trI it → mN (y.A 4) = m + ntI it → (y.I 1, y.A 4) = rpI n (x.I 1, x.A 4) it → wLX12_read_34 Post KX (L.length + 1) (z, y) := by
      intro z y ez fy wy ty my ry
      rw [nI_1] at ez
      subst ez
      refine m_replay hn L i1 (T + trI it) (m + ntI it) (k + 1) y hC h2.2 (by omega) ?_ (fun j hj => ?_) ?_ wy ty my (fun u u1 u2 u3 => ?_)
      · rw [fy.2.2 17 (by decide), e17]; congr 1; omega
      · have := hS (j + 1) (by rw [List.length_cons]; omega)
        rw [show k + (j + 1) = k + 1 + j by omega] at this
        rw [fy.1 16 (by decide)]
        exact this
      · rw [fy.2.2 0 (by decide)]; exact e0
      · rw [ry] at u2 u3
        exact hg u (u1.trans fy) u2 u3
    rw [ncl (by omega), show nI (4 * (1 + k)) + 1 = nI (4 * (1 + k) + 1) from nI_1 _, show nI (4 * (1 + k)) + 2 = nI (4 * (1 + k) + 2) from nI_add _ 2, show nI (4 * (1 + k)) + 3 = nI (4 * (1 + k) + 3) from nI_add _ 3, ncl (by omega), ncl (by omega), ncl (by omega), s0]
    refine ⟨vp_in_nI (by omega) (by omega), ?_⟩
    rcases hO with ⟨-, g, -, rfl, -⟩ | ⟨-, hlt, -, rfl, -⟩ | ⟨-, hlt, hm10, g, gg, -, rfl, -⟩
    · refine ⟨fun e => absurd rfl e, fun _ => ⟨vp_in_nI (by omega) (by omega), fun y ey z ez => ?_⟩⟩
      rw [s2 rfl] at ey
      subst ey
      exact next z _ ez (FrD_sI x _) hW hT hm rfl
    · refine ⟨fun _ => ⟨vp_in_nI (by omega) (by omega), fun _ y ey z ez => ?_, fun e => absurd e (by show ¬ (4 : Int32) = 3; decide)⟩, fun e => absurd e (by show ¬ (4 : Int32) = 2; decide)⟩
      subst ey
      have ht := tear_WF hW (by omega) hn
      exact next z _ ez (FrD_sA x _) ht.1 (by show tN (upd (x.A 4) 125 (x.A 4 125 + 1)) = T + 1; rw [ht.2.1, hT]) (by show mN (upd (x.A 4) 125 (x.A 4 125 + 1)) = m + 0; rw [ht.2.2, hm]; rfl) rfl
    · refine ⟨fun _ => ⟨vp_in_nI (by omega) (by omega), fun e => absurd rfl e, fun _ => ⟨vp_in_nI (by omega) (by omega), vp_in_nI (by omega) (by omega), vp_in_nI (by omega) (by omega), ?_⟩⟩, fun e => absurd e (by show ¬ (3 : Int32) = 2; decide)⟩
      obtain ⟨q1, q2, q3⟩ := s3 rfl
      rw [q1, q2, q3]
      have gk := g.2.2
      have ggl := gg.2.1
      have ggh := gg.2.2
      refine m_writeNow e0 hn hW (by omega) (by show tV c b (tE c b i) < 6; omega) hcel.2.2 (fun z ez => ?_)
      have hp := WF_put (x := x) (pr := tV c b (tE c b (tE c b i))) rfl hW hn (by omega) (by omega) (show tV c b (tE c b i) < 6 by omega) ggl ggh hcel.2.2
      generalize tV c b (tE c b i) = v1 at hp next ⊢
      generalize tV c b (tE c b (tE c b i)) = v2 at hp next ⊢
      generalize (cel c b 12 0 0 (tE c b (tE c b (tE c b i)))).1 = v3 at hp next ⊢
      refine next z _ ez (FrD_sA x _) hp.1 (hp.2.2.trans hT) (hp.2.1.trans (by rw [hm]; rfl)) ?_
      show (x.I 1, wrS x n v1 v2 v3) = rpI n (x.I 1, x.A 4) (3, v1, v2, v3)
      rfl
theorem WF_0 {st : Nat → Int32} {n : Nat} (h1 : 1 ≤ n) (h6 : n ≤ 6) (hs : ∀ k, k < 126 → st k = 0) : WF st n ∧ tN st = 0 ∧ mN st = 0 := by
  have et : tN st = 0 := by unfold tN; rw [hs 125 (by decide)]; decide
  have em : mN st = 0 := by unfold mN; rw [hs 124 (by decide)]; decide
  refine ⟨⟨by rw [et, hs 125 (by decide)]; rfl, by omega, by rw [em, hs 124 (by decide)]; rfl, by omega, fun k hk => by rw [em] at hk; omega, fun s hs6 c hc => ?_⟩, et, em⟩
  rw [em, hs _ (by omega)]; rfl
/-- what read leaves of the model's state -/
def FrE (y x : St) : Prop := (∀ k, k ≠ 4 → k ≠ 16 → y.A k = x.A k) ∧ (∀ k, y.L k = x.L k) ∧ ∀ k, k = 11 ∨ 20 < k → y.I k = x.I k
theorem m_readG {x : St} {c : Nat → Nat} {b n i0 i T m : Nat} {L : List (Nat × Nat × Nat × Nat)} (hT : TM x c b) (hF : First c b n i0) (hC : Ch c b n i0 0 0 L i T m) (h7 : tK c b i = 7) {Post : Int32 → St → Prop} (h : ∀ (y : St) (row0 : Nat → Int32), (∀ k, k < 126 → row0 k = 0) → FrE y x → y.I 0 = nI n → y.I 3 = 0 → y.I 6 = 0 → y.I 1 = (rpL n (0, row0) L).1 → y.A 4 = (rpL n (0, row0) L).2 → Post (nI (1 + L.length)) y) : wpX12_read x Post := by
  have hb := hT.1
  have hn1 := hF.2.1.2.1
  have hn6 := hF.2.1.2.2
  rw [← hF.2.2.1] at hn1 hn6
  have hi0 : i0 ≤ b := by
    have hE0 := tE_b (c := c) (Nat.zero_le b)
    have hE1 := tE_b (c := c) hE0.2.1
    have hE2 := tE_b (c := c) hE1.2.1
    rw [hF.2.2.2.2]; exact hE2.2.1
  have hl := Ch_len L hC hi0
  unfold wpX12_read
  refine m_padG hT hF hC h7 (fun y f1 e17 e18 hS => b1n (fun p3 e3 => ?_))
  rw [e18] at e3
  refine m_empty (fun p4 a1 a6 aI aL a4 aA => ?_)
  intro p5 e5
  have hz : ∀ k, k < 126 → p5.A 4 k = 0 := by rw [e5]; exact a4
  have hw := WF_0 hn1 hn6 hz
  have hA : ∀ k, k ≠ 4 → k ≠ 16 → p5.A k = x.A k := fun k k4 k16 => by
    rw [e5, sI_A, aA k k4, e3, sI_A]; exact f1.1 k k16
  have hA16 : p5.A 16 = y.A 16 := by rw [e5, sI_A, aA 16 (by decide), e3, sI_A]
  have hL : ∀ k, p5.L k = x.L k := fun k => by rw [e5, sI_L, aL k, e3, sI_L]; exact f1.2.1 k
  have hI : ∀ k, k ≠ 3 → k ≠ 1 → k ≠ 6 → k ≠ 0 → p5.I k = y.I k := fun k k3 k1 k6 k0 => by
    rw [e5, sI_I, if_neg k3, aI k k1 k6, e3, sI_I, if_neg k0]
  have i0' : p5.I 0 = nI n := by rw [e5, sI_I, if_neg (by decide), aI 0 (by decide) (by decide), e3, sI_I, if_pos rfl]
  have i1 : p5.I 1 = 0 := by rw [e5, sI_I, if_neg (by decide)]; exact a1
  have i3 : p5.I 3 = 0 := by rw [e5, sI_I, if_pos rfl]
  have i6 : p5.I 6 = 0 := by rw [e5, sI_I, if_neg (by decide)]; exact a6
  have i17 : p5.I 17 = nI (1 + (0 + L.length)) := by rw [hI 17 (by decide) (by decide) (by decide) (by decide), e17, Nat.zero_add]
  refine ⟨L.length + 1, ?_⟩
  refine m_replay hn6 L i0 0 0 0 p5 hC hi0 (by omega) i17 (fun j hj => ?_) i0' hw.1 hw.2.1 hw.2.2 (fun z z1 z2 z3 => ?_)
  · rw [Nat.zero_add, hA16]; exact hS j hj
  · rw [i1] at z2 z3
    have hz17 : z.I 17 = nI (1 + L.length) := by rw [z1.2.2 17 (by decide), i17, Nat.zero_add]
    show Post (z.I 17) z
    rw [hz17]
    refine h z (p5.A 4) hz ⟨fun k k4 k16 => (z1.1 k k4).trans (hA k k4 k16), fun k => (z1.2.1 k).trans (hL k), fun k hk => ?_⟩ ((z1.2.2 0 (by decide)).trans i0') ((z1.2.2 3 (by decide)).trans i3) ((z1.2.2 6 (by decide)).trans i6) z2 z3
    rw [z1.2.2 k (by omega), hI k (by omega) (by omega) (by omega) (by omega)]
    exact f1.2.2 k (by omega)
theorem m_readB {x : St} {c : Nat → Nat} {b f : Nat} (hT : TM x c b) (hB : FirstBad c b f ∨ ∃ n i0 L i T m, First c b n i0 ∧ Ch c b n i0 0 0 L i T m ∧ ItBad c b n T m i f) {Post : Int32 → St → Prop} (h : ∀ y : St, FrC y x → Post (((-10) : Int32) - nI f) y) : wpX12_read x Post := by
  unfold wpX12_read
  refine m_padB hT hB (fun y f1 e15 => b0n ?_)
  rw [e15]; exact h y f1
theorem s_read {t : Nat → St} {x : St} (h : Rel t x) : SimI (wpX11_read t) (wpX12_read x) := by
  obtain ⟨hN, hO, hT, hM⟩ := id h
  obtain ⟨b, hb, eb, ebx, hch⟩ := hT
  have hc : ∀ k, k < b → x.A 10 k = nI ((x.A 10 k).toNatClampNeg) ∧ (x.A 10 k).toNatClampNeg < 128 := fun k hk => by
    obtain ⟨-, c, hc, e⟩ := hch k hk
    rw [e, ncl (by omega)]; exact ⟨rfl, hc⟩
  have hTX : TX (t 8) (fun k => (x.A 10 k).toNatClampNeg) b := ⟨hb, eb, fun k hk => ⟨(hch k hk).1.trans (hc k hk).1, (hc k hk).2⟩⟩
  have hTM : TM x (fun k => (x.A 10 k).toNatClampNeg) b := ⟨hb, ebx, hc⟩
  generalize (fun k => (x.A 10 k).toNatClampNeg) = c at hTX hTM
  have bad : ∀ (f : Nat) (p' q' : St), (FirstBad c b f ∨ ∃ n i0 L i T m, First c b n i0 ∧ Ch c b n i0 0 0 L i T m ∧ ItBad c b n T m i f) → p'.2 = (t 8).2 → p'.I 1 = (t 8).I 1 → p'.I 4 = nI f → ∀ (p2 p3 : St), ((p', q') : St × St) = (p2, p3) → ∀ t4 : Nat → St, t4 = upS (upS t 8 p2) 3 p3 → ((0 ≤ (-1 : Int32)) → wpX4_copyFrom (t4 2) (t4 3) (fun (p5 : St) => ∀ t6 : Nat → St, t6 = upS t4 2 p5 → wpX12_read x (fun r' x' => (-1 : Int32) = r' ∧ Rel t6 x'))) ∧ ((¬ 0 ≤ (-1 : Int32)) → wpX7_fault (t4 8) (fun (r7 : Int32) => wpX12_read x (fun r' x' => ((-10) : Int32) - r7 = r' ∧ Rel t4 x'))) := by
    intro f p' q' hB g2 g1 g4 p2 p3 e t4 et4
    obtain ⟨rfl, rfl⟩ := Prod.mk.inj e
    refine ⟨fun w => absurd w (by decide), fun _ => ?_⟩
    have e8 : t4 8 = p' := by rw [et4]; rfl
    show wpX12_read x (fun r' x' => ((-10) : Int32) - (t4 8).I 4 = r' ∧ Rel t4 x')
    rw [e8, g4]
    refine m_readB hTM hB (fun y f1 => ⟨rfl, ?_⟩)
    have e0 : t4 0 = t 0 := by rw [et4]; rfl
    have e2 : t4 2 = t 2 := by rw [et4]; rfl
    have e4 : t4 4 = t 4 := by rw [et4]; rfl
    have e5 : t4 5 = t 5 := by rw [et4]; rfl
    unfold Rel
    rw [e0, e2, e4, e5, e8]
    refine ⟨?_, ?_, ⟨b, hb, g1.trans eb, ?_, fun k hk => ?_⟩, ?_⟩
    · unfold NowR at hN ⊢
      rw [f1.1 4 (by decide), f1.1 5 (by decide), f1.1 2 (by decide), f1.2.2 0 (by omega), f1.2.2 1 (by omega), f1.2.2 3 (by omega), f1.2.2 6 (by omega)]; exact hN
    · unfold ObjR at hO ⊢
      rw [f1.2.1, f1.2.1, f1.1 9 (by decide)]; exact hO
    · rw [f1.2.2 11 (by omega)]; exact ebx
    · rw [f1.1 10 (by decide), A_of2 g2]; exact hch k hk
    · unfold ImsR at hM ⊢
      rw [f1.1 27 (by decide), f1.1 28 (by decide)]; exact hM
  unfold SimI wpX11_read
  refine k_readInto hTX (fun n i0 L i T m p' q' hF hC h7 hLen hD g2 g1 => ?_) (fun f p' q' hB g2 g1 g4 => bad f p' q' (Or.inl hB) g2 g1 g4) (fun n i0 L i T m f p' q' hF hC hI g2 g1 g4 => bad f p' q' (Or.inr ⟨n, i0, L, i, T, m, hF, hC, hI⟩) g2 g1 g4)
  clear bad
  intro p2 p3 e t4 et4
  obtain ⟨rfl, rfl⟩ := Prod.mk.inj e
  refine ⟨fun _ => ?_, fun w => absurd ?_ w⟩
  · have e2 : t4 2 = t 2 := by rw [et4]; rfl
    have e3 : t4 3 = q' := by rw [et4]; rfl
    have e8 : t4 8 = p' := by rw [et4]; rfl
    have D0 := (hD (fun _ => 0) (fun _ _ => rfl)).1
    rw [e2, e3]
    refine k_copyP (u := 0) D0.2.2.2.2.2.2.1 (by omega) (fun p'' cp => ?_)
    intro t6 et6
    refine m_readG hTM hF hC h7 (fun y row0 hz f1 i0' i3 i6 i1 a4 => ⟨rfl, ?_⟩)
    have g2' : t6 2 = p'' := by rw [et6]; rfl
    have g0' : t6 0 = t 0 := by rw [et6, et4]; rfl
    have g4' : t6 4 = t 4 := by rw [et6, et4]; rfl
    have g5' : t6 5 = t 5 := by rw [et6, et4]; rfl
    have g8' : t6 8 = p' := by rw [et6, et4]; rfl
    have D := hD row0 hz
    unfold Rel
    rw [g2', g0', g4', g5', g8']
    refine ⟨⟨?_, n, 0, 0, i0', i3, i6, ?_⟩, ?_, ⟨b, hb, g1.trans eb, ?_, fun k hk => ?_⟩, ?_⟩
    · rw [cp.2.1, D.2.1, i1]
    · rw [a4]
      exact PadN_copy cp (fun _ _ => rfl) (fun k hk => absurd hk (by omega)) (fun k hk => absurd hk (by omega)) D.1
    · unfold ObjR at hO ⊢
      rw [f1.2.1, f1.2.1, f1.1 9 (by decide) (by decide)]; exact hO
    · rw [f1.2.2 11 (by omega)]; exact ebx
    · rw [f1.1 10 (by decide) (by decide), A_of2 g2]; exact hch k hk
    · unfold ImsR at hM ⊢
      rw [f1.1 27 (by decide) (by decide), f1.1 28 (by decide) (by decide)]; exact hM
  · rw [show (0 : Int32) = nI 0 from rfl]
    exact nI_le (by omega) (by omega)
end
section
section
variable {p : Program} {l : Launch} {e : Env} {R : Room} {s : State} {m : MethodId} {args : Array Value} {below : List Frame} {meth : Method} {c : Code} {E : VE} {A : Nat → Prop} {cc : ByteArray} {nL cells slots : Nat} {ret : Option FieldType} {own : String} {Q : State → Prop} {w : va_W} {pc : Nat} {lv : List (Nat × Value)} {st : List Value}
theorem v_iconst (C : VC p s m args meth c E A cc nL ret own) {n : Int} (v : Int32) (hv : Int32.ofInt n = v) (hd : decode cc pc = .ok (.iconst n, 1)) (k : V p l e R s m args below meth c E A nL cells slots Q w (pc + 1) lv (.int v :: st)) : V p l e R s m args below meth c E A nL cells slots Q w pc lv (st) := fun H locs ls hP hD hS hl => lv_iconst C.1 C.2.1 hd hv (k H locs ls hP hD hS hl)
theorem v_bipush (C : VC p s m args meth c E A cc nL ret own) {n : Int} (v : Int32) (hv : (Int8.ofInt n).toInt32 = v) (hd : decode cc pc = .ok (.bipush n, 2)) (k : V p l e R s m args below meth c E A nL cells slots Q w (pc + 2) lv (.int v :: st)) : V p l e R s m args below meth c E A nL cells slots Q w pc lv (st) := fun H locs ls hP hD hS hl => lv_bipush C.1 C.2.1 hd hv (k H locs ls hP hD hS hl)
theorem v_sipush (C : VC p s m args meth c E A cc nL ret own) {n : Int} (v : Int32) (hv : (Int16.ofInt n).toInt32 = v) (hd : decode cc pc = .ok (.sipush n, 3)) (k : V p l e R s m args below meth c E A nL cells slots Q w (pc + 3) lv (.int v :: st)) : V p l e R s m args below meth c E A nL cells slots Q w pc lv (st) := fun H locs ls hP hD hS hl => lv_sipush C.1 C.2.1 hd hv (k H locs ls hP hD hS hl)
theorem v_lconst (C : VC p s m args meth c E A cc nL ret own) {n : Fin 2} (v : Int64) (hv : Int64.ofNat (n : Nat) = v) (hd : decode cc pc = .ok (.lconst n, 1)) (k : V p l e R s m args below meth c E A nL cells slots Q w (pc + 1) lv (.long v :: st)) : V p l e R s m args below meth c E A nL cells slots Q w pc lv (st) := fun H locs ls hP hD hS hl => lv_lconst C.1 C.2.1 hd hv (k H locs ls hP hD hS hl)
theorem v_ldc (C : VC p s m args meth c E A cc nL ret own) {index : Nat} (v : Int32) (hw : Cond.constant own index v ∈ gG) (hd : decode cc pc = .ok (.ldc index, 2)) (k : V p l e R s m args below meth c E A nL cells slots Q w (pc + 2) lv (.int v :: st)) : V p l e R s m args below meth c E A nL cells slots Q w pc lv (st) := fun H locs ls hP hD hS hl => lv_ldc C.1 C.2.1 C.2.2.2.2.1 (C.2.2.2.2.2.1 _ hw) hd (k H locs ls hP hD hS hl)
theorem v_ldcw (C : VC p s m args meth c E A cc nL ret own) {index : Nat} (v : Int32) (hw : Cond.constant own index v ∈ gG) (hd : decode cc pc = .ok (.ldc_w index, 3)) (k : V p l e R s m args below meth c E A nL cells slots Q w (pc + 3) lv (.int v :: st)) : V p l e R s m args below meth c E A nL cells slots Q w pc lv (st) := fun H locs ls hP hD hS hl => lv_ldcw C.1 C.2.1 C.2.2.2.2.1 (C.2.2.2.2.2.1 _ hw) hd (k H locs ls hP hD hS hl)
theorem v_ldc2 (C : VC p s m args meth c E A cc nL ret own) {index : Nat} (v : Int64) (hw : Cond.constantLong own index v ∈ gG) (hd : decode cc pc = .ok (.ldc2_w index, 3)) (k : V p l e R s m args below meth c E A nL cells slots Q w (pc + 3) lv (.long v :: st)) : V p l e R s m args below meth c E A nL cells slots Q w pc lv (st) := fun H locs ls hP hD hS hl => lv_ldc2 C.1 C.2.1 C.2.2.2.2.1 (C.2.2.2.2.2.1 _ hw) hd (k H locs ls hP hD hS hl)
theorem v_iload_n (C : VC p s m args meth c E A cc nL ret own) {k0 : Fin 4} {i : Nat} {x : Int32} (j : Nat) (hj : lv[j]? = some (i, .int x)) (hi : (k0 : Nat) = i) (hd : decode cc pc = .ok (.iload_n k0, 1)) (k : V p l e R s m args below meth c E A nL cells slots Q w (pc + 1) lv (.int x :: st)) : V p l e R s m args below meth c E A nL cells slots Q w pc lv (st) := fun H locs ls hP hD hS hl => lv_iload_n C.1 C.2.1 hd hi (lv_at hl j hj) (k H locs ls hP hD hS hl)
theorem v_iload (C : VC p s m args meth c E A cc nL ret own) {i : Nat} {x : Int32} (j : Nat) (hj : lv[j]? = some (i, .int x)) (hd : decode cc pc = .ok (.iload i, 2)) (k : V p l e R s m args below meth c E A nL cells slots Q w (pc + 2) lv (.int x :: st)) : V p l e R s m args below meth c E A nL cells slots Q w pc lv (st) := fun H locs ls hP hD hS hl => lv_iload C.1 C.2.1 hd (lv_at hl j hj) (k H locs ls hP hD hS hl)
theorem v_istore_n (C : VC p s m args meth c E A cc nL ret own) {k0 : Fin 4} {i : Nat} {x : Int32} (lv' : List (Nat × Value)) (hl' : (i, Value.int x) :: lv.filter (fun q => !(q.1 == i) && !(q.1 + 1 == i && q.2.category == 2)) = lv') (hi : (k0 : Nat) = i) (hn : i < nL) (hd : decode cc pc = .ok (.istore_n k0, 1)) (k : V p l e R s m args below meth c E A nL cells slots Q w (pc + 1) lv' st) : V p l e R s m args below meth c E A nL cells slots Q w pc lv (.int x :: st) := fun H locs ls hP hD hS hl => lv_istore_n C.1 C.2.1 hd hi hl hn hl' (fun ls' h' => k H locs ls' hP hD hS h')
theorem v_istore (C : VC p s m args meth c E A cc nL ret own) {i : Nat} {x : Int32} (lv' : List (Nat × Value)) (hl' : (i, Value.int x) :: lv.filter (fun q => !(q.1 == i) && !(q.1 + 1 == i && q.2.category == 2)) = lv') (hn : i < nL) (hd : decode cc pc = .ok (.istore i, 2)) (k : V p l e R s m args below meth c E A nL cells slots Q w (pc + 2) lv' st) : V p l e R s m args below meth c E A nL cells slots Q w pc lv (.int x :: st) := fun H locs ls hP hD hS hl => lv_istore C.1 C.2.1 hd hl hn hl' (fun ls' h' => k H locs ls' hP hD hS h')
theorem v_lload_n (C : VC p s m args meth c E A cc nL ret own) {k0 : Fin 4} {i : Nat} {x : Int64} (j : Nat) (hj : lv[j]? = some (i, .long x)) (hi : (k0 : Nat) = i) (hd : decode cc pc = .ok (.lload_n k0, 1)) (k : V p l e R s m args below meth c E A nL cells slots Q w (pc + 1) lv (.long x :: st)) : V p l e R s m args below meth c E A nL cells slots Q w pc lv (st) := fun H locs ls hP hD hS hl => lv_lload_n C.1 C.2.1 hd hi (lv_at hl j hj) (k H locs ls hP hD hS hl)
theorem v_lload (C : VC p s m args meth c E A cc nL ret own) {i : Nat} {x : Int64} (j : Nat) (hj : lv[j]? = some (i, .long x)) (hd : decode cc pc = .ok (.lload i, 2)) (k : V p l e R s m args below meth c E A nL cells slots Q w (pc + 2) lv (.long x :: st)) : V p l e R s m args below meth c E A nL cells slots Q w pc lv (st) := fun H locs ls hP hD hS hl => lv_lload C.1 C.2.1 hd (lv_at hl j hj) (k H locs ls hP hD hS hl)
theorem v_lstore_n (C : VC p s m args meth c E A cc nL ret own) {k0 : Fin 4} {i : Nat} {x : Int64} (lv' : List (Nat × Value)) (hl' : (i, Value.long x) :: lv.filter (fun q => !(q.1 == i) && (!(q.1 == i + 1) && !(q.1 + 1 == i && q.2.category == 2))) = lv') (hi : (k0 : Nat) = i) (hn : i + 1 < nL) (hd : decode cc pc = .ok (.lstore_n k0, 1)) (k : V p l e R s m args below meth c E A nL cells slots Q w (pc + 1) lv' st) : V p l e R s m args below meth c E A nL cells slots Q w pc lv (.long x :: st) := fun H locs ls hP hD hS hl => lv_lstore_n C.1 C.2.1 hd hi hl hn hl' (fun ls' h' => k H locs ls' hP hD hS h')
theorem v_lstore (C : VC p s m args meth c E A cc nL ret own) {i : Nat} {x : Int64} (lv' : List (Nat × Value)) (hl' : (i, Value.long x) :: lv.filter (fun q => !(q.1 == i) && (!(q.1 == i + 1) && !(q.1 + 1 == i && q.2.category == 2))) = lv') (hn : i + 1 < nL) (hd : decode cc pc = .ok (.lstore i, 2)) (k : V p l e R s m args below meth c E A nL cells slots Q w (pc + 2) lv' st) : V p l e R s m args below meth c E A nL cells slots Q w pc lv (.long x :: st) := fun H locs ls hP hD hS hl => lv_lstore C.1 C.2.1 hd hl hn hl' (fun ls' h' => k H locs ls' hP hD hS h')
theorem v_aload_n (C : VC p s m args meth c E A cc nL ret own) {k0 : Fin 4} {i : Nat} {x : Nat} (j : Nat) (hj : lv[j]? = some (i, .ref x)) (hi : (k0 : Nat) = i) (hd : decode cc pc = .ok (.aload_n k0, 1)) (k : V p l e R s m args below meth c E A nL cells slots Q w (pc + 1) lv (.ref x :: st)) : V p l e R s m args below meth c E A nL cells slots Q w pc lv (st) := fun H locs ls hP hD hS hl => lv_aload_n C.1 C.2.1 hd hi (lv_at hl j hj) (k H locs ls hP hD hS hl)
theorem v_aload (C : VC p s m args meth c E A cc nL ret own) {i : Nat} {x : Nat} (j : Nat) (hj : lv[j]? = some (i, .ref x)) (hd : decode cc pc = .ok (.aload i, 2)) (k : V p l e R s m args below meth c E A nL cells slots Q w (pc + 2) lv (.ref x :: st)) : V p l e R s m args below meth c E A nL cells slots Q w pc lv (st) := fun H locs ls hP hD hS hl => lv_aload C.1 C.2.1 hd (lv_at hl j hj) (k H locs ls hP hD hS hl)
theorem v_astore_n (C : VC p s m args meth c E A cc nL ret own) {k0 : Fin 4} {i : Nat} {x : Nat} (lv' : List (Nat × Value)) (hl' : (i, Value.ref x) :: lv.filter (fun q => !(q.1 == i) && !(q.1 + 1 == i && q.2.category == 2)) = lv') (hi : (k0 : Nat) = i) (hn : i < nL) (hd : decode cc pc = .ok (.astore_n k0, 1)) (k : V p l e R s m args below meth c E A nL cells slots Q w (pc + 1) lv' st) : V p l e R s m args below meth c E A nL cells slots Q w pc lv (.ref x :: st) := fun H locs ls hP hD hS hl => lv_astore_n C.1 C.2.1 hd hi hl hn hl' (fun ls' h' => k H locs ls' hP hD hS h')
theorem v_astore (C : VC p s m args meth c E A cc nL ret own) {i : Nat} {x : Nat} (lv' : List (Nat × Value)) (hl' : (i, Value.ref x) :: lv.filter (fun q => !(q.1 == i) && !(q.1 + 1 == i && q.2.category == 2)) = lv') (hn : i < nL) (hd : decode cc pc = .ok (.astore i, 2)) (k : V p l e R s m args below meth c E A nL cells slots Q w (pc + 2) lv' st) : V p l e R s m args below meth c E A nL cells slots Q w pc lv (.ref x :: st) := fun H locs ls hP hD hS hl => lv_astore C.1 C.2.1 hd hl hn hl' (fun ls' h' => k H locs ls' hP hD hS h')
theorem v_iinc (C : VC p s m args meth c E A cc nL ret own) {i : Nat} {n : Int} {x v : Int32} (j : Nat) (hj : lv[j]? = some (i, .int x)) (hv : x + Int32.ofInt n = v) (lv' : List (Nat × Value)) (hl' : (i, Value.int v) :: lv.filter (fun q => !(q.1 == i) && !(q.1 + 1 == i && q.2.category == 2)) = lv') (hn : i < nL) (hd : decode cc pc = .ok (.iinc i n, 3)) (k : V p l e R s m args below meth c E A nL cells slots Q w (pc + 3) lv' st) : V p l e R s m args below meth c E A nL cells slots Q w pc lv st := fun H locs ls hP hD hS hl => lv_iinc C.1 C.2.1 hd hl hj hv hn hl' (fun ls' h' => k H locs ls' hP hD hS h')
theorem v_iadd (C : VC p s m args meth c E A cc nL ret own) {x y : Int32} (hd : decode cc pc = .ok (.iadd, 1)) (k : V p l e R s m args below meth c E A nL cells slots Q w (pc + 1) lv (.int (x + y) :: st)) : V p l e R s m args below meth c E A nL cells slots Q w pc lv (.int y :: .int x :: st) := fun H locs ls hP hD hS hl => lv_iadd C.1 C.2.1 hd (k H locs ls hP hD hS hl)
theorem v_isub (C : VC p s m args meth c E A cc nL ret own) {x y : Int32} (hd : decode cc pc = .ok (.isub, 1)) (k : V p l e R s m args below meth c E A nL cells slots Q w (pc + 1) lv (.int (x - y) :: st)) : V p l e R s m args below meth c E A nL cells slots Q w pc lv (.int y :: .int x :: st) := fun H locs ls hP hD hS hl => lv_isub C.1 C.2.1 hd (k H locs ls hP hD hS hl)
theorem v_imul (C : VC p s m args meth c E A cc nL ret own) {x y : Int32} (hd : decode cc pc = .ok (.imul, 1)) (k : V p l e R s m args below meth c E A nL cells slots Q w (pc + 1) lv (.int (x * y) :: st)) : V p l e R s m args below meth c E A nL cells slots Q w pc lv (.int y :: .int x :: st) := fun H locs ls hP hD hS hl => lv_imul C.1 C.2.1 hd (k H locs ls hP hD hS hl)
theorem v_iand (C : VC p s m args meth c E A cc nL ret own) {x y : Int32} (hd : decode cc pc = .ok (.iand, 1)) (k : V p l e R s m args below meth c E A nL cells slots Q w (pc + 1) lv (.int (x &&& y) :: st)) : V p l e R s m args below meth c E A nL cells slots Q w pc lv (.int y :: .int x :: st) := fun H locs ls hP hD hS hl => lv_iand C.1 C.2.1 hd (k H locs ls hP hD hS hl)
theorem v_ior (C : VC p s m args meth c E A cc nL ret own) {x y : Int32} (hd : decode cc pc = .ok (.ior, 1)) (k : V p l e R s m args below meth c E A nL cells slots Q w (pc + 1) lv (.int (x ||| y) :: st)) : V p l e R s m args below meth c E A nL cells slots Q w pc lv (.int y :: .int x :: st) := fun H locs ls hP hD hS hl => lv_ior C.1 C.2.1 hd (k H locs ls hP hD hS hl)
theorem v_ixor (C : VC p s m args meth c E A cc nL ret own) {x y : Int32} (hd : decode cc pc = .ok (.ixor, 1)) (k : V p l e R s m args below meth c E A nL cells slots Q w (pc + 1) lv (.int (x ^^^ y) :: st)) : V p l e R s m args below meth c E A nL cells slots Q w pc lv (.int y :: .int x :: st) := fun H locs ls hP hD hS hl => lv_ixor C.1 C.2.1 hd (k H locs ls hP hD hS hl)
theorem v_ishl (C : VC p s m args meth c E A cc nL ret own) {x y : Int32} (hd : decode cc pc = .ok (.ishl, 1)) (k : V p l e R s m args below meth c E A nL cells slots Q w (pc + 1) lv (.int (x <<< (y &&& 31)) :: st)) : V p l e R s m args below meth c E A nL cells slots Q w pc lv (.int y :: .int x :: st) := fun H locs ls hP hD hS hl => lv_ishl C.1 C.2.1 hd (k H locs ls hP hD hS hl)
theorem v_ishr (C : VC p s m args meth c E A cc nL ret own) {x y : Int32} (hd : decode cc pc = .ok (.ishr, 1)) (k : V p l e R s m args below meth c E A nL cells slots Q w (pc + 1) lv (.int (x >>> (y &&& 31)) :: st)) : V p l e R s m args below meth c E A nL cells slots Q w pc lv (.int y :: .int x :: st) := fun H locs ls hP hD hS hl => lv_ishr C.1 C.2.1 hd (k H locs ls hP hD hS hl)
theorem v_idiv (C : VC p s m args meth c E A cc nL ret own) {x y : Int32} (hne : ¬ y = 0) (hd : decode cc pc = .ok (.idiv, 1)) (k : V p l e R s m args below meth c E A nL cells slots Q w (pc + 1) lv (.int (x / y) :: st)) : V p l e R s m args below meth c E A nL cells slots Q w pc lv (.int y :: .int x :: st) := fun H locs ls hP hD hS hl => lv_idiv C.1 C.2.1 hd hne (k H locs ls hP hD hS hl)
theorem v_irem (C : VC p s m args meth c E A cc nL ret own) {x y : Int32} (hne : ¬ y = 0) (hd : decode cc pc = .ok (.irem, 1)) (k : V p l e R s m args below meth c E A nL cells slots Q w (pc + 1) lv (.int (x - x / y * y) :: st)) : V p l e R s m args below meth c E A nL cells slots Q w pc lv (.int y :: .int x :: st) := fun H locs ls hP hD hS hl => lv_irem C.1 C.2.1 hd hne (k H locs ls hP hD hS hl)
theorem v_iushr (C : VC p s m args meth c E A cc nL ret own) {x y : Int32} (hd : decode cc pc = .ok (.iushr, 1)) (k : V p l e R s m args below meth c E A nL cells slots Q w (pc + 1) lv (.int ((x.toUInt32 >>> (y.toUInt32 &&& Int32.toUInt32 31)).toInt32) :: st)) : V p l e R s m args below meth c E A nL cells slots Q w pc lv (.int y :: .int x :: st) := fun H locs ls hP hD hS hl => lv_iushr C.1 C.2.1 hd rfl (k H locs ls hP hD hS hl)
theorem v_ladd (C : VC p s m args meth c E A cc nL ret own) {x y : Int64} (hd : decode cc pc = .ok (.ladd, 1)) (k : V p l e R s m args below meth c E A nL cells slots Q w (pc + 1) lv (.long (x + y) :: st)) : V p l e R s m args below meth c E A nL cells slots Q w pc lv (.long y :: .long x :: st) := fun H locs ls hP hD hS hl => lv_ladd C.1 C.2.1 hd (k H locs ls hP hD hS hl)
theorem v_lsub (C : VC p s m args meth c E A cc nL ret own) {x y : Int64} (hd : decode cc pc = .ok (.lsub, 1)) (k : V p l e R s m args below meth c E A nL cells slots Q w (pc + 1) lv (.long (x - y) :: st)) : V p l e R s m args below meth c E A nL cells slots Q w pc lv (.long y :: .long x :: st) := fun H locs ls hP hD hS hl => lv_lsub C.1 C.2.1 hd (k H locs ls hP hD hS hl)
theorem v_lmul (C : VC p s m args meth c E A cc nL ret own) {x y : Int64} (hd : decode cc pc = .ok (.lmul, 1)) (k : V p l e R s m args below meth c E A nL cells slots Q w (pc + 1) lv (.long (x * y) :: st)) : V p l e R s m args below meth c E A nL cells slots Q w pc lv (.long y :: .long x :: st) := fun H locs ls hP hD hS hl => lv_lmul C.1 C.2.1 hd (k H locs ls hP hD hS hl)
theorem v_ldiv (C : VC p s m args meth c E A cc nL ret own) {x y : Int64} (hne : ¬ y = 0) (hd : decode cc pc = .ok (.ldiv, 1)) (k : V p l e R s m args below meth c E A nL cells slots Q w (pc + 1) lv (.long (x / y) :: st)) : V p l e R s m args below meth c E A nL cells slots Q w pc lv (.long y :: .long x :: st) := fun H locs ls hP hD hS hl => lv_ldiv C.1 C.2.1 hd hne (k H locs ls hP hD hS hl)
theorem v_lrem (C : VC p s m args meth c E A cc nL ret own) {x y : Int64} (hne : ¬ y = 0) (hd : decode cc pc = .ok (.lrem, 1)) (k : V p l e R s m args below meth c E A nL cells slots Q w (pc + 1) lv (.long (x - x / y * y) :: st)) : V p l e R s m args below meth c E A nL cells slots Q w pc lv (.long y :: .long x :: st) := fun H locs ls hP hD hS hl => lv_lrem C.1 C.2.1 hd hne (k H locs ls hP hD hS hl)
theorem v_lcmp (C : VC p s m args meth c E A cc nL ret own) {x y : Int64} (hd : decode cc pc = .ok (.lcmp, 1)) (k : V p l e R s m args below meth c E A nL cells slots Q w (pc + 1) lv (.int (lg_cmp x y) :: st)) : V p l e R s m args below meth c E A nL cells slots Q w pc lv (.long y :: .long x :: st) := fun H locs ls hP hD hS hl => W.lcmp C.1 C.2.1 hd (k H locs ls hP hD hS hl)
theorem v_i2l (C : VC p s m args meth c E A cc nL ret own) {x : Int32} (hd : decode cc pc = .ok (.i2l, 1)) (k : V p l e R s m args below meth c E A nL cells slots Q w (pc + 1) lv (.long x.toInt64 :: st)) : V p l e R s m args below meth c E A nL cells slots Q w pc lv (.int x :: st) := fun H locs ls hP hD hS hl => lv_i2l C.1 C.2.1 hd rfl (k H locs ls hP hD hS hl)
theorem v_l2i (C : VC p s m args meth c E A cc nL ret own) {x : Int64} (hd : decode cc pc = .ok (.l2i, 1)) (k : V p l e R s m args below meth c E A nL cells slots Q w (pc + 1) lv (.int x.toInt32 :: st)) : V p l e R s m args below meth c E A nL cells slots Q w pc lv (.long x :: st) := fun H locs ls hP hD hS hl => lv_l2i C.1 C.2.1 hd rfl (k H locs ls hP hD hS hl)
theorem v_i2c (C : VC p s m args meth c E A cc nL ret own) {x : Int32} (hd : decode cc pc = .ok (.i2c, 1)) (k : V p l e R s m args below meth c E A nL cells slots Q w (pc + 1) lv (.int (x.toUInt32 % 65536).toInt32 :: st)) : V p l e R s m args below meth c E A nL cells slots Q w pc lv (.int x :: st) := fun H locs ls hP hD hS hl => lv_i2c C.1 C.2.1 hd rfl (k H locs ls hP hD hS hl)
theorem v_dup (C : VC p s m args meth c E A cc nL ret own) {va : Value} (hc : va.category = 1) (hd : decode cc pc = .ok (.dup, 1)) (k : V p l e R s m args below meth c E A nL cells slots Q w (pc + 1) lv (va :: va :: st)) : V p l e R s m args below meth c E A nL cells slots Q w pc lv (va :: st) := fun H locs ls hP hD hS hl => lv_dup C.1 C.2.1 hd hc (k H locs ls hP hD hS hl)
theorem v_pop (C : VC p s m args meth c E A cc nL ret own) {va : Value} (hc : va.category = 1) (hd : decode cc pc = .ok (.pop, 1)) (k : V p l e R s m args below meth c E A nL cells slots Q w (pc + 1) lv (st)) : V p l e R s m args below meth c E A nL cells slots Q w pc lv (va :: st) := fun H locs ls hP hD hS hl => lv_pop C.1 C.2.1 hd hc (k H locs ls hP hD hS hl)
theorem v_dup2 (C : VC p s m args meth c E A cc nL ret own) {va vb : Value} (hc : va.category = 1) (hb : vb.category = 1) (hd : decode cc pc = .ok (.dup2, 1)) (k : V p l e R s m args below meth c E A nL cells slots Q w (pc + 1) lv (va :: vb :: va :: vb :: st)) : V p l e R s m args below meth c E A nL cells slots Q w pc lv (va :: vb :: st) := fun H locs ls hP hD hS hl => lv_dup2_11 C.1 C.2.1 hd hc hb (k H locs ls hP hD hS hl)
theorem v_if_eq (C : VC p s m args meth c E A cc nL ret own) {x : Int32} {off : Int} (tgt : Nat) (ht : (pc : Int) + off = (tgt : Int)) (hd : decode cc pc = .ok (.ifCond .eq off, 3)) (kt : x = 0 → V p l e R s m args below meth c E A nL cells slots Q w tgt lv st) (kf : ¬ x = 0 → V p l e R s m args below meth c E A nL cells slots Q w (pc + 3) lv st) : V p l e R s m args below meth c E A nL cells slots Q w pc lv (.int x :: st) := fun H locs ls hP hD hS hl => lv_if_eq C.1 C.2.1 hd ht (fun h => kt h H locs ls hP hD hS hl) (fun h => kf h H locs ls hP hD hS hl)
theorem v_if_ne (C : VC p s m args meth c E A cc nL ret own) {x : Int32} {off : Int} (tgt : Nat) (ht : (pc : Int) + off = (tgt : Int)) (hd : decode cc pc = .ok (.ifCond .ne off, 3)) (kt : ¬ x = 0 → V p l e R s m args below meth c E A nL cells slots Q w tgt lv st) (kf : x = 0 → V p l e R s m args below meth c E A nL cells slots Q w (pc + 3) lv st) : V p l e R s m args below meth c E A nL cells slots Q w pc lv (.int x :: st) := fun H locs ls hP hD hS hl => lv_if_ne C.1 C.2.1 hd ht (fun h => kt h H locs ls hP hD hS hl) (fun h => kf h H locs ls hP hD hS hl)
theorem v_if_lt (C : VC p s m args meth c E A cc nL ret own) {x : Int32} {off : Int} (tgt : Nat) (ht : (pc : Int) + off = (tgt : Int)) (hd : decode cc pc = .ok (.ifCond .lt off, 3)) (kt : x < 0 → V p l e R s m args below meth c E A nL cells slots Q w tgt lv st) (kf : ¬ x < 0 → V p l e R s m args below meth c E A nL cells slots Q w (pc + 3) lv st) : V p l e R s m args below meth c E A nL cells slots Q w pc lv (.int x :: st) := fun H locs ls hP hD hS hl => lv_if_lt C.1 C.2.1 hd ht (fun h => kt h H locs ls hP hD hS hl) (fun h => kf h H locs ls hP hD hS hl)
theorem v_if_ge (C : VC p s m args meth c E A cc nL ret own) {x : Int32} {off : Int} (tgt : Nat) (ht : (pc : Int) + off = (tgt : Int)) (hd : decode cc pc = .ok (.ifCond .ge off, 3)) (kt : 0 ≤ x → V p l e R s m args below meth c E A nL cells slots Q w tgt lv st) (kf : ¬ 0 ≤ x → V p l e R s m args below meth c E A nL cells slots Q w (pc + 3) lv st) : V p l e R s m args below meth c E A nL cells slots Q w pc lv (.int x :: st) := fun H locs ls hP hD hS hl => lv_if_ge C.1 C.2.1 hd ht (fun h => kt h H locs ls hP hD hS hl) (fun h => kf h H locs ls hP hD hS hl)
theorem v_if_gt (C : VC p s m args meth c E A cc nL ret own) {x : Int32} {off : Int} (tgt : Nat) (ht : (pc : Int) + off = (tgt : Int)) (hd : decode cc pc = .ok (.ifCond .gt off, 3)) (kt : 0 < x → V p l e R s m args below meth c E A nL cells slots Q w tgt lv st) (kf : ¬ 0 < x → V p l e R s m args below meth c E A nL cells slots Q w (pc + 3) lv st) : V p l e R s m args below meth c E A nL cells slots Q w pc lv (.int x :: st) := fun H locs ls hP hD hS hl => lv_if_gt C.1 C.2.1 hd ht (fun h => kt h H locs ls hP hD hS hl) (fun h => kf h H locs ls hP hD hS hl)
theorem v_if_le (C : VC p s m args meth c E A cc nL ret own) {x : Int32} {off : Int} (tgt : Nat) (ht : (pc : Int) + off = (tgt : Int)) (hd : decode cc pc = .ok (.ifCond .le off, 3)) (kt : x ≤ 0 → V p l e R s m args below meth c E A nL cells slots Q w tgt lv st) (kf : ¬ x ≤ 0 → V p l e R s m args below meth c E A nL cells slots Q w (pc + 3) lv st) : V p l e R s m args below meth c E A nL cells slots Q w pc lv (.int x :: st) := fun H locs ls hP hD hS hl => lv_if_le C.1 C.2.1 hd ht (fun h => kt h H locs ls hP hD hS hl) (fun h => kf h H locs ls hP hD hS hl)
theorem v_icmp_eq (C : VC p s m args meth c E A cc nL ret own) {x y : Int32} {off : Int} (tgt : Nat) (ht : (pc : Int) + off = (tgt : Int)) (hd : decode cc pc = .ok (.if_icmp .eq off, 3)) (kt : x = y → V p l e R s m args below meth c E A nL cells slots Q w tgt lv st) (kf : ¬ x = y → V p l e R s m args below meth c E A nL cells slots Q w (pc + 3) lv st) : V p l e R s m args below meth c E A nL cells slots Q w pc lv (.int y :: .int x :: st) := fun H locs ls hP hD hS hl => lv_icmp_eq C.1 C.2.1 hd ht (fun h => kt h H locs ls hP hD hS hl) (fun h => kf h H locs ls hP hD hS hl)
theorem v_icmp_ne (C : VC p s m args meth c E A cc nL ret own) {x y : Int32} {off : Int} (tgt : Nat) (ht : (pc : Int) + off = (tgt : Int)) (hd : decode cc pc = .ok (.if_icmp .ne off, 3)) (kt : ¬ x = y → V p l e R s m args below meth c E A nL cells slots Q w tgt lv st) (kf : x = y → V p l e R s m args below meth c E A nL cells slots Q w (pc + 3) lv st) : V p l e R s m args below meth c E A nL cells slots Q w pc lv (.int y :: .int x :: st) := fun H locs ls hP hD hS hl => lv_icmp_ne C.1 C.2.1 hd ht (fun h => kt h H locs ls hP hD hS hl) (fun h => kf h H locs ls hP hD hS hl)
theorem v_icmp_lt (C : VC p s m args meth c E A cc nL ret own) {x y : Int32} {off : Int} (tgt : Nat) (ht : (pc : Int) + off = (tgt : Int)) (hd : decode cc pc = .ok (.if_icmp .lt off, 3)) (kt : x < y → V p l e R s m args below meth c E A nL cells slots Q w tgt lv st) (kf : ¬ x < y → V p l e R s m args below meth c E A nL cells slots Q w (pc + 3) lv st) : V p l e R s m args below meth c E A nL cells slots Q w pc lv (.int y :: .int x :: st) := fun H locs ls hP hD hS hl => lv_icmp_lt C.1 C.2.1 hd ht (fun h => kt h H locs ls hP hD hS hl) (fun h => kf h H locs ls hP hD hS hl)
theorem v_icmp_ge (C : VC p s m args meth c E A cc nL ret own) {x y : Int32} {off : Int} (tgt : Nat) (ht : (pc : Int) + off = (tgt : Int)) (hd : decode cc pc = .ok (.if_icmp .ge off, 3)) (kt : y ≤ x → V p l e R s m args below meth c E A nL cells slots Q w tgt lv st) (kf : ¬ y ≤ x → V p l e R s m args below meth c E A nL cells slots Q w (pc + 3) lv st) : V p l e R s m args below meth c E A nL cells slots Q w pc lv (.int y :: .int x :: st) := fun H locs ls hP hD hS hl => lv_icmp_ge C.1 C.2.1 hd ht (fun h => kt h H locs ls hP hD hS hl) (fun h => kf h H locs ls hP hD hS hl)
theorem v_icmp_gt (C : VC p s m args meth c E A cc nL ret own) {x y : Int32} {off : Int} (tgt : Nat) (ht : (pc : Int) + off = (tgt : Int)) (hd : decode cc pc = .ok (.if_icmp .gt off, 3)) (kt : y < x → V p l e R s m args below meth c E A nL cells slots Q w tgt lv st) (kf : ¬ y < x → V p l e R s m args below meth c E A nL cells slots Q w (pc + 3) lv st) : V p l e R s m args below meth c E A nL cells slots Q w pc lv (.int y :: .int x :: st) := fun H locs ls hP hD hS hl => lv_icmp_gt C.1 C.2.1 hd ht (fun h => kt h H locs ls hP hD hS hl) (fun h => kf h H locs ls hP hD hS hl)
theorem v_icmp_le (C : VC p s m args meth c E A cc nL ret own) {x y : Int32} {off : Int} (tgt : Nat) (ht : (pc : Int) + off = (tgt : Int)) (hd : decode cc pc = .ok (.if_icmp .le off, 3)) (kt : x ≤ y → V p l e R s m args below meth c E A nL cells slots Q w tgt lv st) (kf : ¬ x ≤ y → V p l e R s m args below meth c E A nL cells slots Q w (pc + 3) lv st) : V p l e R s m args below meth c E A nL cells slots Q w pc lv (.int y :: .int x :: st) := fun H locs ls hP hD hS hl => lv_icmp_le C.1 C.2.1 hd ht (fun h => kt h H locs ls hP hD hS hl) (fun h => kf h H locs ls hP hD hS hl)
theorem v_goto (C : VC p s m args meth c E A cc nL ret own) {off : Int} (tgt : Nat) (ht : (pc : Int) + off = (tgt : Int)) (hd : decode cc pc = .ok (.goto off, 3)) (k : V p l e R s m args below meth c E A nL cells slots Q w tgt lv st) : V p l e R s m args below meth c E A nL cells slots Q w pc lv st := fun H locs ls hP hD hS hl => lv_goto C.1 C.2.1 hd ht (k H locs ls hP hD hS hl)
theorem v_tblOut (C : VC p s m args meth c E A cc nL ret own) {dflt lo hi : Int} {offs : Array Int} {len : Nat} {x : Int32} (tgt : Nat) (ht : (pc : Int) + dflt = (tgt : Int)) (hd : decode cc pc = .ok (.tableswitch dflt lo hi offs, len)) (h : x.toInt < lo ∨ hi < x.toInt) (k : V p l e R s m args below meth c E A nL cells slots Q w tgt lv st) : V p l e R s m args below meth c E A nL cells slots Q w pc lv (.int x :: st) := fun H locs ls hP hD hS hl => lv_tableOut C.1 C.2.1 hd h ht (k H locs ls hP hD hS hl)
theorem v_tblIn (C : VC p s m args meth c E A cc nL ret own) {dflt lo hi off : Int} {offs : Array Int} {len : Nat} {x : Int32} (tgt : Nat) (hd : decode cc pc = .ok (.tableswitch dflt lo hi offs, len)) (h1 : ¬ x.toInt < lo) (h2 : ¬ hi < x.toInt) (ho : offs[(x.toInt - lo).toNat]? = some off) (ht : (pc : Int) + off = (tgt : Int)) (k : V p l e R s m args below meth c E A nL cells slots Q w tgt lv st) : V p l e R s m args below meth c E A nL cells slots Q w pc lv (.int x :: st) := fun H locs ls hP hD hS hl => lv_tableIn C.1 C.2.1 hd h1 h2 ho ht (k H locs ls hP hD hS hl)
theorem v_topi {x : Int32} (k : ∀ y : Int32, y = x → V p l e R s m args below meth c E A nL cells slots Q w pc lv (.int y :: st)) : V p l e R s m args below meth c E A nL cells slots Q w pc lv (.int x :: st) := k x rfl
theorem v_topl {x : Int64} (k : ∀ y : Int64, y = x → V p l e R s m args below meth c E A nL cells slots Q w pc lv (.long y :: st)) : V p l e R s m args below meth c E A nL cells slots Q w pc lv (.long x :: st) := k x rfl
theorem v_sub {lv' : List (Nat × Value)} (ks : List Nat) (hl' : lv_pick lv ks = lv') (k : V p l e R s m args below meth c E A nL cells slots Q w pc lv' st) : V p l e R s m args below meth c E A nL cells slots Q w pc lv st := fun H locs ls hP hD hS hl => k H locs ls hP hD hS (lv_sub hl ks hl')
theorem v_w {w' : va_W} (h : w = w') (k : V p l e R s m args below meth c E A nL cells slots Q w' pc lv st) : V p l e R s m args below meth c E A nL cells slots Q w pc lv st := h ▸ k
/-- what is known of a made class -/
def CF (K : String) (T : u_T) (N : Nat) (ty0 : Nat → FieldType) : Prop := (∀ x ∈ u_ws K T N, x ∈ gG) ∧ (∀ k, k < N → parseFieldDescriptor (T k).2.2.1 = some (ty0 k)) ∧ (∀ a, a < N → ∀ b, b < N → a ≠ b → (T a).2.1 ≠ (T b).2.1)
theorem v_get (C : VC p s m args meth c E A cc nL ret own) {K : String} {T : u_T} {N ci index : Nat} {ty0 : Nat → FieldType} (cf : CF K T N ty0) (hc : vwCl[ci]? = some (K, T, N)) (q0 k : Nat) {a : Nat} {fs : List Value} {v : Value} (he : w[q0]? = some (a, .inr (ci, fs))) (hk : k < N) (hlk : Cond.fieldLink own index (T k).1 (T k).2.1 (T k).2.2.1 ∈ gG) (hv : fs[k]? = some v) (hd : decode cc pc = .ok (.getfield index, 3)) (kk : V p l e R s m args below meth c E A nL cells slots Q w (pc + 3) lv (v :: st)) : V p l e R s m args below meth c E A nL cells slots Q w pc lv (.ref a :: st) := fun H locs ls hP hD hS hl => va_get C.1 C.2.1 C.2.2.2.2.2.1 cf.1 C.2.2.2.2.1 C.2.2.2.2.2.2.1 hP q0 he hc k hk (C.2.2.2.2.2.1 _ hlk) (fun _ h => h) hv hd (kk H locs ls hP hD hS hl)
theorem v_put (C : VC p s m args meth c E A cc nL ret own) {K : String} {T : u_T} {N ci index : Nat} {ty0 : Nat → FieldType} (cf : CF K T N ty0) (hc : vwCl[ci]? = some (K, T, N)) (q0 k : Nat) {a : Nat} {fs : List Value} {v : Value} {ty : FieldType} {w' : va_W} (he : w[q0]? = some (a, .inr (ci, fs))) (hw : w.set q0 (a, .inr (ci, fs.set k v)) = w') (hk : k < N) (hlk : Cond.fieldLink own index (T k).1 (T k).2.1 (T k).2.2.1 ∈ gG) (hfin : (T k).2.2.2 = false) (ht : ty0 k = ty) (hn : narrow ty v = v) (hfit : fits ty v = true) (hlf : k < fs.length) (hd : decode cc pc = .ok (.putfield index, 3)) (kk : V p l e R s m args below meth c E A nL cells slots Q w' (pc + 3) lv st) : V p l e R s m args below meth c E A nL cells slots Q w pc lv (v :: .ref a :: st) := fun H locs ls hP hD hS hl => va_put C.1 C.2.1 C.2.2.2.2.2.1 cf.1 ty0 cf.2.1 cf.2.2 C.2.2.2.2.1 C.2.2.2.2.2.2.1 hP hD hS q0 he hc k hk (C.2.2.2.2.2.1 _ hlk) (fun _ h => h) hfin (ht ▸ cf.2.1 k hk) hn hfit hlf hd (fun H1 locs1 hP1 hD1 hS1 => kk H1 locs1 ls (hw ▸ hP1) (hw ▸ hD1) hS1 hl)
theorem v_getN (C : VC p s m args meth c E A cc nL ret own) {host : String} {K : String} {T : u_T} {N ci index : Nat} {ty0 : Nat → FieldType} (cf : CF K T N ty0) (hc : vwCl[ci]? = some (K, T, N)) (q0 k : Nat) {a : Nat} {fs : List Value} {v : Value} (he : w[q0]? = some (a, .inr (ci, fs))) (hk : k < N) (hlk : Cond.fieldLinkNest own index (T k).1 (T k).2.1 (T k).2.2.1 host ∈ nW) (hv : fs[k]? = some v) (hd : decode cc pc = .ok (.getfield index, 3)) (kk : V p l e R s m args below meth c E A nL cells slots Q w (pc + 3) lv (v :: st)) : V p l e R s m args below meth c E A nL cells slots Q w pc lv (.ref a :: st) := fun H locs ls hP hD hS hl => va_getN C.1 C.2.1 C.2.2.2.2.2.1 cf.1 C.2.2.2.2.1 C.2.2.2.2.2.2.1 hP q0 he hc k hk (va_Nw.use (nst_tab (List.mem_filter.mp hlk).2) (C.2.2.2.2.2.2.2.2.2.1 _ hlk)) (fun _ h => h) hv hd (kk H locs ls hP hD hS hl)
theorem v_putN (C : VC p s m args meth c E A cc nL ret own) {host : String} {K : String} {T : u_T} {N ci index : Nat} {ty0 : Nat → FieldType} (cf : CF K T N ty0) (hc : vwCl[ci]? = some (K, T, N)) (q0 k : Nat) {a : Nat} {fs : List Value} {v : Value} {ty : FieldType} {w' : va_W} (he : w[q0]? = some (a, .inr (ci, fs))) (hw : w.set q0 (a, .inr (ci, fs.set k v)) = w') (hk : k < N) (hlk : Cond.fieldLinkNest own index (T k).1 (T k).2.1 (T k).2.2.1 host ∈ nW) (hfin : (T k).2.2.2 = false) (ht : ty0 k = ty) (hn : narrow ty v = v) (hfit : fits ty v = true) (hlf : k < fs.length) (hd : decode cc pc = .ok (.putfield index, 3)) (kk : V p l e R s m args below meth c E A nL cells slots Q w' (pc + 3) lv st) : V p l e R s m args below meth c E A nL cells slots Q w pc lv (v :: .ref a :: st) := fun H locs ls hP hD hS hl => va_putN C.1 C.2.1 C.2.2.2.2.2.1 cf.1 ty0 cf.2.1 cf.2.2 C.2.2.2.2.1 C.2.2.2.2.2.2.1 hP hD hS q0 he hc k hk (va_Nw.use (nst_tab (List.mem_filter.mp hlk).2) (C.2.2.2.2.2.2.2.2.2.1 _ hlk)) (fun _ h => h) hfin (ht ▸ cf.2.1 k hk) hn hfit hlf hd (fun H1 locs1 hP1 hD1 hS1 => kk H1 locs1 ls (hw ▸ hP1) (hw ▸ hD1) hS1 hl)
theorem v_iald (C : VC p s m args meth c E A cc nL ret own) (q0 : Nat) {a n : Nat} {f : Nat → Int32} {i : Int32} (ha : w[q0]? = some (a, .inl (E.2.1, n, .inl f))) (hin : vp_in i n) {j : Nat} (hj : i.toNatClampNeg = j) (hd : decode cc pc = .ok (.iaload, 1)) (kk : V p l e R s m args below meth c E A nL cells slots Q w (pc + 1) lv (.int (f j) :: st)) : V p l e R s m args below meth c E A nL cells slots Q w pc lv (.int i :: .ref a :: st) := fun H locs ls hP hD hS hl => va_iald C.1 C.2.1 C.2.2.2.2.2.2.1 hP q0 0 ha rfl hin hd (hj ▸ kk H locs ls hP hD hS hl)
theorem v_zald (C : VC p s m args meth c E A cc nL ret own) (q0 : Nat) {a n : Nat} {f : Nat → Int32} {i : Int32} (ha : w[q0]? = some (a, .inl (E.2.2.1, n, .inl f))) (hin : vp_in i n) {j : Nat} (hj : i.toNatClampNeg = j) (hd : decode cc pc = .ok (.baload, 1)) (kk : V p l e R s m args below meth c E A nL cells slots Q w (pc + 1) lv (.int (f j) :: st)) : V p l e R s m args below meth c E A nL cells slots Q w pc lv (.int i :: .ref a :: st) := fun H locs ls hP hD hS hl => va_zald C.1 C.2.1 C.2.2.2.2.2.2.1 hP q0 1 ha rfl hin hd (hj ▸ kk H locs ls hP hD hS hl)
theorem v_iast (C : VC p s m args meth c E A cc nL ret own) (q0 : Nat) {a n : Nat} {f : Nat → Int32} {i x : Int32} {w' : va_W} (ha : w[q0]? = some (a, .inl (E.2.1, n, .inl f))) {j : Nat} (hj : i.toNatClampNeg = j) (hw : w.set q0 (a, .inl (E.2.1, n, .inl (upd f j x))) = w') (hin : vp_in i n) (hd : decode cc pc = .ok (.iastore, 1)) (kk : V p l e R s m args below meth c E A nL cells slots Q w' (pc + 1) lv st) : V p l e R s m args below meth c E A nL cells slots Q w pc lv (.int x :: .int i :: .ref a :: st) := fun H locs ls hP hD hS hl => va_iast C.1 C.2.1 C.2.2.2.2.2.2.1 hP hD hS q0 0 ha rfl hin hd (fun H1 locs1 hP1 hD1 hS1 => kk H1 locs1 ls (hw ▸ hj ▸ hP1) (hw ▸ hj ▸ hD1) hS1 hl)
theorem v_zast (C : VC p s m args meth c E A cc nL ret own) (q0 : Nat) {a n : Nat} {f : Nat → Int32} {i x : Int32} {w' : va_W} (ha : w[q0]? = some (a, .inl (E.2.2.1, n, .inl f))) {j : Nat} (hj : i.toNatClampNeg = j) (hw : w.set q0 (a, .inl (E.2.2.1, n, .inl (upd f j (vp_nar .boolean x)))) = w') (hin : vp_in i n) (hd : decode cc pc = .ok (.bastore, 1)) (kk : V p l e R s m args below meth c E A nL cells slots Q w' (pc + 1) lv st) : V p l e R s m args below meth c E A nL cells slots Q w pc lv (.int x :: .int i :: .ref a :: st) := fun H locs ls hP hD hS hl => va_zast C.1 C.2.1 C.2.2.2.2.2.2.1 hP hD hS q0 1 ha rfl hin hd (fun H1 locs1 hP1 hD1 hS1 => kk H1 locs1 ls (hw ▸ hj ▸ hP1) (hw ▸ hj ▸ hD1) hS1 hl)
theorem v_alen (C : VC p s m args meth c E A cc nL ret own) (q0 : Nat) {a : Nat} {x : vp_A} {v : Int32} (ha : w[q0]? = some (a, .inl (E.2.1, x))) (hv : Int32.ofNat x.1 = v) (hd : decode cc pc = .ok (.arraylength, 1)) (kk : V p l e R s m args below meth c E A nL cells slots Q w (pc + 1) lv (.int v :: st)) : V p l e R s m args below meth c E A nL cells slots Q w pc lv (.ref a :: st) := fun H locs ls hP hD hS hl => va_alen C.1 C.2.1 C.2.2.2.2.2.2.1 hP q0 0 ha rfl hv hd (kk H locs ls hP hD hS hl)
end
end
section
def MF (y : MethodName) (cy : ByteArray) (ny : Nat) (ry : Option FieldType) (n : Nat) : Prop := Cond.code y cy ny ry ∈ gG ∧ Cond.initialized y.cls ∈ gG ∧ (y.cls ≠ "java/lang/invoke/MethodHandle" ∧ y.cls ≠ "java/lang/invoke/VarHandle" ∧ (parseMethodDescriptor y.desc).map (fun d => d.parameters.length) = some n)
def MFv (y : MethodName) (K : String) : Prop := Cond.instanceMethod y ∈ gG ∧ Cond.selects K y y ∈ gG
/-! blocks of cells -/
def fl (bs : List va_W) : va_W := bs.flatten
def putb : List va_W → List Nat → List va_W → List va_W
  | bs, i :: js, x :: xs => putb (bs.set i x) js xs
  | bs, _, _ => bs
theorem putb_mem : ∀ (js : List Nat) (xs bs : List va_W) (k : Nat) (b : va_W), (putb bs js xs)[k]? = some b → (b ∈ xs) ∨ (bs[k]? = some b ∧ (xs.length = js.length → k ∉ js))
  | [], xs, bs, k, q, h => by
    have h' : bs[k]? = some q := by cases xs <;> exact h
    exact Or.inr ⟨h', fun _ => List.not_mem_nil⟩
  | i :: is, [], w, k, q, h => Or.inr ⟨h, fun e => by simp at e⟩
  | i :: is, x :: xs, w, k, q, h => by
    have h1 : (putb (w.set i x) is xs)[k]? = some q := h
    rcases putb_mem is xs (w.set i x) k q h1 with h2 | ⟨h2, h3⟩
    · exact Or.inl (List.mem_cons_of_mem _ h2)
    · by_cases hk : i = k
      · subst hk
        by_cases hl : i < w.length
        · rw [List.getElem?_set_self hl] at h2
          exact Or.inl (by rw [← Option.some.inj h2]; exact List.mem_cons_self)
        · rw [List.getElem?_eq_none (by rw [List.length_set]; omega)] at h2
          cases h2
      · rw [List.getElem?_set_ne hk] at h2
        refine Or.inr ⟨h2, fun e => ?_⟩
        have e' : xs.length = is.length := by simpa using e
        intro hm
        rcases List.mem_cons.mp hm with h4 | h4
        · exact hk h4.symm
        · exact h3 e' h4
theorem putb_adr : ∀ (js : List Nat) (xs bs : List va_W), js.map (fun i => (bs.map (List.map Prod.fst))[i]?) = (xs.map (List.map Prod.fst)).map some → (putb bs js xs).map (List.map Prod.fst) = bs.map (List.map Prod.fst)
  | [], xs, w, _ => by cases xs <;> rfl
  | i :: is, [], w, h => by simp at h
  | i :: is, x :: xs, w, h => by
    have h1 : (w.map (List.map Prod.fst))[i]? = some (x.map Prod.fst) := by
      have := congrArg List.head? h
      simpa using this
    have h2 : is.map (fun i => (w.map (List.map Prod.fst))[i]?) = (xs.map (List.map Prod.fst)).map some := by
      have := congrArg List.tail h
      simpa using this
    have e : (w.set i x).map (List.map Prod.fst) = w.map (List.map Prod.fst) := by
      rw [List.map_set]
      apply List.ext_getElem?
      intro k
      by_cases hk : i = k
      · subst hk
        rw [h1, List.getElem?_set_self (List.getElem?_eq_some_iff.mp h1).1]
      · rw [List.getElem?_set_ne hk]
    show (putb (w.set i x) is xs).map (List.map Prod.fst) = _
    rw [putb_adr is xs (w.set i x) (by rw [e]; exact h2), e]
theorem va_D_app {A : Nat → Prop} {x y : va_W} (h : va_D A (x ++ y)) : va_D A x ∧ va_D A y ∧ ∀ p ∈ x, ∀ q ∈ y, p.1 ≠ q.1 := by
  have hx : ∀ (k : Nat) (q : Nat × va_E), x[k]? = some q → (x ++ y)[k]? = some q := fun k q hq => by
    rw [List.getElem?_append_left (List.getElem?_eq_some_iff.mp hq).1]; exact hq
  have hy : ∀ (k : Nat) (q : Nat × va_E), y[k]? = some q → (x ++ y)[x.length + k]? = some q := fun k q hq => by
    rw [List.getElem?_append_right (by omega)]; simpa using hq
  refine ⟨⟨fun i j p q hp hq e => h.1 i j p q (hx i p hp) (hx j q hq) e, fun k q hq => h.2 k q (hx k q hq)⟩, ⟨fun i j p q hp hq e => ?_, fun k q hq => h.2 _ q (hy k q hq)⟩, fun p hp q hq e => ?_⟩
  · have := h.1 _ _ p q (hy i p hp) (hy j q hq) e
    omega
  · obtain ⟨i, hi⟩ := List.getElem?_of_mem hp
    obtain ⟨j, hj⟩ := List.getElem?_of_mem hq
    have h1 := h.1 _ _ p q (hx i p hi) (hy j q hj) e
    have h2 := (List.getElem?_eq_some_iff.mp hi).1
    omega
theorem va_D_blk {A : Nat → Prop} : ∀ (bs : List va_W), va_D A bs.flatten → ∀ (i : Nat) (b : va_W), bs[i]? = some b → va_D A b
  | [], _, i, b, h => by simp at h
  | x :: bs, hD, 0, b, h => by
    have e : x = b := by simpa using h
    subst e
    exact (va_D_app (by simpa using hD)).1
  | x :: bs, hD, i + 1, b, h => va_D_blk bs (va_D_app (x := x) (by simpa using hD)).2.1 i b (by simpa using h)
theorem va_D_dis {A : Nat → Prop} : ∀ (bs : List va_W), va_D A bs.flatten → ∀ (i j : Nat) (b b' : va_W), i ≠ j → bs[i]? = some b → bs[j]? = some b' → ∀ p ∈ b, ∀ q ∈ b', p.1 ≠ q.1
  | [], _, i, j, b, b', _, h, _ => by simp at h
  | x :: bs, hD, 0, 0, b, b', hij, _, _ => absurd rfl hij
  | x :: bs, hD, 0, j + 1, b, b', _, h, h' => by
    have e : x = b := by simpa using h
    subst e
    intro p hp q hq
    exact (va_D_app (x := x) (by simpa using hD)).2.2 p hp q (List.mem_flatten.mpr ⟨b', List.mem_of_getElem? (by simpa using h'), hq⟩)
  | x :: bs, hD, i + 1, 0, b, b', _, h, h' => by
    have e : x = b' := by simpa using h'
    subst e
    intro p hp q hq e2
    exact (va_D_app (x := x) (by simpa using hD)).2.2 q hq p (List.mem_flatten.mpr ⟨b, List.mem_of_getElem? (by simpa using h), hp⟩) e2.symm
  | x :: bs, hD, i + 1, j + 1, b, b', hij, h, h' => va_D_dis bs (va_D_app (x := x) (by simpa using hD)).2.1 i j b b' (fun e => hij (by rw [e])) (by simpa using h) (by simpa using h')
theorem va_D_mk {A : Nat → Prop} : ∀ (cs : List va_W), (∀ b ∈ cs, va_D A b) → (∀ (i j : Nat) (b b' : va_W), i ≠ j → cs[i]? = some b → cs[j]? = some b' → ∀ p ∈ b, ∀ q ∈ b', p.1 ≠ q.1) → va_D A cs.flatten
  | [], _, _ => ⟨fun i j p q hp => by simp at hp, fun k q hq => by simp at hq⟩
  | x :: cs, h, hd => by
    rw [List.flatten_cons]
    refine va_D.app (h x List.mem_cons_self) (va_D_mk cs (fun b hb => h b (List.mem_cons_of_mem _ hb)) (fun i j b b' hij hb hb' => hd (i + 1) (j + 1) b b' (fun e => hij (by omega)) (by simpa using hb) (by simpa using hb'))) (fun i j p q hp hq => ?_)
    obtain ⟨b', hb', hq'⟩ := List.mem_flatten.mp (List.mem_of_getElem? hq)
    obtain ⟨k, hk⟩ := List.getElem?_of_mem hb'
    exact hd 0 (k + 1) x b' (by omega) (by simp) (by simpa using hk) p (List.mem_of_getElem? hp) q hq'
theorem pickB {bs cs : List va_W} {js : List Nat} (hC : js.map (fun i => bs[i]?) = cs.map some) {k : Nat} {b : va_W} (h : cs[k]? = some b) : ∃ i, js[k]? = some i ∧ bs[i]? = some b := by
  have h4 : (js.map (fun i => bs[i]?))[k]? = some (some b) := by rw [hC, List.getElem?_map, h]; rfl
  rw [List.getElem?_map] at h4
  cases hi : js[k]? with
  | none => rw [hi] at h4; cases h4
  | some i =>
    rw [hi] at h4
    exact ⟨i, rfl, Option.some.inj h4⟩
theorem va_P_iff {D : va_G} {w : va_W} {H : Heap} : va_P D vwCl w H ↔ ∀ q ∈ w, va_at D vwCl q H :=
  ⟨fun h q hq => by obtain ⟨k, hk⟩ := List.getElem?_of_mem hq; exact h k q hk, fun h k q hq => h q (List.mem_of_getElem? hq)⟩
theorem pickB_P {D : va_G} {bs cs : List va_W} {js : List Nat} {H : Heap} (hP : va_P D vwCl (fl bs) H) (hC : js.map (fun i => bs[i]?) = cs.map some) : va_P D vwCl (fl cs) H := by
  rw [va_P_iff] at hP ⊢
  intro q hq
  obtain ⟨b, hb, hq⟩ := List.mem_flatten.mp hq
  obtain ⟨k, hk⟩ := List.getElem?_of_mem hb
  obtain ⟨i, -, hi⟩ := pickB hC hk
  exact hP q (List.mem_flatten.mpr ⟨b, List.mem_of_getElem? hi, hq⟩)
theorem pickB_D {A : Nat → Prop} {bs cs : List va_W} {js : List Nat} (hD : va_D A (fl bs)) (hC : js.map (fun i => bs[i]?) = cs.map some) (hnd : va_nd js = true) : va_D A (fl cs) := by
  refine va_D_mk cs (fun b hb => ?_) (fun i j b b' hij hb hb' => ?_)
  · obtain ⟨k, hk⟩ := List.getElem?_of_mem hb
    obtain ⟨i, -, hi⟩ := pickB hC hk
    exact va_D_blk bs hD i b hi
  · obtain ⟨i', h1, h2⟩ := pickB hC hb
    obtain ⟨j', h3, h4⟩ := pickB hC hb'
    exact va_D_dis bs hD i' j' b b' (fun e => hij (va_nd_inj js hnd i j i' h1 (by rw [e]; exact h3))) h2 h4
theorem pickB_A {A : Nat → Prop} {bs cs : List va_W} {js : List Nat} {H0 H : Heap} {locs : List Loc} (hD : va_D A (fl bs)) (hS : va_S A H0 H locs) (hA : ∀ q : Nat, H0.size ≤ q → A q) (hC : js.map (fun i => bs[i]?) = cs.map some) : ∀ q, va_A (fl cs) H.size q → A q := by
  intro q h
  rcases h with ⟨k, x, h⟩ | h
  · obtain ⟨b, hb, hq⟩ := List.mem_flatten.mp (List.mem_of_getElem? h)
    obtain ⟨k2, hk⟩ := List.getElem?_of_mem hb
    obtain ⟨i, -, hi⟩ := pickB hC hk
    obtain ⟨k3, h3⟩ := List.getElem?_of_mem (List.mem_flatten.mpr ⟨b, List.mem_of_getElem? hi, hq⟩)
    exact hD.2 k3 (q, x) h3
  · exact hA q (Nat.le_trans hS.1 h)
theorem joinB {A : Nat → Prop} {D : va_G} {bs cs cs' : List va_W} {H H1 : Heap} (hP : va_P D vwCl (fl bs) H) (hD : va_D A (fl bs)) (js : List Nat) (hC : js.map (fun i => bs[i]?) = cs.map some) (hadr : cs'.map (List.map Prod.fst) = cs.map (List.map Prod.fst))
    (hk : ∀ q : Nat, q < H.size → ¬ va_A (fl cs) H.size q → H1[q]? = H[q]?) (hP1 : va_P D vwCl (fl cs') H1) : va_P D vwCl (fl (putb bs js cs')) H1 ∧ va_D A (fl (putb bs js cs')) := by
  have hlen : cs'.length = js.length := by
    have h1 := congrArg List.length hC
    have h2 := congrArg List.length hadr
    simp at h1 h2
    omega
  refine ⟨?_, va_D_adr hD ?_⟩
  · rw [va_P_iff] at hP hP1 ⊢
    intro q hq
    obtain ⟨b, hb, hq⟩ := List.mem_flatten.mp hq
    obtain ⟨k, hb⟩ := List.getElem?_of_mem hb
    rcases putb_mem js cs' bs k b hb with h | ⟨h, h2⟩
    · exact hP1 q (List.mem_flatten.mpr ⟨b, h, hq⟩)
    · have hat := hP q (List.mem_flatten.mpr ⟨b, List.mem_of_getElem? h, hq⟩)
      refine hat.kept (hk q.1 hat.lt (fun hA => ?_))
      rcases hA with ⟨k2, e, h3⟩ | h3
      · obtain ⟨b2, hb2, hq2⟩ := List.mem_flatten.mp (List.mem_of_getElem? h3)
        obtain ⟨k3, hb2⟩ := List.getElem?_of_mem hb2
        obtain ⟨i, h4, h5⟩ := pickB hC hb2
        exact va_D_dis bs hD k i b b2 (fun e => h2 hlen (by rw [e]; exact List.mem_of_getElem? h4)) h h5 q hq _ hq2 rfl
      · exact absurd hat.lt (Nat.not_lt.mpr h3)
  · have h0 := putb_adr js cs' bs (by
      rw [hadr]
      have h1 : js.map (fun i => (bs.map (List.map Prod.fst))[i]?) = (js.map (fun i => bs[i]?)).map (Option.map (List.map Prod.fst)) := by
        rw [List.map_map]
        apply List.map_congr_left
        intro i _
        simp [List.getElem?_map]
      rw [h1, hC, List.map_map, List.map_map]
      rfl)
    show ((putb bs js cs').flatten).map Prod.fst = (bs.flatten).map Prod.fst
    rw [List.map_flatten, List.map_flatten, h0]
section
variable {p : Program} {l : Launch} {e : Env} {R : Room} {s : State} {m : MethodId} {args : Array Value} {below : List Frame} {meth : Method} {c : Code} {E : VE} {A : Nat → Prop} {cc : ByteArray} {nL cells slots : Nat} {ret : Option FieldType} {own : String} {Q : State → Prop} {w : va_W} {pc : Nat} {lv : List (Nat × Value)} {st : List Value}
variable {y : MethodName} {cy : ByteArray} {ny n idx : Nat} {ry : Option FieldType} {rm : Room} {S : Type} {b : Nat} {K : String}
theorem v_freeA (C : VC p s m args meth c E A cc nL ret own) {H : Heap} {locs : List Loc} (hD : va_D A w) (hS : va_S A s.heap H locs) : ∀ q, va_A w H.size q → A q := by
  intro q h
  rcases h with ⟨k, x, h⟩ | h
  · exact hD.2 k (q, x) h
  · exact C.2.2.2.2.2.2.2.1 q (Nat.le_trans hS.1 h)
theorem v_goi (C : VC p s m args meth c E A cc nL ret own) {Post : Int32 → S → Prop} {wc : va_W} {wc' w' : S → va_W} {rest : List Value} {a : Array Value} (is : List Nat)
    (hC : is.map (fun i => w[i]?) = wc.map some) (hadr : ∀ u, (wc' u).map Prod.fst = wc.map Prod.fst) (hw' : ∀ u, putc w is (wc' u) = w' u)
    (run : ∀ (H : Heap) (locs : List Loc) (ls : Array Slot), va_P E.1 vwCl w H → va_D A w → va_S A s.heap H locs → lv_has ls nL lv → va_Run p l e R s m args below meth c H locs cells slots 0 0 (F0 m pc ls st) rest (CQi E Post wc' wc H.size a) (va_A wc H.size))
    (kk : ∀ (r : Int32) (u : S), Post r u → V p l e R s m args below meth c E A nL cells slots Q (w' u) (pc + 3) lv (.int r :: rest)) : V p l e R s m args below meth c E A nL cells slots Q w pc lv st := by
  intro H locs ls hP hD hS hl
  have hF := va_free hD hS C.2.2.2.2.2.2.2.1 is hC
  refine va_calli (run H locs ls hP hD hS hl) hS (fun q _ h => hF q h) hF (fun r u t H1 locs1 ht hvm hp hB hz hk hS1 => ?_)
  have hP1 : va_P E.1 vwCl (wc' u) H1 := ht ▸ hB
  obtain ⟨h1, h2⟩ := put_join hP hD is hC (hadr u) hk hP1
  exact kk r u hp H1 locs1 ls (hw' u ▸ h1) (hw' u ▸ h2) hS1 hl
theorem v_gol (C : VC p s m args meth c E A cc nL ret own) {Post : Int64 → S → Prop} {wc : va_W} {wc' w' : S → va_W} {rest : List Value} {a : Array Value} (is : List Nat)
    (hC : is.map (fun i => w[i]?) = wc.map some) (hadr : ∀ u, (wc' u).map Prod.fst = wc.map Prod.fst) (hw' : ∀ u, putc w is (wc' u) = w' u)
    (run : ∀ (H : Heap) (locs : List Loc) (ls : Array Slot), va_P E.1 vwCl w H → va_D A w → va_S A s.heap H locs → lv_has ls nL lv → va_Run p l e R s m args below meth c H locs cells slots 0 0 (F0 m pc ls st) rest (CQl E Post wc' wc H.size a) (va_A wc H.size))
    (kk : ∀ (r : Int64) (u : S), Post r u → V p l e R s m args below meth c E A nL cells slots Q (w' u) (pc + 3) lv (.long r :: rest)) : V p l e R s m args below meth c E A nL cells slots Q w pc lv st := by
  intro H locs ls hP hD hS hl
  have hF := va_free hD hS C.2.2.2.2.2.2.2.1 is hC
  refine va_calll (run H locs ls hP hD hS hl) hS (fun q _ h => hF q h) hF (fun r u t H1 locs1 ht hvm hp hB hz hk hS1 => ?_)
  have hP1 : va_P E.1 vwCl (wc' u) H1 := ht ▸ hB
  obtain ⟨h1, h2⟩ := put_join hP hD is hC (hadr u) hk hP1
  exact kk r u hp H1 locs1 ls (hw' u ▸ h1) (hw' u ▸ h2) hS1 hl
theorem v_gov (C : VC p s m args meth c E A cc nL ret own) {Post : S → Prop} {wc : va_W} {wc' w' : S → va_W} {rest : List Value} {a : Array Value} (is : List Nat)
    (hC : is.map (fun i => w[i]?) = wc.map some) (hadr : ∀ u, (wc' u).map Prod.fst = wc.map Prod.fst) (hw' : ∀ u, putc w is (wc' u) = w' u)
    (run : ∀ (H : Heap) (locs : List Loc) (ls : Array Slot), va_P E.1 vwCl w H → va_D A w → va_S A s.heap H locs → lv_has ls nL lv → va_Run p l e R s m args below meth c H locs cells slots 0 0 (F0 m pc ls st) rest (CQv E Post wc' wc H.size a) (va_A wc H.size))
    (kk : ∀ (u : S), Post u → V p l e R s m args below meth c E A nL cells slots Q (w' u) (pc + 3) lv rest) : V p l e R s m args below meth c E A nL cells slots Q w pc lv st := by
  intro H locs ls hP hD hS hl
  have hF := va_free hD hS C.2.2.2.2.2.2.2.1 is hC
  refine va_callv (run H locs ls hP hD hS hl) hS (fun q _ h => hF q h) hF (fun u t H1 locs1 ht hvm hp hB hz hk hS1 => ?_)
  have hP1 : va_P E.1 vwCl (wc' u) H1 := ht ▸ hB
  obtain ⟨h1, h2⟩ := put_join hP hD is hC (hadr u) hk hP1
  exact kk u hp H1 locs1 ls (hw' u ▸ h1) (hw' u ▸ h2) hS1 hl
/-- the start of a callee's contract -/
theorem v_pre (C : VC p s m args meth c E A cc nL ret own) {wc : va_W} {H : Heap} (is : List Nat) (hC : is.map (fun i => w[i]?) = wc.map some) (hnd : va_nd is = true) {locs : List Loc} (hP : va_P E.1 vwCl w H) (hD : va_D A w) (hS : va_S A s.heap H locs) (av : List Value) : ∀ U : State, U.heap = H → s.WarmedH U.vm → CPre E av H.size wc av.toArray U := by
  intro U hU hW
  exact ⟨rfl, by rw [hU], by rw [hU]; exact pick_P hP is hC, va_K.moved hW.alike C.2.2.2.2.2.2.1, (hD.sub is hnd hC).weaken (fun _ _ _ _ => trivial), fun x hx => nst_warm (List.mem_filter.mp hx).2 hW (C.2.2.2.2.2.2.2.2.2.1 x hx), sF_go C.2.2.2.2.2.2.2.2.2.2 hS (va_free hD hS C.2.2.2.2.2.2.2.1 is hC) hW hU⟩
/-- a virtual call -/
theorem v_runV (C : VC p s m args meth c E A cc nL ret own) {Qc : Nat → Array Value → State → Outcome → State → Prop} {wc : va_W} (As rest : List Value) (hM : ∀ sz, Met l y (mW y cy ny ry) rm (CPre E (.ref b :: As) sz wc) (Qc sz) 0 0 (va_A wc sz)) (is : List Nat) (hC : is.map (fun i => w[i]?) = wc.map some) (hnd : va_nd is = true)
    (mf : MF y cy ny ry n) (mv : MFv y K) (hlk : Cond.methodLink own idx y ∈ gG) (hn : As.length = n) (hR : rm.frames + 1 ≤ R.frames ∧ 8 + (ny + 11) + rm.locals ≤ R.locals) (hz : rm.cells = 0 ∧ rm.slots = 0)
    (qr : Nat) {ci : Nat} {fs : List Value} {qc : vw_C} (hcr : vwCl[ci]? = some qc) (hK : qc.1 = K) (her : w[qr]? = some (b, .inr (ci, fs))) (hst : st = As.reverse ++ .ref b :: rest) (hroom : (rest.map fun v => v.category).sum ≤ 8) (hf : cells ≤ R.cells ∧ slots ≤ R.slots) (hd : decode cc pc = .ok (.invokevirtual idx, 3)) :
    ∀ (H : Heap) (locs : List Loc) (ls : Array Slot), va_P E.1 vwCl w H → va_D A w → va_S A s.heap H locs → lv_has ls nL lv → va_Run p l e R s m args below meth c H locs cells slots 0 0 (F0 m pc ls st) rest (Qc H.size (Value.ref b :: As).toArray) (va_A wc H.size) := by
  intro H locs ls hP hD hS hl
  subst hst
  subst hK
  have cb : CallB R s args own idx y cy ny ry (mW y cy ny ry) rm 0 0 n := callB_of n C.2.2.2.2.2.1 (mW_good (fun _ h => h) mf.1) rfl hz.1 hz.2 (C.2.2.2.2.2.1 _ mf.2.1) (C.2.2.2.2.2.1 _ hlk) mf.2.2 hR
  exact va_runV ⟨C.1, C.2.1, C.2.2.1, C.2.2.2.2.1, C.2.2.2.2.2.1⟩ (hM H.size) ⟨cb, C.2.2.2.2.2.1 _ mv.1, C.2.2.2.2.2.1 _ mv.2⟩ ⟨CPre_blind, va_recv C.2.2.2.2.2.2.1 hP hcr her, v_pre C is hC hnd hP hD hS (.ref b :: As)⟩ rfl hn hl.1 rfl (lv_room hroom) hd hf
theorem v_runS (C : VC p s m args meth c E A cc nL ret own) {Qc : Nat → Array Value → State → Outcome → State → Prop} {wc : va_W} (As rest : List Value) (hM : ∀ sz, Met l y (mW y cy ny ry) rm (CPre E As sz wc) (Qc sz) 0 0 (va_A wc sz)) (is : List Nat) (hC : is.map (fun i => w[i]?) = wc.map some) (hnd : va_nd is = true)
    (mf : MF y cy ny ry n) (ms : Cond.static y ∈ gG) (hlk : Cond.methodLink own idx y ∈ gG) (hn : As.length = n) (hR : rm.frames + 1 ≤ R.frames ∧ 8 + (ny + 11) + rm.locals ≤ R.locals) (hz : rm.cells = 0 ∧ rm.slots = 0)
    (hst : st = As.reverse ++ rest) (hroom : (rest.map fun v => v.category).sum ≤ 8) (hf : cells ≤ R.cells ∧ slots ≤ R.slots) (hd : decode cc pc = .ok (.invokestatic idx, 3)) :
    ∀ (H : Heap) (locs : List Loc) (ls : Array Slot), va_P E.1 vwCl w H → va_D A w → va_S A s.heap H locs → lv_has ls nL lv → va_Run p l e R s m args below meth c H locs cells slots 0 0 (F0 m pc ls st) rest (Qc H.size As.toArray) (va_A wc H.size) := by
  intro H locs ls hP hD hS hl
  subst hst
  have cb : CallB R s args own idx y cy ny ry (mW y cy ny ry) rm 0 0 n := callB_of n C.2.2.2.2.2.1 (mW_good (fun _ h => h) mf.1) rfl hz.1 hz.2 (C.2.2.2.2.2.1 _ mf.2.1) (C.2.2.2.2.2.1 _ hlk) mf.2.2 hR
  exact va_runS ⟨C.1, C.2.1, C.2.2.1, C.2.2.2.2.1, C.2.2.2.2.2.1⟩ (hM H.size) ⟨cb, C.2.2.2.2.2.1 _ ms⟩ ⟨CPre_blind, v_pre C is hC hnd hP hD hS As⟩ rfl hn hl.1 rfl (lv_room hroom) hd hf
theorem v_runSN (C : VC p s m args meth c E A cc nL ret own) {Qc : Nat → Array Value → State → Outcome → State → Prop} {wc : va_W} {host : String} (As rest : List Value) (hM : ∀ sz, Met l y (mW y cy ny ry) rm (CPre E As sz wc) (Qc sz) 0 0 (va_A wc sz)) (is : List Nat) (hC : is.map (fun i => w[i]?) = wc.map some) (hnd : va_nd is = true)
    (mf : MF y cy ny ry n) (ms : Cond.static y ∈ gG) (hlk : Cond.methodLinkNest own idx y host ∈ nW) (hn : As.length = n) (hR : rm.frames + 1 ≤ R.frames ∧ 8 + (ny + 11) + rm.locals ≤ R.locals) (hz : rm.cells = 0 ∧ rm.slots = 0)
    (hst : st = As.reverse ++ rest) (hroom : (rest.map fun v => v.category).sum ≤ 8) (hf : cells ≤ R.cells ∧ slots ≤ R.slots) (hd : decode cc pc = .ok (.invokestatic idx, 3)) :
    ∀ (H : Heap) (locs : List Loc) (ls : Array Slot), va_P E.1 vwCl w H → va_D A w → va_S A s.heap H locs → lv_has ls nL lv → va_Run p l e R s m args below meth c H locs cells slots 0 0 (F0 m pc ls st) rest (Qc H.size As.toArray) (va_A wc H.size) := by
  intro H locs ls hP hD hS hl
  subst hst
  exact va_runSN ⟨C.1, C.2.1, C.2.2.1, C.2.2.2.2.1, C.2.2.2.2.2.1⟩ (hM H.size) ⟨va_cnB n C.2.2.2.2.2.1 (mW_good (fun _ h => h) mf.1) rfl hz.1 hz.2 (C.2.2.2.2.2.2.2.2.2.1 _ hlk) (C.2.2.2.2.2.1 _ mf.2.1) mf.2.2 hR, C.2.2.2.2.2.1 _ ms, trivial⟩ ⟨CPre_blind, v_pre C is hC hnd hP hD hS As⟩ rfl hn hl.1 rfl (lv_room hroom) hd hf
theorem v_goBi (C : VC p s m args meth c E A cc nL ret own) {Post : Int32 → S → Prop} {bs cs : List va_W} {cs' bs' : S → List va_W} {w' : S → va_W} {rest : List Value} {a : Array Value} (js : List Nat) (hw : w = fl bs)
    (hC : js.map (fun i => bs[i]?) = cs.map some) (hadr : ∀ u, (cs' u).map (List.map Prod.fst) = cs.map (List.map Prod.fst)) (hb : ∀ u, putb bs js (cs' u) = bs' u) (hw' : ∀ u, fl (bs' u) = w' u)
    (run : ∀ (H : Heap) (locs : List Loc) (ls : Array Slot), va_P E.1 vwCl w H → va_D A w → va_S A s.heap H locs → lv_has ls nL lv → va_Run p l e R s m args below meth c H locs cells slots 0 0 (F0 m pc ls st) rest (CQi E Post (fun u => fl (cs' u)) (fl cs) H.size a) (va_A (fl cs) H.size))
    (kk : ∀ (r : Int32) (u : S), Post r u → V p l e R s m args below meth c E A nL cells slots Q (w' u) (pc + 3) lv (.int r :: rest)) : V p l e R s m args below meth c E A nL cells slots Q w pc lv st := by
  intro H locs ls hP hD hS hl
  subst hw
  have hF := pickB_A hD hS C.2.2.2.2.2.2.2.1 hC
  refine va_calli (run H locs ls hP hD hS hl) hS (fun q _ h => hF q h) hF (fun r u t H1 locs1 ht hvm hp hB hz hk hS1 => ?_)
  have hP1 : va_P E.1 vwCl (fl (cs' u)) H1 := ht ▸ hB
  obtain ⟨h1, h2⟩ := joinB hP hD js hC (hadr u) hk hP1
  exact kk r u hp H1 locs1 ls (hw' u ▸ hb u ▸ h1) (hw' u ▸ hb u ▸ h2) hS1 hl
theorem v_goBl (C : VC p s m args meth c E A cc nL ret own) {Post : Int64 → S → Prop} {bs cs : List va_W} {cs' bs' : S → List va_W} {w' : S → va_W} {rest : List Value} {a : Array Value} (js : List Nat) (hw : w = fl bs)
    (hC : js.map (fun i => bs[i]?) = cs.map some) (hadr : ∀ u, (cs' u).map (List.map Prod.fst) = cs.map (List.map Prod.fst)) (hb : ∀ u, putb bs js (cs' u) = bs' u) (hw' : ∀ u, fl (bs' u) = w' u)
    (run : ∀ (H : Heap) (locs : List Loc) (ls : Array Slot), va_P E.1 vwCl w H → va_D A w → va_S A s.heap H locs → lv_has ls nL lv → va_Run p l e R s m args below meth c H locs cells slots 0 0 (F0 m pc ls st) rest (CQl E Post (fun u => fl (cs' u)) (fl cs) H.size a) (va_A (fl cs) H.size))
    (kk : ∀ (r : Int64) (u : S), Post r u → V p l e R s m args below meth c E A nL cells slots Q (w' u) (pc + 3) lv (.long r :: rest)) : V p l e R s m args below meth c E A nL cells slots Q w pc lv st := by
  intro H locs ls hP hD hS hl
  subst hw
  have hF := pickB_A hD hS C.2.2.2.2.2.2.2.1 hC
  refine va_calll (run H locs ls hP hD hS hl) hS (fun q _ h => hF q h) hF (fun r u t H1 locs1 ht hvm hp hB hz hk hS1 => ?_)
  have hP1 : va_P E.1 vwCl (fl (cs' u)) H1 := ht ▸ hB
  obtain ⟨h1, h2⟩ := joinB hP hD js hC (hadr u) hk hP1
  exact kk r u hp H1 locs1 ls (hw' u ▸ hb u ▸ h1) (hw' u ▸ hb u ▸ h2) hS1 hl
theorem v_goBv (C : VC p s m args meth c E A cc nL ret own) {Post : S → Prop} {bs cs : List va_W} {cs' bs' : S → List va_W} {w' : S → va_W} {rest : List Value} {a : Array Value} (js : List Nat) (hw : w = fl bs)
    (hC : js.map (fun i => bs[i]?) = cs.map some) (hadr : ∀ u, (cs' u).map (List.map Prod.fst) = cs.map (List.map Prod.fst)) (hb : ∀ u, putb bs js (cs' u) = bs' u) (hw' : ∀ u, fl (bs' u) = w' u)
    (run : ∀ (H : Heap) (locs : List Loc) (ls : Array Slot), va_P E.1 vwCl w H → va_D A w → va_S A s.heap H locs → lv_has ls nL lv → va_Run p l e R s m args below meth c H locs cells slots 0 0 (F0 m pc ls st) rest (CQv E Post (fun u => fl (cs' u)) (fl cs) H.size a) (va_A (fl cs) H.size))
    (kk : ∀ (u : S), Post u → V p l e R s m args below meth c E A nL cells slots Q (w' u) (pc + 3) lv rest) : V p l e R s m args below meth c E A nL cells slots Q w pc lv st := by
  intro H locs ls hP hD hS hl
  subst hw
  have hF := pickB_A hD hS C.2.2.2.2.2.2.2.1 hC
  refine va_callv (run H locs ls hP hD hS hl) hS (fun q _ h => hF q h) hF (fun u t H1 locs1 ht hvm hp hB hz hk hS1 => ?_)
  have hP1 : va_P E.1 vwCl (fl (cs' u)) H1 := ht ▸ hB
  obtain ⟨h1, h2⟩ := joinB hP hD js hC (hadr u) hk hP1
  exact kk u hp H1 locs1 ls (hw' u ▸ hb u ▸ h1) (hw' u ▸ hb u ▸ h2) hS1 hl
theorem v_preB (C : VC p s m args meth c E A cc nL ret own) {bs cs : List va_W} {H : Heap} (js : List Nat) (hC : js.map (fun i => bs[i]?) = cs.map some) (hnd : va_nd js = true) {locs : List Loc} (hP : va_P E.1 vwCl (fl bs) H) (hD : va_D A (fl bs)) (hS : va_S A s.heap H locs) (av : List Value) : ∀ U : State, U.heap = H → s.WarmedH U.vm → CPre E av H.size (fl cs) av.toArray U := by
  intro U hU hW
  exact ⟨rfl, by rw [hU], by rw [hU]; exact pickB_P hP hC, va_K.moved hW.alike C.2.2.2.2.2.2.1, (pickB_D hD hC hnd).weaken (fun _ _ _ _ => trivial), fun x hx => nst_warm (List.mem_filter.mp hx).2 hW (C.2.2.2.2.2.2.2.2.2.1 x hx), sF_go C.2.2.2.2.2.2.2.2.2.2 hS (pickB_A hD hS C.2.2.2.2.2.2.2.1 hC) hW hU⟩
theorem v_runVB (C : VC p s m args meth c E A cc nL ret own) {Qc : Nat → Array Value → State → Outcome → State → Prop} {bs cs : List va_W} (As rest : List Value) (hM : ∀ sz, Met l y (mW y cy ny ry) rm (CPre E (.ref b :: As) sz (fl cs)) (Qc sz) 0 0 (va_A (fl cs) sz)) (js : List Nat) (hwb : w = fl bs) (hC : js.map (fun i => bs[i]?) = cs.map some) (hnd : va_nd js = true)
    (mf : MF y cy ny ry n) (mv : MFv y K) (hlk : Cond.methodLink own idx y ∈ gG) (hn : As.length = n) (hR : rm.frames + 1 ≤ R.frames ∧ 8 + (ny + 11) + rm.locals ≤ R.locals) (hz : rm.cells = 0 ∧ rm.slots = 0)
    (qr : Nat) {ci : Nat} {fs : List Value} {qc : vw_C} (hcr : vwCl[ci]? = some qc) (hK : qc.1 = K) (her : w[qr]? = some (b, .inr (ci, fs))) (hst : st = As.reverse ++ .ref b :: rest) (hroom : (rest.map fun v => v.category).sum ≤ 8) (hf : cells ≤ R.cells ∧ slots ≤ R.slots) (hd : decode cc pc = .ok (.invokevirtual idx, 3)) :
    ∀ (H : Heap) (locs : List Loc) (ls : Array Slot), va_P E.1 vwCl w H → va_D A w → va_S A s.heap H locs → lv_has ls nL lv → va_Run p l e R s m args below meth c H locs cells slots 0 0 (F0 m pc ls st) rest (Qc H.size (Value.ref b :: As).toArray) (va_A (fl cs) H.size) := by
  intro H locs ls hP hD hS hl
  subst hst
  subst hwb
  subst hK
  have cb : CallB R s args own idx y cy ny ry (mW y cy ny ry) rm 0 0 n := callB_of n C.2.2.2.2.2.1 (mW_good (fun _ h => h) mf.1) rfl hz.1 hz.2 (C.2.2.2.2.2.1 _ mf.2.1) (C.2.2.2.2.2.1 _ hlk) mf.2.2 hR
  exact va_runV ⟨C.1, C.2.1, C.2.2.1, C.2.2.2.2.1, C.2.2.2.2.2.1⟩ (hM H.size) ⟨cb, C.2.2.2.2.2.1 _ mv.1, C.2.2.2.2.2.1 _ mv.2⟩ ⟨CPre_blind, va_recv C.2.2.2.2.2.2.1 hP hcr her, v_preB C js hC hnd hP hD hS (.ref b :: As)⟩ rfl hn hl.1 rfl (lv_room hroom) hd hf
theorem v_runSB (C : VC p s m args meth c E A cc nL ret own) {Qc : Nat → Array Value → State → Outcome → State → Prop} {bs cs : List va_W} (As rest : List Value) (hM : ∀ sz, Met l y (mW y cy ny ry) rm (CPre E As sz (fl cs)) (Qc sz) 0 0 (va_A (fl cs) sz)) (js : List Nat) (hwb : w = fl bs) (hC : js.map (fun i => bs[i]?) = cs.map some) (hnd : va_nd js = true)
    (mf : MF y cy ny ry n) (ms : Cond.static y ∈ gG) (hlk : Cond.methodLink own idx y ∈ gG) (hn : As.length = n) (hR : rm.frames + 1 ≤ R.frames ∧ 8 + (ny + 11) + rm.locals ≤ R.locals) (hz : rm.cells = 0 ∧ rm.slots = 0)
    (hst : st = As.reverse ++ rest) (hroom : (rest.map fun v => v.category).sum ≤ 8) (hf : cells ≤ R.cells ∧ slots ≤ R.slots) (hd : decode cc pc = .ok (.invokestatic idx, 3)) :
    ∀ (H : Heap) (locs : List Loc) (ls : Array Slot), va_P E.1 vwCl w H → va_D A w → va_S A s.heap H locs → lv_has ls nL lv → va_Run p l e R s m args below meth c H locs cells slots 0 0 (F0 m pc ls st) rest (Qc H.size As.toArray) (va_A (fl cs) H.size) := by
  intro H locs ls hP hD hS hl
  subst hst
  subst hwb
  have cb : CallB R s args own idx y cy ny ry (mW y cy ny ry) rm 0 0 n := callB_of n C.2.2.2.2.2.1 (mW_good (fun _ h => h) mf.1) rfl hz.1 hz.2 (C.2.2.2.2.2.1 _ mf.2.1) (C.2.2.2.2.2.1 _ hlk) mf.2.2 hR
  exact va_runS ⟨C.1, C.2.1, C.2.2.1, C.2.2.2.2.1, C.2.2.2.2.2.1⟩ (hM H.size) ⟨cb, C.2.2.2.2.2.1 _ ms⟩ ⟨CPre_blind, v_preB C js hC hnd hP hD hS As⟩ rfl hn hl.1 rfl (lv_room hroom) hd hf
theorem v_runSNB (C : VC p s m args meth c E A cc nL ret own) {Qc : Nat → Array Value → State → Outcome → State → Prop} {bs cs : List va_W} {host : String} (As rest : List Value) (hM : ∀ sz, Met l y (mW y cy ny ry) rm (CPre E As sz (fl cs)) (Qc sz) 0 0 (va_A (fl cs) sz)) (js : List Nat) (hwb : w = fl bs) (hC : js.map (fun i => bs[i]?) = cs.map some) (hnd : va_nd js = true)
    (mf : MF y cy ny ry n) (ms : Cond.static y ∈ gG) (hlk : Cond.methodLinkNest own idx y host ∈ nW) (hn : As.length = n) (hR : rm.frames + 1 ≤ R.frames ∧ 8 + (ny + 11) + rm.locals ≤ R.locals) (hz : rm.cells = 0 ∧ rm.slots = 0)
    (hst : st = As.reverse ++ rest) (hroom : (rest.map fun v => v.category).sum ≤ 8) (hf : cells ≤ R.cells ∧ slots ≤ R.slots) (hd : decode cc pc = .ok (.invokestatic idx, 3)) :
    ∀ (H : Heap) (locs : List Loc) (ls : Array Slot), va_P E.1 vwCl w H → va_D A w → va_S A s.heap H locs → lv_has ls nL lv → va_Run p l e R s m args below meth c H locs cells slots 0 0 (F0 m pc ls st) rest (Qc H.size As.toArray) (va_A (fl cs) H.size) := by
  intro H locs ls hP hD hS hl
  subst hst
  subst hwb
  exact va_runSN ⟨C.1, C.2.1, C.2.2.1, C.2.2.2.2.1, C.2.2.2.2.2.1⟩ (hM H.size) ⟨va_cnB n C.2.2.2.2.2.1 (mW_good (fun _ h => h) mf.1) rfl hz.1 hz.2 (C.2.2.2.2.2.2.2.2.2.1 _ hlk) (C.2.2.2.2.2.1 _ mf.2.1) mf.2.2 hR, C.2.2.2.2.2.1 _ ms, trivial⟩ ⟨CPre_blind, v_preB C js hC hnd hP hD hS As⟩ rfl hn hl.1 rfl (lv_room hroom) hd hf
/-- a call whose callee has the whole world -/
theorem v_preA (C : VC p s m args meth c E A cc nL ret own) {H : Heap} {locs : List Loc} (hP : va_P E.1 vwCl w H) (hD : va_D A w) (hS : va_S A s.heap H locs) (av : List Value) : ∀ U : State, U.heap = H → s.WarmedH U.vm → CPre E av H.size w av.toArray U := by
  intro U hU hW
  exact ⟨rfl, by rw [hU], by rw [hU]; exact hP, va_K.moved hW.alike C.2.2.2.2.2.2.1, hD.weaken (fun _ _ _ _ => trivial), fun x hx => nst_warm (List.mem_filter.mp hx).2 hW (C.2.2.2.2.2.2.2.2.2.1 x hx), sF_go C.2.2.2.2.2.2.2.2.2.2 hS (v_freeA C hD hS) hW hU⟩
theorem v_runVA (C : VC p s m args meth c E A cc nL ret own) {Qc : Nat → Array Value → State → Outcome → State → Prop} (As rest : List Value) (hM : ∀ sz, Met l y (mW y cy ny ry) rm (CPre E (.ref b :: As) sz w) (Qc sz) 0 0 (va_A w sz))
    (mf : MF y cy ny ry n) (mv : MFv y K) (hlk : Cond.methodLink own idx y ∈ gG) (hn : As.length = n) (hR : rm.frames + 1 ≤ R.frames ∧ 8 + (ny + 11) + rm.locals ≤ R.locals) (hz : rm.cells = 0 ∧ rm.slots = 0)
    (qr : Nat) {ci : Nat} {fs : List Value} {qc : vw_C} (hcr : vwCl[ci]? = some qc) (hK : qc.1 = K) (her : w[qr]? = some (b, .inr (ci, fs))) (hst : st = As.reverse ++ .ref b :: rest) (hroom : (rest.map fun v => v.category).sum ≤ 8) (hf : cells ≤ R.cells ∧ slots ≤ R.slots) (hd : decode cc pc = .ok (.invokevirtual idx, 3)) :
    ∀ (H : Heap) (locs : List Loc) (ls : Array Slot), va_P E.1 vwCl w H → va_D A w → va_S A s.heap H locs → lv_has ls nL lv → va_Run p l e R s m args below meth c H locs cells slots 0 0 (F0 m pc ls st) rest (Qc H.size (Value.ref b :: As).toArray) (va_A w H.size) := by
  intro H locs ls hP hD hS hl
  subst hst
  subst hK
  have cb : CallB R s args own idx y cy ny ry (mW y cy ny ry) rm 0 0 n := callB_of n C.2.2.2.2.2.1 (mW_good (fun _ h => h) mf.1) rfl hz.1 hz.2 (C.2.2.2.2.2.1 _ mf.2.1) (C.2.2.2.2.2.1 _ hlk) mf.2.2 hR
  exact va_runV ⟨C.1, C.2.1, C.2.2.1, C.2.2.2.2.1, C.2.2.2.2.2.1⟩ (hM H.size) ⟨cb, C.2.2.2.2.2.1 _ mv.1, C.2.2.2.2.2.1 _ mv.2⟩ ⟨CPre_blind, va_recv C.2.2.2.2.2.2.1 hP hcr her, v_preA C hP hD hS (.ref b :: As)⟩ rfl hn hl.1 rfl (lv_room hroom) hd hf
theorem v_goAi (C : VC p s m args meth c E A cc nL ret own) {Post : Int32 → S → Prop} {wc' : S → va_W} {rest : List Value} {a : Array Value} (hadr : ∀ u, (wc' u).map Prod.fst = w.map Prod.fst)
    (run : ∀ (H : Heap) (locs : List Loc) (ls : Array Slot), va_P E.1 vwCl w H → va_D A w → va_S A s.heap H locs → lv_has ls nL lv → va_Run p l e R s m args below meth c H locs cells slots 0 0 (F0 m pc ls st) rest (CQi E Post wc' w H.size a) (va_A w H.size))
    (kk : ∀ (r : Int32) (u : S), Post r u → V p l e R s m args below meth c E A nL cells slots Q (wc' u) (pc + 3) lv (.int r :: rest)) : V p l e R s m args below meth c E A nL cells slots Q w pc lv st := by
  intro H locs ls hP hD hS hl
  have hF := v_freeA C hD hS
  refine va_calli (run H locs ls hP hD hS hl) hS (fun q _ h => hF q h) hF (fun r u t H1 locs1 ht hvm hp hB hz hk hS1 => ?_)
  exact kk r u hp H1 locs1 ls (ht ▸ hB) (va_D_adr hD (hadr u)) hS1 hl
theorem v_goAl (C : VC p s m args meth c E A cc nL ret own) {Post : Int64 → S → Prop} {wc' : S → va_W} {rest : List Value} {a : Array Value} (hadr : ∀ u, (wc' u).map Prod.fst = w.map Prod.fst)
    (run : ∀ (H : Heap) (locs : List Loc) (ls : Array Slot), va_P E.1 vwCl w H → va_D A w → va_S A s.heap H locs → lv_has ls nL lv → va_Run p l e R s m args below meth c H locs cells slots 0 0 (F0 m pc ls st) rest (CQl E Post wc' w H.size a) (va_A w H.size))
    (kk : ∀ (r : Int64) (u : S), Post r u → V p l e R s m args below meth c E A nL cells slots Q (wc' u) (pc + 3) lv (.long r :: rest)) : V p l e R s m args below meth c E A nL cells slots Q w pc lv st := by
  intro H locs ls hP hD hS hl
  have hF := v_freeA C hD hS
  refine va_calll (run H locs ls hP hD hS hl) hS (fun q _ h => hF q h) hF (fun r u t H1 locs1 ht hvm hp hB hz hk hS1 => ?_)
  exact kk r u hp H1 locs1 ls (ht ▸ hB) (va_D_adr hD (hadr u)) hS1 hl
theorem v_goAv (C : VC p s m args meth c E A cc nL ret own) {Post : S → Prop} {wc' : S → va_W} {rest : List Value} {a : Array Value} (hadr : ∀ u, (wc' u).map Prod.fst = w.map Prod.fst)
    (run : ∀ (H : Heap) (locs : List Loc) (ls : Array Slot), va_P E.1 vwCl w H → va_D A w → va_S A s.heap H locs → lv_has ls nL lv → va_Run p l e R s m args below meth c H locs cells slots 0 0 (F0 m pc ls st) rest (CQv E Post wc' w H.size a) (va_A w H.size))
    (kk : ∀ (u : S), Post u → V p l e R s m args below meth c E A nL cells slots Q (wc' u) (pc + 3) lv rest) : V p l e R s m args below meth c E A nL cells slots Q w pc lv st := by
  intro H locs ls hP hD hS hl
  have hF := v_freeA C hD hS
  refine va_callv (run H locs ls hP hD hS hl) hS (fun q _ h => hF q h) hF (fun u t H1 locs1 ht hvm hp hB hz hk hS1 => ?_)
  exact kk u hp H1 locs1 ls (ht ▸ hB) (va_D_adr hD (hadr u)) hS1 hl
/-- returns -/
theorem v_ireti (C : VC p s m args meth c E A cc nL (some .int) own) {Post : Int32 → S → Prop} {wf : S → va_W} {w0 : va_W} {x : Int32} (u : S) (hA : va_A w0 s.heap.size = A) (hw : w = wf u) (h : Post x u) (hd : decode cc pc = .ok (.ireturn, 1)) : V p l e R s m args below meth c E A nL cells slots (MQ below (CQi E Post wf w0 s.heap.size) args s cells slots A) w pc lv [.int x] := by
  intro H locs ls hP hD hS hl
  subst hw
  exact W.iret C.1 C.2.1 C.2.2.2.1 (fun t ht hW => ⟨⟨x, u, rfl, h, by show va_P _ _ _ t.heap; rw [ht]; exact hP⟩, hA ▸ hS.F ht⟩) hS.2.2 hd C.2.2.2.2.2.2.2.2.1
theorem v_iretz (C : VC p s m args meth c E A cc nL (some .boolean) own) {Post : Int32 → S → Prop} {wf : S → va_W} {w0 : va_W} {x : Int32} (hz : narrow .boolean (.int x) = .int x) (u : S) (hA : va_A w0 s.heap.size = A) (hw : w = wf u) (h : Post x u) (hd : decode cc pc = .ok (.ireturn, 1)) : V p l e R s m args below meth c E A nL cells slots (MQ below (CQi E Post wf w0 s.heap.size) args s cells slots A) w pc lv [.int x] := by
  intro H locs ls hP hD hS hl
  subst hw
  exact W.zret C.1 C.2.1 C.2.2.2.1 hz (fun t ht hW => ⟨⟨x, u, rfl, h, by show va_P _ _ _ t.heap; rw [ht]; exact hP⟩, hA ▸ hS.F ht⟩) hS.2.2 hd C.2.2.2.2.2.2.2.2.1
theorem v_lret (C : VC p s m args meth c E A cc nL (some .long) own) {Post : Int64 → S → Prop} {wf : S → va_W} {w0 : va_W} {x : Int64} (u : S) (hA : va_A w0 s.heap.size = A) (hw : w = wf u) (h : Post x u) (hd : decode cc pc = .ok (.lreturn, 1)) : V p l e R s m args below meth c E A nL cells slots (MQ below (CQl E Post wf w0 s.heap.size) args s cells slots A) w pc lv [.long x] := by
  intro H locs ls hP hD hS hl
  subst hw
  exact W.lret C.1 C.2.1 C.2.2.2.1 (fun t ht hW => ⟨⟨x, u, rfl, h, by show va_P _ _ _ t.heap; rw [ht]; exact hP⟩, hA ▸ hS.F ht⟩) hS.2.2 hd C.2.2.2.2.2.2.2.2.1
theorem v_vret (C : VC p s m args meth c E A cc nL none own) {Post : S → Prop} {wf : S → va_W} {w0 : va_W} (u : S) (hA : va_A w0 s.heap.size = A) (hw : w = wf u) (h : Post u) (hd : decode cc pc = .ok (.return_, 1)) : V p l e R s m args below meth c E A nL cells slots (MQ below (CQv E Post wf w0 s.heap.size) args s cells slots A) w pc lv [] := by
  intro H locs ls hP hD hS hl
  subst hw
  exact W.vret C.1 C.2.1 C.2.2.2.1 (fun t ht hW => ⟨⟨u, rfl, h, by show va_P _ _ _ t.heap; rw [ht]; exact hP⟩, hA ▸ hS.F ht⟩) hS.2.2 hd C.2.2.2.2.2.2.2.2.1
/-- System.arraycopy of ints -/
theorem v_copy (C : VC p s m args meth c E A cc nL ret own) (q0 q1 : Nat) {a a0 n0 n1 : Nat} {f g : Nat → Int32} {w' : va_W} {sp dp cn : Int32} {js jd jn : Nat} (ha0 : w[q0]? = some (a0, .inl (E.2.1, n0, .inl f))) (ha1 : w[q1]? = some (a, .inl (E.2.1, n1, .inl g)))
    (hw : w.set q1 (a, .inl (E.2.1, n1, .inl (va_cpy f g js jd jn))) = w') (h1 : ¬ sp < 0) (h2 : ¬ dp < 0) (h3 : ¬ cn < 0) (e1 : sp.toNatClampNeg = js) (e2 : dp.toNatClampNeg = jd) (e3 : cn.toNatClampNeg = jn) (h4 : js + jn ≤ n0) (h5 : jd + jn ≤ n1)
    (hlk : Cond.methodLink own idx arraycopyName ∈ gG) (hnat : Cond.native arraycopyName ∈ gG) (hsta : Cond.static arraycopyName ∈ gG) (hini : Cond.initialized "java/lang/System" ∈ gG) (hfr : 1 ≤ R.frames) (hlo : (st.map fun v => v.category).sum + (nativeFrameWords "java/lang/System" "arraycopy" 5 + 11) ≤ R.locals) (hd : decode cc pc = .ok (.invokestatic idx, 3))
    (kk : V p l e R s m args below meth c E A nL cells slots Q w' (pc + 3) lv st) : V p l e R s m args below meth c E A nL cells slots Q w pc lv (.int cn :: .int dp :: .ref a :: .int sp :: .ref a0 :: st) := by
  subst e1; subst e2; subst e3
  exact fun H locs ls hP hD hS hl => va_copyi C.1 C.2.1 (C.2.2.1.trans hl.1.symm) C.2.2.2.2.1 (C.2.2.2.2.2.1 _ hlk) (C.2.2.2.2.2.1 _ hnat) (C.2.2.2.2.2.1 _ hsta) (C.2.2.2.2.2.1 _ hini) C.2.2.2.2.2.2.1 hP hD hS q0 q1 0 0 ha0 ha1 rfl rfl rfl h1 h2 h3 h4 h5 (fun i _ => rfl) hfr hlo hd (fun H1 locs1 hP1 hD1 hS1 => kk H1 locs1 ls (hw ▸ hP1) (hw ▸ hD1) hS1 hl)
end
/-- a contract out of the walk of the body -/
theorem v_met {l : Launch} {E : VE} {y : MethodName} {cc : ByteArray} {nL : Nat} {ret : Option FieldType} {rm : Room} {Qc : Array Value → State → Outcome → State → Prop} {av : List Value} {sz : Nat} {w : va_W} (hy : plainName y.cls = true) (hlen : (lg_sl av).length ≤ nL)
    (body : ∀ (p : Program) (e : Env) (s : State) (m : MethodId) (below : List Frame) (meth : Method) (c : Code) (A : Nat → Prop), s.heap.size = sz → va_A w sz = A → VC p s m av.toArray meth c E A cc nL ret y.cls → V p l e rm s m av.toArray below meth c E A nL 0 0 (MQ below Qc av.toArray s 0 0 A) w 0 (lv_args 0 av) []) :
    Met l y (mW y cc nL ret) rm (CPre E av sz w) Qc 0 0 (va_A w sz) := by
  refine Met.ofW (cc := cc) (maxL := nL) (ret := ret) hy rfl ?_
  intro p e s m args below meth c s₁ B hml hv
  obtain ⟨rfl, hsz, hP, hK, hD0, hN, hF⟩ := hv
  have hts := atoms_spec (ws := mW y cc nL ret) B.pre
  have hA : ∀ q : Nat, s.heap.size ≤ q → va_A w sz q := fun q h => Or.inr (hsz ▸ h)
  have hl := lv_entry av (n := nL) hlen
  rw [lg_entry_eq]
  exact body p e s m below meth c _ hsz rfl ⟨B.exec, B.bytes, hml, B.returns, findClass_of_methodNamed B.named, fun x hx => hts x (List.mem_cons_of_mem _ hx), hK, hA, B.notSynchronized, hN, hF⟩ s.heap [] _ hP (hD0.self) va_S.rf hl
/-- the way out of a table of jumps -/
theorem tblo {x : Int32} {k : Nat} (hk : k < 2 ^ 31) (h : ∀ j, j ≤ k → ¬ x = nI j) : x.toInt < 0 ∨ (k : Int) < x.toInt := by
  by_cases hx : x < 0
  · exact Or.inl (by have := Int32.lt_iff_toInt_lt.mp hx; simpa using this)
  · obtain ⟨j, hj, rfl⟩ := nI_of hx
    by_cases hjk : j ≤ k
    · exact absurd rfl (h j hjk)
    · exact Or.inr (by rw [nI_toInt hj]; omega)
end
section
def bPad (E : VE) (a : Nat → Nat) (x : St) : va_W := [(a 0, .inr (4, [.ref (a 1), .ref (a 2), .int (x.I 2), .int (x.I 3), .int (x.I 4), .ref (a 3), .ref (a 4), .ref (a 5), .ref (a 6), .ref (a 7), .ref (a 8), .int (x.I 11)])), (a 1, .inl (E.2.1, 86, .inl (x.A 0))), (a 2, .inl (E.2.1, 688, .inl (x.A 1))), (a 3, .inl (E.2.1, 10, .inl (x.A 5))), (a 4, .inl (E.2.1, 10, .inl (x.A 6))), (a 5, .inl (E.2.1, 10, .inl (x.A 7))), (a 6, .inl (E.2.1, 10, .inl (x.A 8))), (a 7, .inl (E.2.1, 60, .inl (x.A 9))), (a 8, .inl (E.2.1, 8, .inl (x.A 10)))]
def bLost (E : VE) (a : Nat → Nat) (x : St) : va_W := [(a 0, .inr (2, [.ref (a 1), .ref (a 2), .int (x.I 2), .int (x.I 3)])), (a 1, .inl (E.2.1, 12, .inl (x.A 0))), (a 2, .inl (E.2.1, 12, .inl (x.A 1)))]
def bRows (E : VE) (a : Nat → Nat) (x : St) : va_W := [(a 0, .inr (8, [.ref (a 1), .ref (a 2), .ref (a 3), .ref (a 4), .int (x.I 4)])), (a 1, .inl (E.2.1, 6, .inl (x.A 0))), (a 2, .inl (E.2.1, 6, .inl (x.A 1))), (a 3, .inl (E.2.1, 60, .inl (x.A 2))), (a 4, .inl (E.2.1, 10, .inl (x.A 3)))]
def bReader (E : VE) (a : Nat → Nat) (x : St) : va_W := [(a 0, .inr (7, [.ref (a 1), .int (x.I 1), .int (x.I 2), .int (x.I 3), .int (x.I 4), .int (x.I 5), .int (x.I 6), .int (x.I 7)])), (a 1, .inl (E.2.1, 150, .inl (x.A 0)))]
def bModel (E : VE) (a : Nat → Nat) (x : St) : va_W := [(a 0, .inr (12, [.int (x.I 0), .int (x.I 1), .ref (a 1), .int (x.I 3), .ref (a 2), .ref (a 3), .int (x.I 6), .long (x.L 7), .long (x.L 8), .ref (a 4), .ref (a 5), .int (x.I 11), .int (x.I 12), .int (x.I 13), .int (x.I 14), .int (x.I 15), .ref (a 6), .int (x.I 17), .int (x.I 18), .int (x.I 19), .int (x.I 20), .int (x.I 21), .int (x.I 22), .ref (a 7), .ref (a 8), .ref (a 9), .long (x.L 26), .ref (a 10), .ref (a 11), .long (x.L 29)])), (a 1, .inl (E.2.1, 8, .inl (x.A 2))), (a 2, .inl (E.2.1, 126, .inl (x.A 4))), (a 3, .inl (E.2.1, 1008, .inl (x.A 5))), (a 4, .inl (E.2.1, 3, .inl (x.A 9))), (a 5, .inl (E.2.1, 150, .inl (x.A 10))), (a 6, .inl (E.2.1, 600, .inl (x.A 16))), (a 7, .inl (E.2.1, 6, .inl (x.A 23))), (a 8, .inl (E.2.1, 6, .inl (x.A 24))), (a 9, .inl (E.2.1, 126, .inl (x.A 25))), (a 10, .inl (E.2.2.1, 2, .inl (x.A 27))), (a 11, .inl (E.2.1, 2308, .inl (x.A 28)))]
def bBox (E : VE) (a : Nat → Nat) : va_W := [(a 0, .inr (5, [.ref (a 1)])), (a 1, .inl (E.2.2.2.1, 6, .inr (.inr (.inr (.inr (fun k => some (a (2 + k)))))))), (a 2, .inr (6, [])),  (a 3, .inr (0, [])),  (a 4, .inr (3, [])),  (a 5, .inr (9, [])),  (a 6, .inr (1, [])),  (a 7, .inr (10, []))]
def bArr (E : VE) (a : Nat → Nat) (n : Nat) (f : Nat → Int32) : va_W := [(a 0, .inl (E.2.1, n, .inl f))]
def bObj (E : VE) (a : Nat → Nat → Nat) (t : Nat → St) : va_W := [(a 0 0, .inr (11, [.ref (a 1 0), .ref (a 2 0), .ref (a 3 0), .ref (a 4 0), .ref (a 5 0), .ref (a 6 0), .ref (a 7 0), .ref (a 8 0), .ref (a 0 1), .int ((t 0).I 9), .long ((t 0).L 10), .long ((t 0).L 11), .int ((t 0).I 12), .int ((t 0).I 13), .int ((t 0).I 14)])), (a 0 1, .inl (E.2.1, 12, .inl ((t 0).A 8)))]
def wBig (E : VE) (a : Nat → Nat → Nat) (t : Nat → St) : va_W := [(a 0 0, .inr (11, [.ref (a 1 0), .ref (a 2 0), .ref (a 3 0), .ref (a 4 0), .ref (a 5 0), .ref (a 6 0), .ref (a 7 0), .ref (a 8 0), .ref (a 0 1), .int ((t 0).I 9), .long ((t 0).L 10), .long ((t 0).L 11), .int ((t 0).I 12), .int ((t 0).I 13), .int ((t 0).I 14)])), (a 0 1, .inl (E.2.1, 12, .inl ((t 0).A 8))), (a 1 0, .inr (5, [.ref (a 1 1)])), (a 1 1, .inl (E.2.2.2.1, 6, .inr (.inr (.inr (.inr (fun k => some (a 1 (2 + k)))))))), (a 1 2, .inr (6, [])), (a 1 3, .inr (0, [])), (a 1 4, .inr (3, [])), (a 1 5, .inr (9, [])), (a 1 6, .inr (1, [])), (a 1 7, .inr (10, [])), (a 2 0, .inr (4, [.ref (a 2 1), .ref (a 2 2), .int ((t 2).I 2), .int ((t 2).I 3), .int ((t 2).I 4), .ref (a 2 3), .ref (a 2 4), .ref (a 2 5), .ref (a 2 6), .ref (a 2 7), .ref (a 2 8), .int ((t 2).I 11)])), (a 2 1, .inl (E.2.1, 86, .inl ((t 2).A 0))), (a 2 2, .inl (E.2.1, 688, .inl ((t 2).A 1))), (a 2 3, .inl (E.2.1, 10, .inl ((t 2).A 5))), (a 2 4, .inl (E.2.1, 10, .inl ((t 2).A 6))), (a 2 5, .inl (E.2.1, 10, .inl ((t 2).A 7))), (a 2 6, .inl (E.2.1, 10, .inl ((t 2).A 8))), (a 2 7, .inl (E.2.1, 60, .inl ((t 2).A 9))), (a 2 8, .inl (E.2.1, 8, .inl ((t 2).A 10))), (a 3 0, .inr (4, [.ref (a 3 1), .ref (a 3 2), .int ((t 3).I 2), .int ((t 3).I 3), .int ((t 3).I 4), .ref (a 3 3), .ref (a 3 4), .ref (a 3 5), .ref (a 3 6), .ref (a 3 7), .ref (a 3 8), .int ((t 3).I 11)])), (a 3 1, .inl (E.2.1, 86, .inl ((t 3).A 0))), (a 3 2, .inl (E.2.1, 688, .inl ((t 3).A 1))), (a 3 3, .inl (E.2.1, 10, .inl ((t 3).A 5))), (a 3 4, .inl (E.2.1, 10, .inl ((t 3).A 6))), (a 3 5, .inl (E.2.1, 10, .inl ((t 3).A 7))), (a 3 6, .inl (E.2.1, 10, .inl ((t 3).A 8))), (a 3 7, .inl (E.2.1, 60, .inl ((t 3).A 9))), (a 3 8, .inl (E.2.1, 8, .inl ((t 3).A 10))), (a 4 0, .inr (4, [.ref (a 4 1), .ref (a 4 2), .int ((t 4).I 2), .int ((t 4).I 3), .int ((t 4).I 4), .ref (a 4 3), .ref (a 4 4), .ref (a 4 5), .ref (a 4 6), .ref (a 4 7), .ref (a 4 8), .int ((t 4).I 11)])), (a 4 1, .inl (E.2.1, 86, .inl ((t 4).A 0))), (a 4 2, .inl (E.2.1, 688, .inl ((t 4).A 1))), (a 4 3, .inl (E.2.1, 10, .inl ((t 4).A 5))), (a 4 4, .inl (E.2.1, 10, .inl ((t 4).A 6))), (a 4 5, .inl (E.2.1, 10, .inl ((t 4).A 7))), (a 4 6, .inl (E.2.1, 10, .inl ((t 4).A 8))), (a 4 7, .inl (E.2.1, 60, .inl ((t 4).A 9))), (a 4 8, .inl (E.2.1, 8, .inl ((t 4).A 10))), (a 5 0, .inr (4, [.ref (a 5 1), .ref (a 5 2), .int ((t 5).I 2), .int ((t 5).I 3), .int ((t 5).I 4), .ref (a 5 3), .ref (a 5 4), .ref (a 5 5), .ref (a 5 6), .ref (a 5 7), .ref (a 5 8), .int ((t 5).I 11)])), (a 5 1, .inl (E.2.1, 86, .inl ((t 5).A 0))), (a 5 2, .inl (E.2.1, 688, .inl ((t 5).A 1))), (a 5 3, .inl (E.2.1, 10, .inl ((t 5).A 5))), (a 5 4, .inl (E.2.1, 10, .inl ((t 5).A 6))), (a 5 5, .inl (E.2.1, 10, .inl ((t 5).A 7))), (a 5 6, .inl (E.2.1, 10, .inl ((t 5).A 8))), (a 5 7, .inl (E.2.1, 60, .inl ((t 5).A 9))), (a 5 8, .inl (E.2.1, 8, .inl ((t 5).A 10))), (a 6 0, .inr (2, [.ref (a 6 1), .ref (a 6 2), .int ((t 6).I 2), .int ((t 6).I 3)])), (a 6 1, .inl (E.2.1, 12, .inl ((t 6).A 0))), (a 6 2, .inl (E.2.1, 12, .inl ((t 6).A 1))), (a 7 0, .inr (8, [.ref (a 7 1), .ref (a 7 2), .ref (a 7 3), .ref (a 7 4), .int ((t 7).I 4)])), (a 7 1, .inl (E.2.1, 6, .inl ((t 7).A 0))), (a 7 2, .inl (E.2.1, 6, .inl ((t 7).A 1))), (a 7 3, .inl (E.2.1, 60, .inl ((t 7).A 2))), (a 7 4, .inl (E.2.1, 10, .inl ((t 7).A 3))), (a 8 0, .inr (7, [.ref (a 8 1), .int ((t 8).I 1), .int ((t 8).I 2), .int ((t 8).I 3), .int ((t 8).I 4), .int ((t 8).I 5), .int ((t 8).I 6), .int ((t 8).I 7)])), (a 8 1, .inl (E.2.1, 150, .inl ((t 8).A 0)))]
def bsBig (E : VE) (a : Nat → Nat → Nat) (t : Nat → St) : List va_W := [bObj E a t, bBox E (a 1), bPad E (a 2) (t 2), bPad E (a 3) (t 3), bPad E (a 4) (t 4), bPad E (a 5) (t 5), bLost E (a 6) (t 6), bRows E (a 7) (t 7), bReader E (a 8) (t 8)]
theorem wBig_fl (E : VE) (a : Nat → Nat → Nat) (t : Nat → St) : wBig E a t = fl (bsBig E a t) := rfl
def rmX5_forceOf : Room := { frames := 4, cells := 0, slots := 0, locals := 120 }
def rmX5_hasInk : Room := { frames := 3, cells := 0, slots := 0, locals := 100 }
def rmX4_placeOf : Room := { frames := 0, cells := 0, slots := 0, locals := 0 }
def rmX4_dentOf : Room := { frames := 1, cells := 0, slots := 0, locals := 21 }
def rmX4_noteCount : Room := { frames := 0, cells := 0, slots := 0, locals := 0 }
def rmX4_forceDown : Room := { frames := 0, cells := 0, slots := 0, locals := 0 }
def rmX4_forceOn : Room := { frames := 1, cells := 0, slots := 0, locals := 22 }
def rmX11_dentInto : Room := { frames := 0, cells := 0, slots := 0, locals := 0 }
def rmX2_look : Room := { frames := 2, cells := 0, slots := 0, locals := 44 }
def rmX2_guess : Room := { frames := 0, cells := 0, slots := 0, locals := 0 }
def rmX2_isFit : Room := { frames := 0, cells := 0, slots := 0, locals := 0 }
def rmX4_beginAnew : Room := { frames := 0, cells := 0, slots := 0, locals := 0 }
def rmX4_copyFrom : Room := { frames := 1, cells := 0, slots := 0, locals := 200 }
def rmX4_keepForUndo : Room := { frames := 1, cells := 0, slots := 0, locals := 200 }
def rmX4_goBack : Room := { frames := 1, cells := 0, slots := 0, locals := 200 }
def rmX4_top : Room := { frames := 0, cells := 0, slots := 0, locals := 0 }
def rmX4_isUsedUp : Room := { frames := 0, cells := 0, slots := 0, locals := 0 }
def rmX4_hasSheet : Room := { frames := 0, cells := 0, slots := 0, locals := 0 }
def rmX4_hasSheets : Room := { frames := 0, cells := 0, slots := 0, locals := 0 }
def rmX4_hasNote : Room := { frames := 0, cells := 0, slots := 0, locals := 0 }
def rmX4_hasNotes : Room := { frames := 0, cells := 0, slots := 0, locals := 0 }
def rmX4_inkOf : Room := { frames := 1, cells := 0, slots := 0, locals := 21 }
def rmX4_copyOf : Room := { frames := 1, cells := 0, slots := 0, locals := 21 }
def rmX4_tearTop : Room := { frames := 0, cells := 0, slots := 0, locals := 0 }
def rmX4_pressInto : Room := { frames := 1, cells := 0, slots := 0, locals := 25 }
def rmX4_putNote : Room := { frames := 5, cells := 0, slots := 0, locals := 144 }
def rmX4_writtenOn : Room := { frames := 0, cells := 0, slots := 0, locals := 0 }
def rmX4_cellsDented : Room := { frames := 2, cells := 0, slots := 0, locals := 44 }
def rmX4_dentedBy : Room := { frames := 3, cells := 0, slots := 0, locals := 66 }
def rmX4_dentedAtLeast : Room := { frames := 2, cells := 0, slots := 0, locals := 43 }
def rmX4_digestFrom : Room := { frames := 1, cells := 0, slots := 0, locals := 21 }
def rmX7_fault : Room := { frames := 0, cells := 0, slots := 0, locals := 0 }
def rmX7_isWithin : Room := { frames := 0, cells := 0, slots := 0, locals := 0 }
def rmX7_passWord : Room := { frames := 1, cells := 0, slots := 0, locals := 23 }
def rmX7_passFigures : Room := { frames := 1, cells := 0, slots := 0, locals := 23 }
def rmX7_step : Room := { frames := 2, cells := 0, slots := 0, locals := 43 }
def rmX7_isWord : Room := { frames := 5, cells := 0, slots := 0, locals := 200 }
def rmX7_isNumber : Room := { frames := 0, cells := 0, slots := 0, locals := 0 }
def rmX7_passStop : Room := { frames := 3, cells := 0, slots := 0, locals := 63 }
def rmX7_readFirst : Room := { frames := 6, cells := 0, slots := 0, locals := 222 }
def rmX7_readCarbon : Room := { frames := 4, cells := 0, slots := 0, locals := 83 }
def rmX7_readPen : Room := { frames := 3, cells := 0, slots := 0, locals := 63 }
def rmX7_readCells : Room := { frames := 3, cells := 0, slots := 0, locals := 63 }
def rmX7_readItem : Room := { frames := 6, cells := 0, slots := 0, locals := 222 }
def rmX7_readInto : Room := { frames := 7, cells := 0, slots := 0, locals := 247 }
def rmX8_sheetAt : Room := { frames := 0, cells := 0, slots := 0, locals := 0 }
def rmX8_mayLie : Room := { frames := 1, cells := 0, slots := 0, locals := 22 }
def rmX8_layFrom (d : Nat) : Room := { frames := 10 + 2 * d, cells := 0, slots := 0, locals := 400 + 100 * d }
def rmX8_search : Room := { frames := 25, cells := 0, slots := 0, locals := 1125 }
def rmX11_bad : Room := { frames := 0, cells := 0, slots := 0, locals := 0 }
def rmX11_pad : Room := { frames := 1, cells := 0, slots := 0, locals := 22 }
def rmX11_carbons : Room := { frames := 1, cells := 0, slots := 0, locals := 21 }
def rmX11_isPen : Room := { frames := 0, cells := 0, slots := 0, locals := 0 }
def rmX11_isCells : Room := { frames := 0, cells := 0, slots := 0, locals := 0 }
def rmX11_no : Room := { frames := 0, cells := 0, slots := 0, locals := 0 }
def rmX11_full : Room := { frames := 0, cells := 0, slots := 0, locals := 0 }
def rmX11_write : Room := { frames := 6, cells := 0, slots := 0, locals := 220 }
def rmX11_tear : Room := { frames := 2, cells := 0, slots := 0, locals := 220 }
def rmX11_undo : Room := { frames := 2, cells := 0, slots := 0, locals := 220 }
def rmX11_word : Room := { frames := 1, cells := 0, slots := 0, locals := 21 }
def rmX11_forget : Room := { frames := 0, cells := 0, slots := 0, locals := 0 }
def rmX11_type : Room := { frames := 1, cells := 0, slots := 0, locals := 21 }
def rmX11_clear : Room := { frames := 0, cells := 0, slots := 0, locals := 0 }
def rmX11_read : Room := { frames := 8, cells := 0, slots := 0, locals := 271 }
def rmX11_of : Room := { frames := 2, cells := 0, slots := 0, locals := 42 }
def rmX11_dent : Room := { frames := 2, cells := 0, slots := 0, locals := 43 }
def rmX11_about : Room := { frames := 4, cells := 0, slots := 0, locals := 122 }
def rmX11_isDepth : Room := { frames := 0, cells := 0, slots := 0, locals := 0 }
def rmX11_force : Room := { frames := 5, cells := 0, slots := 0, locals := 144 }
def rmX11_whose : Room := { frames := 4, cells := 0, slots := 0, locals := 89 }
def rmX11_own : Room := { frames := 3, cells := 0, slots := 0, locals := 66 }
def rmX11_shown : Room := { frames := 3, cells := 0, slots := 0, locals := 67 }
def rmJ6_bitCount_0f7a4 : Room := { frames := 0, cells := 0, slots := 0, locals := 0 }
def rmX11_wordsThatFit : Room := { frames := 1, cells := 0, slots := 0, locals := 21 }
def rmX11_lost : Room := { frames := 5, cells := 0, slots := 0, locals := 144 }
def rmX11_pen : Room := { frames := 5, cells := 0, slots := 0, locals := 144 }
def rmX11_orders : Room := { frames := 26, cells := 0, slots := 0, locals := 1149 }
def rmX11_press : Room := { frames := 5, cells := 0, slots := 0, locals := 144 }
def rmX11_copies : Room := { frames := 5, cells := 0, slots := 0, locals := 144 }
def rmX11_keepFraction : Room := { frames := 0, cells := 0, slots := 0, locals := 0 }
def rmX11_rub : Room := { frames := 2, cells := 0, slots := 0, locals := 43 }
def rmX11_torn : Room := { frames := 4, cells := 0, slots := 0, locals := 89 }
def rmX11_nextDraw : Room := { frames := 0, cells := 0, slots := 0, locals := 0 }
def rmX11_drawOf : Room := { frames := 0, cells := 0, slots := 0, locals := 0 }
def rmX11_sumOfLast : Room := { frames := 0, cells := 0, slots := 0, locals := 0 }
def rmX11_drawn : Room := { frames := 5, cells := 0, slots := 0, locals := 144 }
def rmX11_part : Room := { frames := 1, cells := 0, slots := 0, locals := 21 }
def rmX11_image : Room := { frames := 2, cells := 0, slots := 0, locals := 221 }
def rmX11_from : Room := { frames := 2, cells := 0, slots := 0, locals := 221 }
def rmX11_status : Room := { frames := 1, cells := 0, slots := 0, locals := 21 }
def rmX11_amountOf : Room := { frames := 1, cells := 0, slots := 0, locals := 20 }
def rmX11_count : Room := { frames := 2, cells := 0, slots := 0, locals := 41 }
def rmX11_digest : Room := { frames := 2, cells := 0, slots := 0, locals := 47 }
def rmX12_in : Room := { frames := 0, cells := 0, slots := 0, locals := 0 }
def rmX12_has : Room := { frames := 0, cells := 0, slots := 0, locals := 0 }
def rmX12_ones : Room := { frames := 0, cells := 0, slots := 0, locals := 0 }
def rmX12_refuse : Room := { frames := 0, cells := 0, slots := 0, locals := 0 }
def rmX12_bad : Room := { frames := 1, cells := 0, slots := 0, locals := 22 }
def rmX12_badLess : Room := { frames := 1, cells := 0, slots := 0, locals := 22 }
def rmX12_isSheet : Room := { frames := 1, cells := 0, slots := 0, locals := 25 }
def rmX12_areNotes : Room := { frames := 1, cells := 0, slots := 0, locals := 25 }
def rmX12_isPen : Room := { frames := 1, cells := 0, slots := 0, locals := 25 }
def rmX12_pencil : Room := { frames := 0, cells := 0, slots := 0, locals := 0 }
def rmX12_forceOf : Room := { frames := 1, cells := 0, slots := 0, locals := 22 }
def rmX12_hasInk : Room := { frames := 0, cells := 0, slots := 0, locals := 0 }
def rmX12_empty : Room := { frames := 0, cells := 0, slots := 0, locals := 0 }
def rmX12_pad : Room := { frames := 2, cells := 0, slots := 0, locals := 42 }
def rmX12_carbons : Room := { frames := 2, cells := 0, slots := 0, locals := 42 }
def rmX12_note : Room := { frames := 0, cells := 0, slots := 0, locals := 0 }
def rmX12_dentAll : Room := { frames := 2, cells := 0, slots := 0, locals := 44 }
def rmX12_writeNow : Room := { frames := 3, cells := 0, slots := 0, locals := 72 }
def rmX12_write : Room := { frames := 4, cells := 0, slots := 0, locals := 96 }
def rmX12_tear : Room := { frames := 1, cells := 0, slots := 0, locals := 22 }
def rmX12_undo : Room := { frames := 1, cells := 0, slots := 0, locals := 22 }
def rmX12_word : Room := { frames := 2, cells := 0, slots := 0, locals := 42 }
def rmX12_forget : Room := { frames := 0, cells := 0, slots := 0, locals := 0 }
def rmX12_type : Room := { frames := 2, cells := 0, slots := 0, locals := 42 }
def rmX12_clear : Room := { frames := 0, cells := 0, slots := 0, locals := 0 }
def rmX12_byteAt : Room := { frames := 0, cells := 0, slots := 0, locals := 0 }
def rmX12_isWord : Room := { frames := 0, cells := 0, slots := 0, locals := 0 }
def rmX12_nextToken : Room := { frames := 1, cells := 0, slots := 0, locals := 28 }
def rmX12_number : Room := { frames := 2, cells := 0, slots := 0, locals := 48 }
def rmX12_readNote : Room := { frames := 3, cells := 0, slots := 0, locals := 70 }
def rmX12_readPad : Room := { frames := 4, cells := 0, slots := 0, locals := 93 }
def rmX12_read : Room := { frames := 5, cells := 0, slots := 0, locals := 116 }
def rmX12_writtenOn : Room := { frames := 0, cells := 0, slots := 0, locals := 0 }
def rmX12_of : Room := { frames := 2, cells := 0, slots := 0, locals := 46 }
def rmX12_dentOf : Room := { frames := 0, cells := 0, slots := 0, locals := 0 }
def rmX12_dent : Room := { frames := 2, cells := 0, slots := 0, locals := 46 }
def rmX12_about : Room := { frames := 2, cells := 0, slots := 0, locals := 44 }
def rmX12_force : Room := { frames := 2, cells := 0, slots := 0, locals := 46 }
def rmX12_forceIn : Room := { frames := 2, cells := 0, slots := 0, locals := 44 }
def rmX12_whoseOf : Room := { frames := 3, cells := 0, slots := 0, locals := 69 }
def rmX12_whose : Room := { frames := 4, cells := 0, slots := 0, locals := 92 }
def rmX12_own : Room := { frames := 3, cells := 0, slots := 0, locals := 69 }
def rmX12_shown : Room := { frames := 2, cells := 0, slots := 0, locals := 46 }
def rmX12_explained : Room := { frames := 3, cells := 0, slots := 0, locals := 69 }
def rmX12_isLost : Room := { frames := 4, cells := 0, slots := 0, locals := 95 }
def rmX12_fits : Room := { frames := 0, cells := 0, slots := 0, locals := 0 }
def rmX12_lost : Room := { frames := 5, cells := 0, slots := 0, locals := 122 }
def rmX12_pen : Room := { frames := 5, cells := 0, slots := 0, locals := 122 }
def rmX12_exchange : Room := { frames := 0, cells := 0, slots := 0, locals := 0 }
def rmX12_nextRow : Room := { frames := 1, cells := 0, slots := 0, locals := 23 }
def rmX12_placeOf : Room := { frames := 0, cells := 0, slots := 0, locals := 0 }
def rmX12_isRow : Room := { frames := 2, cells := 0, slots := 0, locals := 44 }
def rmX12_orders : Room := { frames := 3, cells := 0, slots := 0, locals := 71 }
def rmX12_press : Room := { frames := 2, cells := 0, slots := 0, locals := 44 }
def rmX12_copies : Room := { frames := 2, cells := 0, slots := 0, locals := 46 }
def rmX12_common : Room := { frames := 0, cells := 0, slots := 0, locals := 0 }
def rmX12_rub : Room := { frames := 2, cells := 0, slots := 0, locals := 46 }
def rmX12_torn : Room := { frames := 4, cells := 0, slots := 0, locals := 92 }
def rmX12_draw : Room := { frames := 0, cells := 0, slots := 0, locals := 0 }
def rmX12_drawn : Room := { frames := 3, cells := 0, slots := 0, locals := 72 }
def rmX12_part : Room := { frames := 2, cells := 0, slots := 0, locals := 42 }
def rmX12_carry : Room := { frames := 0, cells := 0, slots := 0, locals := 0 }
def rmX12_image : Room := { frames := 2, cells := 0, slots := 0, locals := 42 }
def rmX12_from : Room := { frames := 2, cells := 0, slots := 0, locals := 42 }
def rmX12_status : Room := { frames := 1, cells := 0, slots := 0, locals := 25 }
def rmX12_countOf : Room := { frames := 0, cells := 0, slots := 0, locals := 0 }
def rmX12_count : Room := { frames := 2, cells := 0, slots := 0, locals := 42 }
def rmX12_mix : Room := { frames := 0, cells := 0, slots := 0, locals := 0 }
def rmX12_digest : Room := { frames := 1, cells := 0, slots := 0, locals := 22 }
end
section
theorem tinp {w : Cond} (h : w ∈ k2_sels lw_privs) : w ∈ lw_tbl := List.mem_append_left _ h
theorem tin1 {w : Cond} (h : w ∈ tables_1_1) : w ∈ lw_tbl := List.mem_append_right _ (List.mem_append_left _ h)
theorem tin2 {w : Cond} (h : w ∈ tables_1_2) : w ∈ lw_tbl := List.mem_append_right _ (List.mem_append_right _ (List.mem_append_left _ h))
theorem tin3 {w : Cond} (h : w ∈ tables_1_3) : w ∈ lw_tbl := List.mem_append_right _ (List.mem_append_right _ (List.mem_append_right _ (List.mem_append_left _ h)))
theorem tin4 {w : Cond} (h : w ∈ tables_1_4) : w ∈ lw_tbl := List.mem_append_right _ (List.mem_append_right _ (List.mem_append_right _ (List.mem_append_right _ (List.mem_append_left _ h))))
theorem tin5 {w : Cond} (h : w ∈ tables_1_5) : w ∈ lw_tbl := List.mem_append_right _ (List.mem_append_right _ (List.mem_append_right _ (List.mem_append_right _ (List.mem_append_right _ h))))
theorem ki_2 : Int32.ofInt 2 = (2 : Int32) := by decide +kernel
theorem kb_14 : (Int8.ofInt 14).toInt32 = (14 : Int32) := by decide +kernel
theorem ki_1 : Int32.ofInt 1 = (1 : Int32) := by decide +kernel
theorem vi_1_86 : vp_in 1 86 := by unfold vp_in; decide
theorem tn_1 : (1 : Int32).toNatClampNeg = 1 := by decide
theorem ki_0 : Int32.ofInt 0 = (0 : Int32) := by decide +kernel
theorem kb_6 : (Int8.ofInt 6).toInt32 = (6 : Int32) := by decide +kernel
theorem kb_12 : (Int8.ofInt 12).toInt32 = (12 : Int32) := by decide +kernel
theorem ki_m1 : Int32.ofInt (-1) = (-1 : Int32) := by decide +kernel
theorem kb_86 : (Int8.ofInt 86).toInt32 = (86 : Int32) := by decide +kernel
theorem tn_0 : (0 : Int32).toNatClampNeg = 0 := by decide
theorem tn_86 : (86 : Int32).toNatClampNeg = 86 := by decide
theorem kb_10 : (Int8.ofInt 10).toInt32 = (10 : Int32) := by decide +kernel
theorem tn_10 : (10 : Int32).toNatClampNeg = 10 := by decide
theorem kb_60 : (Int8.ofInt 60).toInt32 = (60 : Int32) := by decide +kernel
theorem tn_60 : (60 : Int32).toNatClampNeg = 60 := by decide
theorem kb_8 : (Int8.ofInt 8).toInt32 = (8 : Int32) := by decide +kernel
theorem tn_8 : (8 : Int32).toNatClampNeg = 8 := by decide
theorem ks_602 : (Int16.ofInt 602).toInt32 = (602 : Int32) := by decide +kernel
theorem tn_602 : (602 : Int32).toNatClampNeg = 602 := by decide
theorem kb_7 : (Int8.ofInt 7).toInt32 = (7 : Int32) := by decide +kernel
theorem vi_0_86 : vp_in 0 86 := by unfold vp_in; decide
theorem kb_97 : (Int8.ofInt 97).toInt32 = (97 : Int32) := by decide +kernel
theorem kb_122 : (Int8.ofInt 122).toInt32 = (122 : Int32) := by decide +kernel
theorem kb_48 : (Int8.ofInt 48).toInt32 = (48 : Int32) := by decide +kernel
theorem kb_57 : (Int8.ofInt 57).toInt32 = (57 : Int32) := by decide +kernel
theorem ki_4 : Int32.ofInt 4 = (4 : Int32) := by decide +kernel
theorem kb_32 : (Int8.ofInt 32).toInt32 = (32 : Int32) := by decide +kernel
theorem kb_59 : (Int8.ofInt 59).toInt32 = (59 : Int32) := by decide +kernel
theorem ki_3 : Int32.ofInt 3 = (3 : Int32) := by decide +kernel
theorem ki_5 : Int32.ofInt 5 = (5 : Int32) := by decide +kernel
theorem kb_9 : (Int8.ofInt 9).toInt32 = (9 : Int32) := by decide +kernel
theorem kb_11 : (Int8.ofInt 11).toInt32 = (11 : Int32) := by decide +kernel
theorem ks_150 : (Int16.ofInt 150).toInt32 = (150 : Int32) := by decide +kernel
theorem kb_m2 : (Int8.ofInt (-2)).toInt32 = (-2 : Int32) := by decide +kernel
theorem ks_4096 : (Int16.ofInt 4096).toInt32 = (4096 : Int32) := by decide +kernel
theorem kb_m3 : (Int8.ofInt (-3)).toInt32 = (-3 : Int32) := by decide +kernel
theorem kb_m4 : (Int8.ofInt (-4)).toInt32 = (-4 : Int32) := by decide +kernel
theorem kb_127 : (Int8.ofInt 127).toInt32 = (127 : Int32) := by decide +kernel
theorem kb_m10 : (Int8.ofInt (-10)).toInt32 = (-10 : Int32) := by decide +kernel
theorem kb_16 : (Int8.ofInt 16).toInt32 = (16 : Int32) := by decide +kernel
theorem kb_63 : (Int8.ofInt 63).toInt32 = (63 : Int32) := by decide +kernel
theorem kb_m5 : (Int8.ofInt (-5)).toInt32 = (-5 : Int32) := by decide +kernel
theorem ks_720 : (Int16.ofInt 720).toInt32 = (720 : Int32) := by decide +kernel
theorem ks_128 : (Int16.ofInt 128).toInt32 = (128 : Int32) := by decide +kernel
theorem kl_0 : Int64.ofNat ((0 : Fin 2) : Nat) = (0 : Int64) := by decide +kernel
theorem kl_1 : Int64.ofNat ((1 : Fin 2) : Nat) = (1 : Int64) := by decide +kernel
theorem kb_20 : (Int8.ofInt 20).toInt32 = (20 : Int32) := by decide +kernel
theorem kb_124 : (Int8.ofInt 124).toInt32 = (124 : Int32) := by decide +kernel
theorem vi_124_126 : vp_in 124 126 := by unfold vp_in; decide
theorem tn_124 : (124 : Int32).toNatClampNeg = 124 := by decide
theorem kb_126 : (Int8.ofInt 126).toInt32 = (126 : Int32) := by decide +kernel
theorem ks_882 : (Int16.ofInt 882).toInt32 = (882 : Int32) := by decide +kernel
theorem kb_125 : (Int8.ofInt 125).toInt32 = (125 : Int32) := by decide +kernel
theorem vi_125_126 : vp_in 125 126 := by unfold vp_in; decide
theorem tn_125 : (125 : Int32).toNatClampNeg = 125 := by decide
theorem kb_84 : (Int8.ofInt 84).toInt32 = (84 : Int32) := by decide +kernel
theorem kb_99 : (Int8.ofInt 99).toInt32 = (99 : Int32) := by decide +kernel
theorem kb_112 : (Int8.ofInt 112).toInt32 = (112 : Int32) := by decide +kernel
theorem kb_100 : (Int8.ofInt 100).toInt32 = (100 : Int32) := by decide +kernel
theorem kb_114 : (Int8.ofInt 114).toInt32 = (114 : Int32) := by decide +kernel
theorem kb_98 : (Int8.ofInt 98).toInt32 = (98 : Int32) := by decide +kernel
theorem kb_111 : (Int8.ofInt 111).toInt32 = (111 : Int32) := by decide +kernel
theorem kb_110 : (Int8.ofInt 110).toInt32 = (110 : Int32) := by decide +kernel
theorem kb_116 : (Int8.ofInt 116).toInt32 = (116 : Int32) := by decide +kernel
theorem kb_101 : (Int8.ofInt 101).toInt32 = (101 : Int32) := by decide +kernel
theorem kb_53 : (Int8.ofInt 53).toInt32 = (53 : Int32) := by decide +kernel
theorem ks_1154 : (Int16.ofInt 1154).toInt32 = (1154 : Int32) := by decide +kernel
theorem ks_1008 : (Int16.ofInt 1008).toInt32 = (1008 : Int32) := by decide +kernel
theorem ks_1134 : (Int16.ofInt 1134).toInt32 = (1134 : Int32) := by decide +kernel
theorem ks_1142 : (Int16.ofInt 1142).toInt32 = (1142 : Int32) := by decide +kernel
theorem ks_1143 : (Int16.ofInt 1143).toInt32 = (1143 : Int32) := by decide +kernel
theorem ks_1144 : (Int16.ofInt 1144).toInt32 = (1144 : Int32) := by decide +kernel
theorem ks_1145 : (Int16.ofInt 1145).toInt32 = (1145 : Int32) := by decide +kernel
theorem wcX5_forceOf : Cond.code yX5_forceOf cX5_forceOf 5 (some .int) ∈ gG := gG_in (tin2 (List.mem_of_getElem? (i := 82) rfl)) rfl
theorem wiX5 : Cond.initialized RX5 ∈ gG := gG_in (tin1 (List.mem_of_getElem? (i := 2) rfl)) rfl
theorem wnX5_forceOf : Cond.instanceMethod yX5_forceOf ∈ gG := gG_in (tin2 (List.mem_of_getElem? (i := 80) rfl)) rfl
theorem wsX5_forceOf : Cond.selects RX5 yX5_forceOf yX5_forceOf ∈ gG := gG_in (tin2 (List.mem_of_getElem? (i := 81) rfl)) rfl
theorem wcX5_hasInk : Cond.code yX5_hasInk cX5_hasInk 3 (some .boolean) ∈ gG := gG_in (tin2 (List.mem_of_getElem? (i := 114) rfl)) rfl
theorem wnX5_hasInk : Cond.instanceMethod yX5_hasInk ∈ gG := gG_in (tin2 (List.mem_of_getElem? (i := 112) rfl)) rfl
theorem wsX5_hasInk : Cond.selects RX5 yX5_hasInk yX5_hasInk ∈ gG := gG_in (tin2 (List.mem_of_getElem? (i := 113) rfl)) rfl
theorem wcX4_placeOf : Cond.code yX4_placeOf cX4_placeOf 2 (some .int) ∈ gG := gG_in (tin2 (List.mem_of_getElem? (i := 129) rfl)) rfl
theorem wiX4 : Cond.initialized RX4 ∈ gG := gG_in (tin1 (List.mem_of_getElem? (i := 9) rfl)) rfl
theorem wtX4_placeOf : Cond.static yX4_placeOf ∈ gG := gG_in (tin2 (List.mem_of_getElem? (i := 128) rfl)) rfl
theorem wfX4_11 : Cond.fieldLink RX4 11 (TX4 0).1 (TX4 0).2.1 (TX4 0).2.2.1 ∈ gG := gG_in (tin1 (List.mem_of_getElem? (i := 87) rfl)) rfl
theorem wmX4_55 : Cond.methodLink RX4 55 yX4_placeOf ∈ gG := gG_in (tin2 (List.mem_of_getElem? (i := 127) rfl)) rfl
theorem wcX4_dentOf : Cond.code yX4_dentOf cX4_dentOf 3 (some .int) ∈ gG := gG_in (tin3 (List.mem_of_getElem? (i := 90) rfl)) rfl
theorem wnX4_dentOf : Cond.instanceMethod yX4_dentOf ∈ gG := gG_in (tin3 (List.mem_of_getElem? (i := 88) rfl)) rfl
theorem wsX4_dentOf : Cond.selects RX4 yX4_dentOf yX4_dentOf ∈ gG := gG_in (tin3 (List.mem_of_getElem? (i := 89) rfl)) rfl
theorem wcX4_noteCount : Cond.code yX4_noteCount cX4_noteCount 1 (some .int) ∈ gG := gG_in (tin2 (List.mem_of_getElem? (i := 63) rfl)) rfl
theorem wnX4_noteCount : Cond.instanceMethod yX4_noteCount ∈ gG := gG_in (tin2 (List.mem_of_getElem? (i := 61) rfl)) rfl
theorem wsX4_noteCount : Cond.selects RX4 yX4_noteCount yX4_noteCount ∈ gG := gG_in (tin2 (List.mem_of_getElem? (i := 62) rfl)) rfl
theorem wfX4_40 : Cond.fieldLink RX4 40 (TX4 9).1 (TX4 9).2.1 (TX4 9).2.2.1 ∈ gG := gG_in (tin1 (List.mem_of_getElem? (i := 109) rfl)) rfl
theorem wcX4_forceDown : Cond.code yX4_forceDown cX4_forceDown 3 (some .int) ∈ gG := gG_in (tin2 (List.mem_of_getElem? (i := 137) rfl)) rfl
theorem wnX4_forceDown : Cond.instanceMethod yX4_forceDown ∈ gG := gG_in (tin2 (List.mem_of_getElem? (i := 135) rfl)) rfl
theorem wsX4_forceDown : Cond.selects RX4 yX4_forceDown yX4_forceDown ∈ gG := gG_in (tin2 (List.mem_of_getElem? (i := 136) rfl)) rfl
theorem wfX4_37 : Cond.fieldLink RX4 37 (TX4 8).1 (TX4 8).2.1 (TX4 8).2.2.1 ∈ gG := gG_in (tin1 (List.mem_of_getElem? (i := 106) rfl)) rfl
theorem wmX4_80 : Cond.methodLink RX4 80 yX4_forceDown ∈ gG := gG_in (tin2 (List.mem_of_getElem? (i := 134) rfl)) rfl
theorem wcX4_forceOn : Cond.code yX4_forceOn cX4_forceOn 3 (some .int) ∈ gG := gG_in (tin2 (List.mem_of_getElem? (i := 133) rfl)) rfl
theorem wnX4_forceOn : Cond.instanceMethod yX4_forceOn ∈ gG := gG_in (tin2 (List.mem_of_getElem? (i := 131) rfl)) rfl
theorem wsX4_forceOn : Cond.selects RX4 yX4_forceOn yX4_forceOn ∈ gG := gG_in (tin2 (List.mem_of_getElem? (i := 132) rfl)) rfl
theorem wcX11_dentInto : Cond.code yX11_dentInto cX11_dentInto 6 none ∈ gG := gG_in (tin2 (List.mem_of_getElem? (i := 144) rfl)) rfl
theorem wiX11 : Cond.initialized RX11 ∈ gG := gG_in (tin1 (List.mem_of_getElem? (i := 1) rfl)) rfl
theorem wtX11_dentInto : Cond.static yX11_dentInto ∈ gG := gG_in (tin2 (List.mem_of_getElem? (i := 143) rfl)) rfl
theorem wfX2_9 : Cond.fieldLink RX2 9 (TX2 0).1 (TX2 0).2.1 (TX2 0).2.2.1 ∈ gG := gG_in (tin1 (List.mem_of_getElem? (i := 146) rfl)) rfl
theorem wmX2_25 : Cond.methodLink RX2 25 yX4_dentOf ∈ gG := gG_in (tin3 (List.mem_of_getElem? (i := 147) rfl)) rfl
theorem wfX2_15 : Cond.fieldLink RX2 15 (TX2 1).1 (TX2 1).2.1 (TX2 1).2.2.1 ∈ gG := gG_in (tin1 (List.mem_of_getElem? (i := 147) rfl)) rfl
theorem wmX2_31 : Cond.methodLink RX2 31 yX4_noteCount ∈ gG := gG_in (tin3 (List.mem_of_getElem? (i := 148) rfl)) rfl
theorem wfX2_35 : Cond.fieldLinkNest RX2 35 (TX4 7).1 (TX4 7).2.1 (TX4 7).2.2.1 "PressedPad" ∈ nW := nW_in (tin1 (List.mem_of_getElem? (i := 103) rfl)) rfl
theorem wmX2_38 : Cond.methodLink RX2 38 yX4_forceOn ∈ gG := gG_in (tin3 (List.mem_of_getElem? (i := 149) rfl)) rfl
theorem wmX2_41 : Cond.methodLinkNest RX2 41 yX11_dentInto "PressedPad" ∈ nW := nW_in (tin3 (List.mem_of_getElem? (i := 150) rfl)) rfl
theorem wcX2_look : Cond.code yX2_look cX2_look 5 none ∈ gG := gG_in (tin3 (List.mem_of_getElem? (i := 146) rfl)) rfl
theorem wiX2 : Cond.initialized RX2 ∈ gG := gG_in (tin1 (List.mem_of_getElem? (i := 10) rfl)) rfl
theorem wnX2_look : Cond.instanceMethod yX2_look ∈ gG := gG_in (tin3 (List.mem_of_getElem? (i := 144) rfl)) rfl
theorem wsX2_look : Cond.selects RX2 yX2_look yX2_look ∈ gG := gG_in (tin3 (List.mem_of_getElem? (i := 145) rfl)) rfl
theorem wfX2_18 : Cond.fieldLink RX2 18 (TX2 2).1 (TX2 2).2.1 (TX2 2).2.2.1 ∈ gG := gG_in (tin1 (List.mem_of_getElem? (i := 148) rfl)) rfl
theorem wfX2_22 : Cond.fieldLink RX2 22 (TX2 3).1 (TX2 3).2.1 (TX2 3).2.2.1 ∈ gG := gG_in (tin1 (List.mem_of_getElem? (i := 150) rfl)) rfl
theorem wcX2_guess : Cond.code yX2_guess cX2_guess 4 (some .boolean) ∈ gG := gG_in (tin3 (List.mem_of_getElem? (i := 154) rfl)) rfl
theorem wnX2_guess : Cond.instanceMethod yX2_guess ∈ gG := gG_in (tin3 (List.mem_of_getElem? (i := 152) rfl)) rfl
theorem wsX2_guess : Cond.selects RX2 yX2_guess yX2_guess ∈ gG := gG_in (tin3 (List.mem_of_getElem? (i := 153) rfl)) rfl
theorem wcX2_isFit : Cond.code yX2_isFit cX2_isFit 2 (some .boolean) ∈ gG := gG_in (tin3 (List.mem_of_getElem? (i := 168) rfl)) rfl
theorem wnX2_isFit : Cond.instanceMethod yX2_isFit ∈ gG := gG_in (tin3 (List.mem_of_getElem? (i := 166) rfl)) rfl
theorem wsX2_isFit : Cond.selects RX2 yX2_isFit yX2_isFit ∈ gG := gG_in (tin3 (List.mem_of_getElem? (i := 167) rfl)) rfl
theorem wfX4_22 : Cond.fieldLink RX4 22 (TX4 3).1 (TX4 3).2.1 (TX4 3).2.2.1 ∈ gG := gG_in (tin1 (List.mem_of_getElem? (i := 91) rfl)) rfl
theorem wfX4_25 : Cond.fieldLink RX4 25 (TX4 4).1 (TX4 4).2.1 (TX4 4).2.2.1 ∈ gG := gG_in (tin1 (List.mem_of_getElem? (i := 95) rfl)) rfl
theorem wfX4_18 : Cond.fieldLink RX4 18 (TX4 2).1 (TX4 2).2.1 (TX4 2).2.2.1 ∈ gG := gG_in (tin1 (List.mem_of_getElem? (i := 89) rfl)) rfl
theorem wfX4_46 : Cond.fieldLink RX4 46 (TX4 11).1 (TX4 11).2.1 (TX4 11).2.2.1 ∈ gG := gG_in (tin1 (List.mem_of_getElem? (i := 112) rfl)) rfl
theorem wcX4_beginAnew : Cond.code yX4_beginAnew cX4_beginAnew 3 none ∈ gG := gG_in (tin2 (List.mem_of_getElem? (i := 33) rfl)) rfl
theorem wnX4_beginAnew : Cond.instanceMethod yX4_beginAnew ∈ gG := gG_in (tin2 (List.mem_of_getElem? (i := 31) rfl)) rfl
theorem wsX4_beginAnew : Cond.selects RX4 yX4_beginAnew yX4_beginAnew ∈ gG := gG_in (tin2 (List.mem_of_getElem? (i := 32) rfl)) rfl
theorem wmX4_49 : Cond.methodLink RX4 49 arraycopyName ∈ gG := gG_in (tin2 (List.mem_of_getElem? (i := 72) rfl)) rfl
theorem wnat : Cond.native arraycopyName ∈ gG := gG_in (tin2 (List.mem_of_getElem? (i := 74) rfl)) rfl
theorem wsta : Cond.static arraycopyName ∈ gG := gG_in (tin2 (List.mem_of_getElem? (i := 73) rfl)) rfl
theorem wsys : Cond.initialized "java/lang/System" ∈ gG := gG_in (tin1 (List.mem_of_getElem? (i := 14) rfl)) rfl
theorem wfX4_15 : Cond.fieldLink RX4 15 (TX4 1).1 (TX4 1).2.1 (TX4 1).2.2.1 ∈ gG := gG_in (tin1 (List.mem_of_getElem? (i := 88) rfl)) rfl
theorem wfX4_28 : Cond.fieldLink RX4 28 (TX4 5).1 (TX4 5).2.1 (TX4 5).2.2.1 ∈ gG := gG_in (tin1 (List.mem_of_getElem? (i := 98) rfl)) rfl
theorem wfX4_31 : Cond.fieldLink RX4 31 (TX4 6).1 (TX4 6).2.1 (TX4 6).2.2.1 ∈ gG := gG_in (tin1 (List.mem_of_getElem? (i := 100) rfl)) rfl
theorem wfX4_34 : Cond.fieldLink RX4 34 (TX4 7).1 (TX4 7).2.1 (TX4 7).2.2.1 ∈ gG := gG_in (tin1 (List.mem_of_getElem? (i := 102) rfl)) rfl
theorem wfX4_43 : Cond.fieldLink RX4 43 (TX4 10).1 (TX4 10).2.1 (TX4 10).2.2.1 ∈ gG := gG_in (tin1 (List.mem_of_getElem? (i := 110) rfl)) rfl
theorem wcX4_copyFrom : Cond.code yX4_copyFrom cX4_copyFrom 2 none ∈ gG := gG_in (tin3 (List.mem_of_getElem? (i := 57) rfl)) rfl
theorem wnX4_copyFrom : Cond.instanceMethod yX4_copyFrom ∈ gG := gG_in (tin3 (List.mem_of_getElem? (i := 55) rfl)) rfl
theorem wsX4_copyFrom : Cond.selects RX4 yX4_copyFrom yX4_copyFrom ∈ gG := gG_in (tin3 (List.mem_of_getElem? (i := 56) rfl)) rfl
theorem wcX4_keepForUndo : Cond.code yX4_keepForUndo cX4_keepForUndo 1 none ∈ gG := gG_in (tin2 (List.mem_of_getElem? (i := 71) rfl)) rfl
theorem wnX4_keepForUndo : Cond.instanceMethod yX4_keepForUndo ∈ gG := gG_in (tin2 (List.mem_of_getElem? (i := 69) rfl)) rfl
theorem wsX4_keepForUndo : Cond.selects RX4 yX4_keepForUndo yX4_keepForUndo ∈ gG := gG_in (tin2 (List.mem_of_getElem? (i := 70) rfl)) rfl
theorem wcX4_goBack : Cond.code yX4_goBack cX4_goBack 1 none ∈ gG := gG_in (tin2 (List.mem_of_getElem? (i := 160) rfl)) rfl
theorem wnX4_goBack : Cond.instanceMethod yX4_goBack ∈ gG := gG_in (tin2 (List.mem_of_getElem? (i := 158) rfl)) rfl
theorem wsX4_goBack : Cond.selects RX4 yX4_goBack yX4_goBack ∈ gG := gG_in (tin2 (List.mem_of_getElem? (i := 159) rfl)) rfl
theorem wcX4_top : Cond.code yX4_top cX4_top 1 (some .int) ∈ gG := gG_in (tin3 (List.mem_of_getElem? (i := 78) rfl)) rfl
theorem wnX4_top : Cond.instanceMethod yX4_top ∈ gG := gG_in (tin3 (List.mem_of_getElem? (i := 76) rfl)) rfl
theorem wsX4_top : Cond.selects RX4 yX4_top yX4_top ∈ gG := gG_in (tin3 (List.mem_of_getElem? (i := 77) rfl)) rfl
theorem wcX4_isUsedUp : Cond.code yX4_isUsedUp cX4_isUsedUp 1 (some .boolean) ∈ gG := gG_in (tin2 (List.mem_of_getElem? (i := 55) rfl)) rfl
theorem wnX4_isUsedUp : Cond.instanceMethod yX4_isUsedUp ∈ gG := gG_in (tin2 (List.mem_of_getElem? (i := 53) rfl)) rfl
theorem wsX4_isUsedUp : Cond.selects RX4 yX4_isUsedUp yX4_isUsedUp ∈ gG := gG_in (tin2 (List.mem_of_getElem? (i := 54) rfl)) rfl
theorem wcX4_hasSheet : Cond.code yX4_hasSheet cX4_hasSheet 2 (some .boolean) ∈ gG := gG_in (tin3 (List.mem_of_getElem? (i := 66) rfl)) rfl
theorem wnX4_hasSheet : Cond.instanceMethod yX4_hasSheet ∈ gG := gG_in (tin3 (List.mem_of_getElem? (i := 64) rfl)) rfl
theorem wsX4_hasSheet : Cond.selects RX4 yX4_hasSheet yX4_hasSheet ∈ gG := gG_in (tin3 (List.mem_of_getElem? (i := 65) rfl)) rfl
theorem wcX4_hasSheets : Cond.code yX4_hasSheets cX4_hasSheets 2 (some .boolean) ∈ gG := gG_in (tin2 (List.mem_of_getElem? (i := 41) rfl)) rfl
theorem wnX4_hasSheets : Cond.instanceMethod yX4_hasSheets ∈ gG := gG_in (tin2 (List.mem_of_getElem? (i := 39) rfl)) rfl
theorem wsX4_hasSheets : Cond.selects RX4 yX4_hasSheets yX4_hasSheets ∈ gG := gG_in (tin2 (List.mem_of_getElem? (i := 40) rfl)) rfl
theorem wcX4_hasNote : Cond.code yX4_hasNote cX4_hasNote 2 (some .boolean) ∈ gG := gG_in (tin3 (List.mem_of_getElem? (i := 98) rfl)) rfl
theorem wnX4_hasNote : Cond.instanceMethod yX4_hasNote ∈ gG := gG_in (tin3 (List.mem_of_getElem? (i := 96) rfl)) rfl
theorem wsX4_hasNote : Cond.selects RX4 yX4_hasNote yX4_hasNote ∈ gG := gG_in (tin3 (List.mem_of_getElem? (i := 97) rfl)) rfl
theorem wcX4_hasNotes : Cond.code yX4_hasNotes cX4_hasNotes 2 (some .boolean) ∈ gG := gG_in (tin3 (List.mem_of_getElem? (i := 142) rfl)) rfl
theorem wnX4_hasNotes : Cond.instanceMethod yX4_hasNotes ∈ gG := gG_in (tin3 (List.mem_of_getElem? (i := 140) rfl)) rfl
theorem wsX4_hasNotes : Cond.selects RX4 yX4_hasNotes yX4_hasNotes ∈ gG := gG_in (tin3 (List.mem_of_getElem? (i := 141) rfl)) rfl
theorem wcX4_inkOf : Cond.code yX4_inkOf cX4_inkOf 2 (some .int) ∈ gG := gG_in (tin3 (List.mem_of_getElem? (i := 70) rfl)) rfl
theorem wnX4_inkOf : Cond.instanceMethod yX4_inkOf ∈ gG := gG_in (tin3 (List.mem_of_getElem? (i := 68) rfl)) rfl
theorem wsX4_inkOf : Cond.selects RX4 yX4_inkOf yX4_inkOf ∈ gG := gG_in (tin3 (List.mem_of_getElem? (i := 69) rfl)) rfl
theorem wcX4_copyOf : Cond.code yX4_copyOf cX4_copyOf 2 (some .int) ∈ gG := gG_in (tin3 (List.mem_of_getElem? (i := 74) rfl)) rfl
theorem wnX4_copyOf : Cond.instanceMethod yX4_copyOf ∈ gG := gG_in (tin3 (List.mem_of_getElem? (i := 72) rfl)) rfl
theorem wsX4_copyOf : Cond.selects RX4 yX4_copyOf yX4_copyOf ∈ gG := gG_in (tin3 (List.mem_of_getElem? (i := 73) rfl)) rfl
theorem wcX4_tearTop : Cond.code yX4_tearTop cX4_tearTop 1 (some .int) ∈ gG := gG_in (tin2 (List.mem_of_getElem? (i := 152) rfl)) rfl
theorem wnX4_tearTop : Cond.instanceMethod yX4_tearTop ∈ gG := gG_in (tin2 (List.mem_of_getElem? (i := 150) rfl)) rfl
theorem wsX4_tearTop : Cond.selects RX4 yX4_tearTop yX4_tearTop ∈ gG := gG_in (tin2 (List.mem_of_getElem? (i := 151) rfl)) rfl
theorem wmX4_76 : Cond.methodLinkNest RX4 76 yX11_dentInto "PressedPad" ∈ nW := nW_in (tin2 (List.mem_of_getElem? (i := 142) rfl)) rfl
theorem wcX4_pressInto : Cond.code yX4_pressInto cX4_pressInto 5 none ∈ gG := gG_in (tin2 (List.mem_of_getElem? (i := 141) rfl)) rfl
theorem wnX4_pressInto : Cond.instanceMethod yX4_pressInto ∈ gG := gG_in (tin2 (List.mem_of_getElem? (i := 140) rfl)) rfl
theorem wsX4_pressInto : Cond.selects RX4 yX4_pressInto yX4_pressInto ∈ gG := gG_in (tinp (List.mem_of_getElem? (i := 4) rfl)) rfl
theorem wmX4_59 : Cond.methodLink RX4 59 yX5_forceOf ∈ gG := gG_in (tin2 (List.mem_of_getElem? (i := 79) rfl)) rfl
theorem wmX4_65 : Cond.methodLink RX4 65 yX5_hasInk ∈ gG := gG_in (tin2 (List.mem_of_getElem? (i := 111) rfl)) rfl
theorem wmX4_69 : Cond.methodLink RX4 69 yX4_forceOn ∈ gG := gG_in (tin2 (List.mem_of_getElem? (i := 130) rfl)) rfl
theorem wmX4_72 : Cond.methodLink RX4 72 yX4_pressInto ∈ gG := gG_in (tin2 (List.mem_of_getElem? (i := 138) rfl)) rfl
theorem wcX4_putNote : Cond.code yX4_putNote cX4_putNote 8 (some .int) ∈ gG := gG_in (tin2 (List.mem_of_getElem? (i := 78) rfl)) rfl
theorem wnX4_putNote : Cond.instanceMethod yX4_putNote ∈ gG := gG_in (tin2 (List.mem_of_getElem? (i := 76) rfl)) rfl
theorem wsX4_putNote : Cond.selects RX4 yX4_putNote yX4_putNote ∈ gG := gG_in (tin2 (List.mem_of_getElem? (i := 77) rfl)) rfl
theorem wcX4_writtenOn : Cond.code yX4_writtenOn cX4_writtenOn 4 (some .int) ∈ gG := gG_in (tin3 (List.mem_of_getElem? (i := 82) rfl)) rfl
theorem wnX4_writtenOn : Cond.instanceMethod yX4_writtenOn ∈ gG := gG_in (tin3 (List.mem_of_getElem? (i := 80) rfl)) rfl
theorem wsX4_writtenOn : Cond.selects RX4 yX4_writtenOn yX4_writtenOn ∈ gG := gG_in (tin3 (List.mem_of_getElem? (i := 81) rfl)) rfl
theorem wcX4_cellsDented : Cond.code yX4_cellsDented cX4_cellsDented 3 (some .int) ∈ gG := gG_in (tin3 (List.mem_of_getElem? (i := 120) rfl)) rfl
theorem wnX4_cellsDented : Cond.instanceMethod yX4_cellsDented ∈ gG := gG_in (tin3 (List.mem_of_getElem? (i := 118) rfl)) rfl
theorem wsX4_cellsDented : Cond.selects RX4 yX4_cellsDented yX4_cellsDented ∈ gG := gG_in (tin3 (List.mem_of_getElem? (i := 119) rfl)) rfl
theorem wmX4_83 : Cond.methodLink RX4 83 yX4_cellsDented ∈ gG := gG_in (tin3 (List.mem_of_getElem? (i := 117) rfl)) rfl
theorem wcX4_dentedBy : Cond.code yX4_dentedBy cX4_dentedBy 4 (some .int) ∈ gG := gG_in (tin3 (List.mem_of_getElem? (i := 116) rfl)) rfl
theorem wnX4_dentedBy : Cond.instanceMethod yX4_dentedBy ∈ gG := gG_in (tin3 (List.mem_of_getElem? (i := 114) rfl)) rfl
theorem wsX4_dentedBy : Cond.selects RX4 yX4_dentedBy yX4_dentedBy ∈ gG := gG_in (tin3 (List.mem_of_getElem? (i := 115) rfl)) rfl
theorem wmX4_86 : Cond.methodLink RX4 86 yX4_dentOf ∈ gG := gG_in (tin3 (List.mem_of_getElem? (i := 134) rfl)) rfl
theorem wcX4_dentedAtLeast : Cond.code yX4_dentedAtLeast cX4_dentedAtLeast 5 (some .int) ∈ gG := gG_in (tin3 (List.mem_of_getElem? (i := 133) rfl)) rfl
theorem wnX4_dentedAtLeast : Cond.instanceMethod yX4_dentedAtLeast ∈ gG := gG_in (tin3 (List.mem_of_getElem? (i := 131) rfl)) rfl
theorem wsX4_dentedAtLeast : Cond.selects RX4 yX4_dentedAtLeast yX4_dentedAtLeast ∈ gG := gG_in (tin3 (List.mem_of_getElem? (i := 132) rfl)) rfl
theorem wlX4_89 : Cond.constantLong RX4 89 31 ∈ gG := gG_in (tin4 (List.mem_of_getElem? (i := 35) rfl)) rfl
theorem wcX4_digestFrom : Cond.code yX4_digestFrom cX4_digestFrom 7 (some .long) ∈ gG := gG_in (tin4 (List.mem_of_getElem? (i := 34) rfl)) rfl
theorem wnX4_digestFrom : Cond.instanceMethod yX4_digestFrom ∈ gG := gG_in (tin4 (List.mem_of_getElem? (i := 32) rfl)) rfl
theorem wsX4_digestFrom : Cond.selects RX4 yX4_digestFrom yX4_digestFrom ∈ gG := gG_in (tin4 (List.mem_of_getElem? (i := 33) rfl)) rfl
theorem wfX7_25 : Cond.fieldLink RX7 25 (TX7 4).1 (TX7 4).2.1 (TX7 4).2.2.1 ∈ gG := gG_in (tin1 (List.mem_of_getElem? (i := 195) rfl)) rfl
theorem wcX7_fault : Cond.code yX7_fault cX7_fault 1 (some .int) ∈ gG := gG_in (tin3 (List.mem_of_getElem? (i := 53) rfl)) rfl
theorem wiX7 : Cond.initialized RX7 ∈ gG := gG_in (tin1 (List.mem_of_getElem? (i := 12) rfl)) rfl
theorem wnX7_fault : Cond.instanceMethod yX7_fault ∈ gG := gG_in (tin3 (List.mem_of_getElem? (i := 51) rfl)) rfl
theorem wsX7_fault : Cond.selects RX7 yX7_fault yX7_fault ∈ gG := gG_in (tin3 (List.mem_of_getElem? (i := 52) rfl)) rfl
theorem wfX7_15 : Cond.fieldLink RX7 15 (TX7 1).1 (TX7 1).2.1 (TX7 1).2.2.1 ∈ gG := gG_in (tin1 (List.mem_of_getElem? (i := 191) rfl)) rfl
theorem wfX7_9 : Cond.fieldLink RX7 9 (TX7 0).1 (TX7 0).2.1 (TX7 0).2.2.1 ∈ gG := gG_in (tin1 (List.mem_of_getElem? (i := 189) rfl)) rfl
theorem wcX7_isWithin : Cond.code yX7_isWithin cX7_isWithin 4 (some .boolean) ∈ gG := gG_in (tin2 (List.mem_of_getElem? (i := 192) rfl)) rfl
theorem wnX7_isWithin : Cond.instanceMethod yX7_isWithin ∈ gG := gG_in (tin2 (List.mem_of_getElem? (i := 191) rfl)) rfl
theorem wsX7_isWithin : Cond.selects RX7 yX7_isWithin yX7_isWithin ∈ gG := gG_in (tinp (List.mem_of_getElem? (i := 6) rfl)) rfl
theorem wfX7_22 : Cond.fieldLink RX7 22 (TX7 3).1 (TX7 3).2.1 (TX7 3).2.2.1 ∈ gG := gG_in (tin1 (List.mem_of_getElem? (i := 194) rfl)) rfl
theorem wfX7_19 : Cond.fieldLink RX7 19 (TX7 2).1 (TX7 2).2.1 (TX7 2).2.2.1 ∈ gG := gG_in (tin1 (List.mem_of_getElem? (i := 193) rfl)) rfl
theorem wmX7_111 : Cond.methodLink RX7 111 yX7_isWithin ∈ gG := gG_in (tin2 (List.mem_of_getElem? (i := 189) rfl)) rfl
theorem wcX7_passWord : Cond.code yX7_passWord cX7_passWord 1 none ∈ gG := gG_in (tin2 (List.mem_of_getElem? (i := 196) rfl)) rfl
theorem wnX7_passWord : Cond.instanceMethod yX7_passWord ∈ gG := gG_in (tin2 (List.mem_of_getElem? (i := 195) rfl)) rfl
theorem wsX7_passWord : Cond.selects RX7 yX7_passWord yX7_passWord ∈ gG := gG_in (tinp (List.mem_of_getElem? (i := 7) rfl)) rfl
theorem wfX7_28 : Cond.fieldLink RX7 28 (TX7 5).1 (TX7 5).2.1 (TX7 5).2.2.1 ∈ gG := gG_in (tin1 (List.mem_of_getElem? (i := 196) rfl)) rfl
theorem wcX7_passFigures : Cond.code yX7_passFigures cX7_passFigures 1 none ∈ gG := gG_in (tin2 (List.mem_of_getElem? (i := 200) rfl)) rfl
theorem wnX7_passFigures : Cond.instanceMethod yX7_passFigures ∈ gG := gG_in (tin2 (List.mem_of_getElem? (i := 199) rfl)) rfl
theorem wsX7_passFigures : Cond.selects RX7 yX7_passFigures yX7_passFigures ∈ gG := gG_in (tinp (List.mem_of_getElem? (i := 8) rfl)) rfl
theorem wmX7_118 : Cond.methodLink RX7 118 yX7_passFigures ∈ gG := gG_in (tin2 (List.mem_of_getElem? (i := 197) rfl)) rfl
theorem wmX7_115 : Cond.methodLink RX7 115 yX7_passWord ∈ gG := gG_in (tin2 (List.mem_of_getElem? (i := 193) rfl)) rfl
theorem wcX7_step : Cond.code yX7_step cX7_step 1 none ∈ gG := gG_in (tin2 (List.mem_of_getElem? (i := 188) rfl)) rfl
theorem wnX7_step : Cond.instanceMethod yX7_step ∈ gG := gG_in (tin2 (List.mem_of_getElem? (i := 187) rfl)) rfl
theorem wsX7_step : Cond.selects RX7 yX7_step yX7_step ∈ gG := gG_in (tinp (List.mem_of_getElem? (i := 5) rfl)) rfl
theorem wmX7_103 : Cond.methodLink RX7 103 yJ0_length_8abf5 ∈ gG := gG_in (tin2 (List.mem_of_getElem? (i := 210) rfl)) rfl
theorem wmX7_107 : Cond.methodLink RX7 107 yJ0_charAt_5068e ∈ gG := gG_in (tin2 (List.mem_of_getElem? (i := 220) rfl)) rfl
theorem wcX7_isWord : Cond.code yX7_isWord cX7_isWord 3 (some .boolean) ∈ gG := gG_in (tin2 (List.mem_of_getElem? (i := 209) rfl)) rfl
theorem wnX7_isWord : Cond.instanceMethod yX7_isWord ∈ gG := gG_in (tin2 (List.mem_of_getElem? (i := 208) rfl)) rfl
theorem wsX7_isWord : Cond.selects RX7 yX7_isWord yX7_isWord ∈ gG := gG_in (tinp (List.mem_of_getElem? (i := 10) rfl)) rfl
theorem wcX7_isNumber : Cond.code yX7_isNumber cX7_isNumber 3 (some .boolean) ∈ gG := gG_in (tin3 (List.mem_of_getElem? (i := 21) rfl)) rfl
theorem wnX7_isNumber : Cond.instanceMethod yX7_isNumber ∈ gG := gG_in (tin3 (List.mem_of_getElem? (i := 20) rfl)) rfl
theorem wsX7_isNumber : Cond.selects RX7 yX7_isNumber yX7_isNumber ∈ gG := gG_in (tinp (List.mem_of_getElem? (i := 11) rfl)) rfl
theorem wmX7_37 : Cond.methodLink RX7 37 yX7_step ∈ gG := gG_in (tin2 (List.mem_of_getElem? (i := 185) rfl)) rfl
theorem wcX7_passStop : Cond.code yX7_passStop cX7_passStop 1 (some .boolean) ∈ gG := gG_in (tin3 (List.mem_of_getElem? (i := 26) rfl)) rfl
theorem wnX7_passStop : Cond.instanceMethod yX7_passStop ∈ gG := gG_in (tin3 (List.mem_of_getElem? (i := 25) rfl)) rfl
theorem wsX7_passStop : Cond.selects RX7 yX7_passStop yX7_passStop ∈ gG := gG_in (tinp (List.mem_of_getElem? (i := 12) rfl)) rfl
theorem wmX7_50 : Cond.methodLink RX7 50 yX7_isWord ∈ gG := gG_in (tin2 (List.mem_of_getElem? (i := 206) rfl)) rfl
theorem wmX7_54 : Cond.methodLink RX7 54 yX7_isNumber ∈ gG := gG_in (tin3 (List.mem_of_getElem? (i := 18) rfl)) rfl
theorem wmX7_58 : Cond.methodLink RX7 58 yX4_beginAnew ∈ gG := gG_in (tin3 (List.mem_of_getElem? (i := 22) rfl)) rfl
theorem wmX7_64 : Cond.methodLink RX7 64 yX7_passStop ∈ gG := gG_in (tin3 (List.mem_of_getElem? (i := 23) rfl)) rfl
theorem wcX7_readFirst : Cond.code yX7_readFirst cX7_readFirst 2 (some .boolean) ∈ gG := gG_in (tin2 (List.mem_of_getElem? (i := 204) rfl)) rfl
theorem wnX7_readFirst : Cond.instanceMethod yX7_readFirst ∈ gG := gG_in (tin2 (List.mem_of_getElem? (i := 203) rfl)) rfl
theorem wsX7_readFirst : Cond.selects RX7 yX7_readFirst yX7_readFirst ∈ gG := gG_in (tinp (List.mem_of_getElem? (i := 9) rfl)) rfl
theorem wfX7_97 : Cond.fieldLinkNest RX7 97 (TX4 3).1 (TX4 3).2.1 (TX4 3).2.2.1 "PressedPad" ∈ nW := nW_in (tin1 (List.mem_of_getElem? (i := 94) rfl)) rfl
theorem wfX7_100 : Cond.fieldLinkNest RX7 100 (TX4 4).1 (TX4 4).2.1 (TX4 4).2.2.1 "PressedPad" ∈ nW := nW_in (tin1 (List.mem_of_getElem? (i := 97) rfl)) rfl
theorem wcX7_readCarbon : Cond.code yX7_readCarbon cX7_readCarbon 2 (some .boolean) ∈ gG := gG_in (tin3 (List.mem_of_getElem? (i := 35) rfl)) rfl
theorem wnX7_readCarbon : Cond.instanceMethod yX7_readCarbon ∈ gG := gG_in (tin3 (List.mem_of_getElem? (i := 34) rfl)) rfl
theorem wsX7_readCarbon : Cond.selects RX7 yX7_readCarbon yX7_readCarbon ∈ gG := gG_in (tinp (List.mem_of_getElem? (i := 14) rfl)) rfl
theorem wfX7_31 : Cond.fieldLink RX7 31 (TX7 6).1 (TX7 6).2.1 (TX7 6).2.2.1 ∈ gG := gG_in (tin1 (List.mem_of_getElem? (i := 197) rfl)) rfl
theorem wfX7_34 : Cond.fieldLink RX7 34 (TX7 7).1 (TX7 7).2.1 (TX7 7).2.2.1 ∈ gG := gG_in (tin1 (List.mem_of_getElem? (i := 198) rfl)) rfl
theorem wcX7_readPen : Cond.code yX7_readPen cX7_readPen 1 (some .boolean) ∈ gG := gG_in (tin3 (List.mem_of_getElem? (i := 44) rfl)) rfl
theorem wnX7_readPen : Cond.instanceMethod yX7_readPen ∈ gG := gG_in (tin3 (List.mem_of_getElem? (i := 43) rfl)) rfl
theorem wsX7_readPen : Cond.selects RX7 yX7_readPen yX7_readPen ∈ gG := gG_in (tinp (List.mem_of_getElem? (i := 15) rfl)) rfl
theorem wcX7_readCells : Cond.code yX7_readCells cX7_readCells 4 (some .int) ∈ gG := gG_in (tin3 (List.mem_of_getElem? (i := 48) rfl)) rfl
theorem wnX7_readCells : Cond.instanceMethod yX7_readCells ∈ gG := gG_in (tin3 (List.mem_of_getElem? (i := 47) rfl)) rfl
theorem wsX7_readCells : Cond.selects RX7 yX7_readCells yX7_readCells ∈ gG := gG_in (tinp (List.mem_of_getElem? (i := 16) rfl)) rfl
theorem wmX7_81 : Cond.methodLink RX7 81 yX4_isUsedUp ∈ gG := gG_in (tin3 (List.mem_of_getElem? (i := 39) rfl)) rfl
theorem wmX7_87 : Cond.methodLink RX7 87 yX7_readPen ∈ gG := gG_in (tin3 (List.mem_of_getElem? (i := 41) rfl)) rfl
theorem wmX7_90 : Cond.methodLink RX7 90 yX7_readCells ∈ gG := gG_in (tin3 (List.mem_of_getElem? (i := 45) rfl)) rfl
theorem wmX7_93 : Cond.methodLink RX7 93 yX4_putNote ∈ gG := gG_in (tin3 (List.mem_of_getElem? (i := 49) rfl)) rfl
theorem wmX7_84 : Cond.methodLink RX7 84 yX4_tearTop ∈ gG := gG_in (tin3 (List.mem_of_getElem? (i := 40) rfl)) rfl
theorem wmX7_77 : Cond.methodLink RX7 77 yX4_noteCount ∈ gG := gG_in (tin3 (List.mem_of_getElem? (i := 38) rfl)) rfl
theorem wmX7_70 : Cond.methodLink RX7 70 yX7_readCarbon ∈ gG := gG_in (tin3 (List.mem_of_getElem? (i := 32) rfl)) rfl
theorem wcX7_readItem : Cond.code yX7_readItem cX7_readItem 6 (some .boolean) ∈ gG := gG_in (tin3 (List.mem_of_getElem? (i := 30) rfl)) rfl
theorem wnX7_readItem : Cond.instanceMethod yX7_readItem ∈ gG := gG_in (tin3 (List.mem_of_getElem? (i := 29) rfl)) rfl
theorem wsX7_readItem : Cond.selects RX7 yX7_readItem yX7_readItem ∈ gG := gG_in (tinp (List.mem_of_getElem? (i := 13) rfl)) rfl
theorem wmX7_40 : Cond.methodLink RX7 40 yX7_readFirst ∈ gG := gG_in (tin2 (List.mem_of_getElem? (i := 201) rfl)) rfl
theorem wmX7_44 : Cond.methodLink RX7 44 yX7_readItem ∈ gG := gG_in (tin3 (List.mem_of_getElem? (i := 27) rfl)) rfl
theorem wcX7_readInto : Cond.code yX7_readInto cX7_readInto 5 (some .int) ∈ gG := gG_in (tin2 (List.mem_of_getElem? (i := 184) rfl)) rfl
theorem wnX7_readInto : Cond.instanceMethod yX7_readInto ∈ gG := gG_in (tin2 (List.mem_of_getElem? (i := 182) rfl)) rfl
theorem wsX7_readInto : Cond.selects RX7 yX7_readInto yX7_readInto ∈ gG := gG_in (tin2 (List.mem_of_getElem? (i := 183) rfl)) rfl
theorem wfX8_9 : Cond.fieldLink RX8 9 (TX8 0).1 (TX8 0).2.1 (TX8 0).2.2.1 ∈ gG := gG_in (tin1 (List.mem_of_getElem? (i := 167) rfl)) rfl
theorem wcX8_sheetAt : Cond.code yX8_sheetAt cX8_sheetAt 2 (some .int) ∈ gG := gG_in (tin3 (List.mem_of_getElem? (i := 195) rfl)) rfl
theorem wiX8 : Cond.initialized RX8 ∈ gG := gG_in (tin1 (List.mem_of_getElem? (i := 11) rfl)) rfl
theorem wnX8_sheetAt : Cond.instanceMethod yX8_sheetAt ∈ gG := gG_in (tin3 (List.mem_of_getElem? (i := 193) rfl)) rfl
theorem wsX8_sheetAt : Cond.selects RX8 yX8_sheetAt yX8_sheetAt ∈ gG := gG_in (tin3 (List.mem_of_getElem? (i := 194) rfl)) rfl
theorem wfX8_21 : Cond.fieldLink RX8 21 (TX8 3).1 (TX8 3).2.1 (TX8 3).2.2.1 ∈ gG := gG_in (tin1 (List.mem_of_getElem? (i := 170) rfl)) rfl
theorem wmX8_45 : Cond.methodLink RX8 45 yX4_noteCount ∈ gG := gG_in (tin3 (List.mem_of_getElem? (i := 190) rfl)) rfl
theorem wfX8_49 : Cond.fieldLinkNest RX8 49 (TX4 8).1 (TX4 8).2.1 (TX4 8).2.2.1 "PressedPad" ∈ nW := nW_in (tin1 (List.mem_of_getElem? (i := 107) rfl)) rfl
theorem wfX8_15 : Cond.fieldLink RX8 15 (TX8 1).1 (TX8 1).2.1 (TX8 1).2.2.1 ∈ gG := gG_in (tin1 (List.mem_of_getElem? (i := 168) rfl)) rfl
theorem wmX8_52 : Cond.methodLink RX8 52 yX4_forceDown ∈ gG := gG_in (tin3 (List.mem_of_getElem? (i := 191) rfl)) rfl
theorem wfX8_55 : Cond.fieldLinkNest RX8 55 (TX4 7).1 (TX4 7).2.1 (TX4 7).2.2.1 "PressedPad" ∈ nW := nW_in (tin1 (List.mem_of_getElem? (i := 104) rfl)) rfl
theorem wfX8_18 : Cond.fieldLink RX8 18 (TX8 2).1 (TX8 2).2.1 (TX8 2).2.2.1 ∈ gG := gG_in (tin1 (List.mem_of_getElem? (i := 169) rfl)) rfl
theorem wcX8_mayLie : Cond.code yX8_mayLie cX8_mayLie 7 (some .boolean) ∈ gG := gG_in (tin3 (List.mem_of_getElem? (i := 189) rfl)) rfl
theorem wnX8_mayLie : Cond.instanceMethod yX8_mayLie ∈ gG := gG_in (tin3 (List.mem_of_getElem? (i := 188) rfl)) rfl
theorem wsX8_mayLie : Cond.selects RX8 yX8_mayLie yX8_mayLie ∈ gG := gG_in (tinp (List.mem_of_getElem? (i := 19) rfl)) rfl
theorem wfX8_28 : Cond.fieldLinkNest RX8 28 (TX4 3).1 (TX4 3).2.1 (TX4 3).2.2.1 "PressedPad" ∈ nW := nW_in (tin1 (List.mem_of_getElem? (i := 93) rfl)) rfl
theorem wfX8_24 : Cond.fieldLink RX8 24 (TX8 4).1 (TX8 4).2.1 (TX8 4).2.2.1 ∈ gG := gG_in (tin1 (List.mem_of_getElem? (i := 171) rfl)) rfl
theorem wmX8_41 : Cond.methodLink RX8 41 yX8_mayLie ∈ gG := gG_in (tin3 (List.mem_of_getElem? (i := 186) rfl)) rfl
theorem wmX8_37 : Cond.methodLink RX8 37 yX8_layFrom ∈ gG := gG_in (tin3 (List.mem_of_getElem? (i := 182) rfl)) rfl
theorem wcX8_layFrom : Cond.code yX8_layFrom cX8_layFrom 6 none ∈ gG := gG_in (tin3 (List.mem_of_getElem? (i := 185) rfl)) rfl
theorem wnX8_layFrom : Cond.instanceMethod yX8_layFrom ∈ gG := gG_in (tin3 (List.mem_of_getElem? (i := 184) rfl)) rfl
theorem wsX8_layFrom : Cond.selects RX8 yX8_layFrom yX8_layFrom ∈ gG := gG_in (tinp (List.mem_of_getElem? (i := 18) rfl)) rfl
theorem wmX8_33 : Cond.methodLink RX8 33 yX4_dentedAtLeast ∈ gG := gG_in (tin3 (List.mem_of_getElem? (i := 181) rfl)) rfl
theorem wcX8_search : Cond.code yX8_search cX8_search 5 (some .int) ∈ gG := gG_in (tin3 (List.mem_of_getElem? (i := 180) rfl)) rfl
theorem wnX8_search : Cond.instanceMethod yX8_search ∈ gG := gG_in (tin3 (List.mem_of_getElem? (i := 178) rfl)) rfl
theorem wsX8_search : Cond.selects RX8 yX8_search yX8_search ∈ gG := gG_in (tin3 (List.mem_of_getElem? (i := 179) rfl)) rfl
theorem wfX11_68 : Cond.fieldLink RX11 68 (TX11 12).1 (TX11 12).2.1 (TX11 12).2.2.1 ∈ gG := gG_in (tin1 (List.mem_of_getElem? (i := 228) rfl)) rfl
theorem wcX11_bad : Cond.code yX11_bad cX11_bad 2 (some .int) ∈ gG := gG_in (tin2 (List.mem_of_getElem? (i := 29) rfl)) rfl
theorem wnX11_bad : Cond.instanceMethod yX11_bad ∈ gG := gG_in (tin2 (List.mem_of_getElem? (i := 28) rfl)) rfl
theorem wsX11_bad : Cond.selects RX11 yX11_bad yX11_bad ∈ gG := gG_in (tinp (List.mem_of_getElem? (i := 0) rfl)) rfl
theorem wmX11_77 : Cond.methodLink RX11 77 yX11_bad ∈ gG := gG_in (tin2 (List.mem_of_getElem? (i := 26) rfl)) rfl
theorem wfX11_19 : Cond.fieldLink RX11 19 (TX11 1).1 (TX11 1).2.1 (TX11 1).2.2.1 ∈ gG := gG_in (tin1 (List.mem_of_getElem? (i := 217) rfl)) rfl
theorem wfX11_81 : Cond.fieldLinkNest RX11 81 (TX4 3).1 (TX4 3).2.1 (TX4 3).2.2.1 "PressedPad" ∈ nW := nW_in (tin1 (List.mem_of_getElem? (i := 92) rfl)) rfl
theorem wmX11_84 : Cond.methodLink RX11 84 yX4_beginAnew ∈ gG := gG_in (tin2 (List.mem_of_getElem? (i := 30) rfl)) rfl
theorem wcX11_pad : Cond.code yX11_pad cX11_pad 3 (some .int) ∈ gG := gG_in (tin2 (List.mem_of_getElem? (i := 25) rfl)) rfl
theorem wnX11_pad : Cond.instanceMethod yX11_pad ∈ gG := gG_in (tin2 (List.mem_of_getElem? (i := 23) rfl)) rfl
theorem wsX11_pad : Cond.selects RX11 yX11_pad yX11_pad ∈ gG := gG_in (tin2 (List.mem_of_getElem? (i := 24) rfl)) rfl
theorem wmX11_88 : Cond.methodLink RX11 88 yX4_hasSheets ∈ gG := gG_in (tin2 (List.mem_of_getElem? (i := 38) rfl)) rfl
theorem wfX11_92 : Cond.fieldLinkNest RX11 92 (TX4 4).1 (TX4 4).2.1 (TX4 4).2.2.1 "PressedPad" ∈ nW := nW_in (tin1 (List.mem_of_getElem? (i := 96) rfl)) rfl
theorem wcX11_carbons : Cond.code yX11_carbons cX11_carbons 3 (some .int) ∈ gG := gG_in (tin2 (List.mem_of_getElem? (i := 37) rfl)) rfl
theorem wnX11_carbons : Cond.instanceMethod yX11_carbons ∈ gG := gG_in (tin2 (List.mem_of_getElem? (i := 35) rfl)) rfl
theorem wsX11_carbons : Cond.selects RX11 yX11_carbons yX11_carbons ∈ gG := gG_in (tin2 (List.mem_of_getElem? (i := 36) rfl)) rfl
theorem wcX11_isPen : Cond.code yX11_isPen cX11_isPen 2 (some .boolean) ∈ gG := gG_in (tin2 (List.mem_of_getElem? (i := 48) rfl)) rfl
theorem wtX11_isPen : Cond.static yX11_isPen ∈ gG := gG_in (tin2 (List.mem_of_getElem? (i := 47) rfl)) rfl
theorem wcX11_isCells : Cond.code yX11_isCells cX11_isCells 1 (some .boolean) ∈ gG := gG_in (tin2 (List.mem_of_getElem? (i := 51) rfl)) rfl
theorem wtX11_isCells : Cond.static yX11_isCells ∈ gG := gG_in (tin2 (List.mem_of_getElem? (i := 50) rfl)) rfl
theorem wfX11_71 : Cond.fieldLink RX11 71 (TX11 13).1 (TX11 13).2.1 (TX11 13).2.2.1 ∈ gG := gG_in (tin1 (List.mem_of_getElem? (i := 229) rfl)) rfl
theorem wcX11_no : Cond.code yX11_no cX11_no 1 (some .int) ∈ gG := gG_in (tin2 (List.mem_of_getElem? (i := 59) rfl)) rfl
theorem wnX11_no : Cond.instanceMethod yX11_no ∈ gG := gG_in (tin2 (List.mem_of_getElem? (i := 58) rfl)) rfl
theorem wsX11_no : Cond.selects RX11 yX11_no yX11_no ∈ gG := gG_in (tinp (List.mem_of_getElem? (i := 1) rfl)) rfl
theorem wfX11_74 : Cond.fieldLink RX11 74 (TX11 14).1 (TX11 14).2.1 (TX11 14).2.2.1 ∈ gG := gG_in (tin1 (List.mem_of_getElem? (i := 230) rfl)) rfl
theorem wcX11_full : Cond.code yX11_full cX11_full 1 (some .int) ∈ gG := gG_in (tin2 (List.mem_of_getElem? (i := 67) rfl)) rfl
theorem wnX11_full : Cond.instanceMethod yX11_full ∈ gG := gG_in (tin2 (List.mem_of_getElem? (i := 66) rfl)) rfl
theorem wsX11_full : Cond.selects RX11 yX11_full yX11_full ∈ gG := gG_in (tinp (List.mem_of_getElem? (i := 2) rfl)) rfl
theorem wmX11_95 : Cond.methodLink RX11 95 yX11_isPen ∈ gG := gG_in (tin2 (List.mem_of_getElem? (i := 46) rfl)) rfl
theorem wmX11_99 : Cond.methodLink RX11 99 yX11_isCells ∈ gG := gG_in (tin2 (List.mem_of_getElem? (i := 49) rfl)) rfl
theorem wmX11_102 : Cond.methodLink RX11 102 yX4_isUsedUp ∈ gG := gG_in (tin2 (List.mem_of_getElem? (i := 52) rfl)) rfl
theorem wmX11_110 : Cond.methodLink RX11 110 yX4_noteCount ∈ gG := gG_in (tin2 (List.mem_of_getElem? (i := 60) rfl)) rfl
theorem wmX11_116 : Cond.methodLink RX11 116 yX4_keepForUndo ∈ gG := gG_in (tin2 (List.mem_of_getElem? (i := 68) rfl)) rfl
theorem wfX11_12 : Cond.fieldLink RX11 12 (TX11 0).1 (TX11 0).2.1 (TX11 0).2.2.1 ∈ gG := gG_in (tin1 (List.mem_of_getElem? (i := 216) rfl)) rfl
theorem wmX11_119 : Cond.methodLink RX11 119 yX4_putNote ∈ gG := gG_in (tin2 (List.mem_of_getElem? (i := 75) rfl)) rfl
theorem wmX11_113 : Cond.methodLink RX11 113 yX11_full ∈ gG := gG_in (tin2 (List.mem_of_getElem? (i := 64) rfl)) rfl
theorem wmX11_106 : Cond.methodLink RX11 106 yX11_no ∈ gG := gG_in (tin2 (List.mem_of_getElem? (i := 56) rfl)) rfl
theorem wcX11_write : Cond.code yX11_write cX11_write 4 (some .int) ∈ gG := gG_in (tin2 (List.mem_of_getElem? (i := 45) rfl)) rfl
theorem wnX11_write : Cond.instanceMethod yX11_write ∈ gG := gG_in (tin2 (List.mem_of_getElem? (i := 43) rfl)) rfl
theorem wsX11_write : Cond.selects RX11 yX11_write yX11_write ∈ gG := gG_in (tin2 (List.mem_of_getElem? (i := 44) rfl)) rfl
theorem wmX11_123 : Cond.methodLink RX11 123 yX4_tearTop ∈ gG := gG_in (tin2 (List.mem_of_getElem? (i := 149) rfl)) rfl
theorem wcX11_tear : Cond.code yX11_tear cX11_tear 1 (some .int) ∈ gG := gG_in (tin2 (List.mem_of_getElem? (i := 148) rfl)) rfl
theorem wnX11_tear : Cond.instanceMethod yX11_tear ∈ gG := gG_in (tin2 (List.mem_of_getElem? (i := 146) rfl)) rfl
theorem wsX11_tear : Cond.selects RX11 yX11_tear yX11_tear ∈ gG := gG_in (tin2 (List.mem_of_getElem? (i := 147) rfl)) rfl
theorem wfX11_126 : Cond.fieldLinkNest RX11 126 (TX4 2).1 (TX4 2).2.1 (TX4 2).2.2.1 "PressedPad" ∈ nW := nW_in (tin1 (List.mem_of_getElem? (i := 90) rfl)) rfl
theorem wmX11_129 : Cond.methodLink RX11 129 yX4_goBack ∈ gG := gG_in (tin2 (List.mem_of_getElem? (i := 157) rfl)) rfl
theorem wcX11_undo : Cond.code yX11_undo cX11_undo 1 (some .int) ∈ gG := gG_in (tin2 (List.mem_of_getElem? (i := 156) rfl)) rfl
theorem wnX11_undo : Cond.instanceMethod yX11_undo ∈ gG := gG_in (tin2 (List.mem_of_getElem? (i := 154) rfl)) rfl
theorem wsX11_undo : Cond.selects RX11 yX11_undo yX11_undo ∈ gG := gG_in (tin2 (List.mem_of_getElem? (i := 155) rfl)) rfl
theorem wfX11_132 : Cond.fieldLinkNest RX11 132 (TX4 11).1 (TX4 11).2.1 (TX4 11).2.2.1 "PressedPad" ∈ nW := nW_in (tin1 (List.mem_of_getElem? (i := 113) rfl)) rfl
theorem wfX11_135 : Cond.fieldLinkNest RX11 135 (TX4 10).1 (TX4 10).2.1 (TX4 10).2.2.1 "PressedPad" ∈ nW := nW_in (tin1 (List.mem_of_getElem? (i := 111) rfl)) rfl
theorem wcX11_word : Cond.code yX11_word cX11_word 2 (some .int) ∈ gG := gG_in (tin2 (List.mem_of_getElem? (i := 164) rfl)) rfl
theorem wnX11_word : Cond.instanceMethod yX11_word ∈ gG := gG_in (tin2 (List.mem_of_getElem? (i := 162) rfl)) rfl
theorem wsX11_word : Cond.selects RX11 yX11_word yX11_word ∈ gG := gG_in (tin2 (List.mem_of_getElem? (i := 163) rfl)) rfl
theorem wcX11_forget : Cond.code yX11_forget cX11_forget 2 (some .int) ∈ gG := gG_in (tin2 (List.mem_of_getElem? (i := 168) rfl)) rfl
theorem wnX11_forget : Cond.instanceMethod yX11_forget ∈ gG := gG_in (tin2 (List.mem_of_getElem? (i := 166) rfl)) rfl
theorem wsX11_forget : Cond.selects RX11 yX11_forget yX11_forget ∈ gG := gG_in (tin2 (List.mem_of_getElem? (i := 167) rfl)) rfl
theorem wfX11_49 : Cond.fieldLink RX11 49 (TX11 7).1 (TX11 7).2.1 (TX11 7).2.2.1 ∈ gG := gG_in (tin1 (List.mem_of_getElem? (i := 223) rfl)) rfl
theorem wfX11_138 : Cond.fieldLinkNest RX11 138 (TX7 1).1 (TX7 1).2.1 (TX7 1).2.2.1 "PressedPad" ∈ nW := nW_in (tin1 (List.mem_of_getElem? (i := 192) rfl)) rfl
theorem wfX11_141 : Cond.fieldLinkNest RX11 141 (TX7 0).1 (TX7 0).2.1 (TX7 0).2.2.1 "PressedPad" ∈ nW := nW_in (tin1 (List.mem_of_getElem? (i := 190) rfl)) rfl
theorem wcX11_type : Cond.code yX11_type cX11_type 2 (some .int) ∈ gG := gG_in (tin2 (List.mem_of_getElem? (i := 172) rfl)) rfl
theorem wnX11_type : Cond.instanceMethod yX11_type ∈ gG := gG_in (tin2 (List.mem_of_getElem? (i := 170) rfl)) rfl
theorem wsX11_type : Cond.selects RX11 yX11_type yX11_type ∈ gG := gG_in (tin2 (List.mem_of_getElem? (i := 171) rfl)) rfl
theorem wcX11_clear : Cond.code yX11_clear cX11_clear 2 (some .int) ∈ gG := gG_in (tin2 (List.mem_of_getElem? (i := 176) rfl)) rfl
theorem wnX11_clear : Cond.instanceMethod yX11_clear ∈ gG := gG_in (tin2 (List.mem_of_getElem? (i := 174) rfl)) rfl
theorem wsX11_clear : Cond.selects RX11 yX11_clear yX11_clear ∈ gG := gG_in (tin2 (List.mem_of_getElem? (i := 175) rfl)) rfl
theorem wfX11_23 : Cond.fieldLink RX11 23 (TX11 2).1 (TX11 2).2.1 (TX11 2).2.2.1 ∈ gG := gG_in (tin1 (List.mem_of_getElem? (i := 218) rfl)) rfl
theorem wmX11_144 : Cond.methodLink RX11 144 yX7_readInto ∈ gG := gG_in (tin2 (List.mem_of_getElem? (i := 181) rfl)) rfl
theorem wmX11_151 : Cond.methodLink RX11 151 yX4_copyFrom ∈ gG := gG_in (tin3 (List.mem_of_getElem? (i := 54) rfl)) rfl
theorem wmX11_148 : Cond.methodLink RX11 148 yX7_fault ∈ gG := gG_in (tin3 (List.mem_of_getElem? (i := 50) rfl)) rfl
theorem wcX11_read : Cond.code yX11_read cX11_read 2 (some .int) ∈ gG := gG_in (tin2 (List.mem_of_getElem? (i := 180) rfl)) rfl
theorem wnX11_read : Cond.instanceMethod yX11_read ∈ gG := gG_in (tin2 (List.mem_of_getElem? (i := 178) rfl)) rfl
theorem wsX11_read : Cond.selects RX11 yX11_read yX11_read ∈ gG := gG_in (tin2 (List.mem_of_getElem? (i := 179) rfl)) rfl
theorem wmX11_155 : Cond.methodLink RX11 155 yX4_hasSheet ∈ gG := gG_in (tin3 (List.mem_of_getElem? (i := 63) rfl)) rfl
theorem wmX11_158 : Cond.methodLink RX11 158 yX4_inkOf ∈ gG := gG_in (tin3 (List.mem_of_getElem? (i := 67) rfl)) rfl
theorem wmX11_161 : Cond.methodLink RX11 161 yX4_copyOf ∈ gG := gG_in (tin3 (List.mem_of_getElem? (i := 71) rfl)) rfl
theorem wmX11_164 : Cond.methodLink RX11 164 yX4_top ∈ gG := gG_in (tin3 (List.mem_of_getElem? (i := 75) rfl)) rfl
theorem wmX11_167 : Cond.methodLink RX11 167 yX4_writtenOn ∈ gG := gG_in (tin3 (List.mem_of_getElem? (i := 79) rfl)) rfl
theorem wcX11_of : Cond.code yX11_of cX11_of 3 (some .int) ∈ gG := gG_in (tin3 (List.mem_of_getElem? (i := 62) rfl)) rfl
theorem wnX11_of : Cond.instanceMethod yX11_of ∈ gG := gG_in (tin3 (List.mem_of_getElem? (i := 60) rfl)) rfl
theorem wsX11_of : Cond.selects RX11 yX11_of yX11_of ∈ gG := gG_in (tin3 (List.mem_of_getElem? (i := 61) rfl)) rfl
theorem wmX11_170 : Cond.methodLink RX11 170 yX4_dentOf ∈ gG := gG_in (tin3 (List.mem_of_getElem? (i := 87) rfl)) rfl
theorem wcX11_dent : Cond.code yX11_dent cX11_dent 3 (some .int) ∈ gG := gG_in (tin3 (List.mem_of_getElem? (i := 86) rfl)) rfl
theorem wnX11_dent : Cond.instanceMethod yX11_dent ∈ gG := gG_in (tin3 (List.mem_of_getElem? (i := 84) rfl)) rfl
theorem wsX11_dent : Cond.selects RX11 yX11_dent yX11_dent ∈ gG := gG_in (tin3 (List.mem_of_getElem? (i := 85) rfl)) rfl
theorem wmX11_174 : Cond.methodLink RX11 174 yX4_hasNote ∈ gG := gG_in (tin3 (List.mem_of_getElem? (i := 95) rfl)) rfl
theorem wfX11_177 : Cond.fieldLinkNest RX11 177 (TX4 5).1 (TX4 5).2.1 (TX4 5).2.2.1 "PressedPad" ∈ nW := nW_in (tin1 (List.mem_of_getElem? (i := 99) rfl)) rfl
theorem wfX11_180 : Cond.fieldLinkNest RX11 180 (TX4 6).1 (TX4 6).2.1 (TX4 6).2.2.1 "PressedPad" ∈ nW := nW_in (tin1 (List.mem_of_getElem? (i := 101) rfl)) rfl
theorem wfX11_183 : Cond.fieldLinkNest RX11 183 (TX4 7).1 (TX4 7).2.1 (TX4 7).2.2.1 "PressedPad" ∈ nW := nW_in (tin1 (List.mem_of_getElem? (i := 105) rfl)) rfl
theorem wfX11_186 : Cond.fieldLinkNest RX11 186 (TX4 8).1 (TX4 8).2.1 (TX4 8).2.2.1 "PressedPad" ∈ nW := nW_in (tin1 (List.mem_of_getElem? (i := 108) rfl)) rfl
theorem wmX11_189 : Cond.methodLink RX11 189 yX4_forceOn ∈ gG := gG_in (tin3 (List.mem_of_getElem? (i := 99) rfl)) rfl
theorem wmX11_192 : Cond.methodLink RX11 192 yX5_hasInk ∈ gG := gG_in (tin3 (List.mem_of_getElem? (i := 100) rfl)) rfl
theorem wcX11_about : Cond.code yX11_about cX11_about 3 (some .int) ∈ gG := gG_in (tin3 (List.mem_of_getElem? (i := 94) rfl)) rfl
theorem wnX11_about : Cond.instanceMethod yX11_about ∈ gG := gG_in (tin3 (List.mem_of_getElem? (i := 92) rfl)) rfl
theorem wsX11_about : Cond.selects RX11 yX11_about yX11_about ∈ gG := gG_in (tin3 (List.mem_of_getElem? (i := 93) rfl)) rfl
theorem wcX11_isDepth : Cond.code yX11_isDepth cX11_isDepth 1 (some .boolean) ∈ gG := gG_in (tin3 (List.mem_of_getElem? (i := 107) rfl)) rfl
theorem wtX11_isDepth : Cond.static yX11_isDepth ∈ gG := gG_in (tin3 (List.mem_of_getElem? (i := 106) rfl)) rfl
theorem wmX11_195 : Cond.methodLink RX11 195 yX11_isDepth ∈ gG := gG_in (tin3 (List.mem_of_getElem? (i := 105) rfl)) rfl
theorem wmX11_198 : Cond.methodLink RX11 198 yX5_forceOf ∈ gG := gG_in (tin3 (List.mem_of_getElem? (i := 108) rfl)) rfl
theorem wcX11_force : Cond.code yX11_force cX11_force 4 (some .int) ∈ gG := gG_in (tin3 (List.mem_of_getElem? (i := 104) rfl)) rfl
theorem wnX11_force : Cond.instanceMethod yX11_force ∈ gG := gG_in (tin3 (List.mem_of_getElem? (i := 102) rfl)) rfl
theorem wsX11_force : Cond.selects RX11 yX11_force yX11_force ∈ gG := gG_in (tin3 (List.mem_of_getElem? (i := 103) rfl)) rfl
theorem wmX11_202 : Cond.methodLink RX11 202 yX4_dentedBy ∈ gG := gG_in (tin3 (List.mem_of_getElem? (i := 113) rfl)) rfl
theorem wcX11_whose : Cond.code yX11_whose cX11_whose 2 (some .int) ∈ gG := gG_in (tin3 (List.mem_of_getElem? (i := 112) rfl)) rfl
theorem wnX11_whose : Cond.instanceMethod yX11_whose ∈ gG := gG_in (tin3 (List.mem_of_getElem? (i := 110) rfl)) rfl
theorem wsX11_whose : Cond.selects RX11 yX11_whose yX11_whose ∈ gG := gG_in (tin3 (List.mem_of_getElem? (i := 111) rfl)) rfl
theorem wmX11_205 : Cond.methodLink RX11 205 yX4_cellsDented ∈ gG := gG_in (tin3 (List.mem_of_getElem? (i := 125) rfl)) rfl
theorem wcX11_own : Cond.code yX11_own cX11_own 5 (some .int) ∈ gG := gG_in (tin3 (List.mem_of_getElem? (i := 124) rfl)) rfl
theorem wnX11_own : Cond.instanceMethod yX11_own ∈ gG := gG_in (tin3 (List.mem_of_getElem? (i := 122) rfl)) rfl
theorem wsX11_own : Cond.selects RX11 yX11_own yX11_own ∈ gG := gG_in (tin3 (List.mem_of_getElem? (i := 123) rfl)) rfl
theorem wmX11_208 : Cond.methodLink RX11 208 yX4_dentedAtLeast ∈ gG := gG_in (tin3 (List.mem_of_getElem? (i := 130) rfl)) rfl
theorem wcX11_shown : Cond.code yX11_shown cX11_shown 3 (some .int) ∈ gG := gG_in (tin3 (List.mem_of_getElem? (i := 129) rfl)) rfl
theorem wnX11_shown : Cond.instanceMethod yX11_shown ∈ gG := gG_in (tin3 (List.mem_of_getElem? (i := 127) rfl)) rfl
theorem wsX11_shown : Cond.selects RX11 yX11_shown yX11_shown ∈ gG := gG_in (tin3 (List.mem_of_getElem? (i := 128) rfl)) rfl
theorem wkJ6_265 : Cond.constant RJ6 265 1431655765 ∈ gG := gG_in (tin3 (List.mem_of_getElem? (i := 158) rfl)) rfl
theorem wkJ6_266 : Cond.constant RJ6 266 858993459 ∈ gG := gG_in (tin3 (List.mem_of_getElem? (i := 159) rfl)) rfl
theorem wkJ6_267 : Cond.constant RJ6 267 252645135 ∈ gG := gG_in (tin3 (List.mem_of_getElem? (i := 160) rfl)) rfl
theorem wcJ6_bitCount_0f7a4 : Cond.code yJ6_bitCount_0f7a4 cJ6_bitCount_0f7a4 1 (some .int) ∈ gG := gG_in (tin3 (List.mem_of_getElem? (i := 157) rfl)) rfl
theorem wiJ6 : Cond.initialized RJ6 ∈ gG := gG_in (tin1 (List.mem_of_getElem? (i := 19) rfl)) rfl
theorem wtJ6_bitCount_0f7a4 : Cond.static yJ6_bitCount_0f7a4 ∈ gG := gG_in (tin3 (List.mem_of_getElem? (i := 156) rfl)) rfl
theorem wfX11_35 : Cond.fieldLink RX11 35 (TX11 5).1 (TX11 5).2.1 (TX11 5).2.2.1 ∈ gG := gG_in (tin1 (List.mem_of_getElem? (i := 221) rfl)) rfl
theorem wmX11_235 : Cond.methodLink RX11 235 yX2_isFit ∈ gG := gG_in (tin3 (List.mem_of_getElem? (i := 165) rfl)) rfl
theorem wcX11_wordsThatFit : Cond.code yX11_wordsThatFit cX11_wordsThatFit 3 (some .int) ∈ gG := gG_in (tin3 (List.mem_of_getElem? (i := 164) rfl)) rfl
theorem wnX11_wordsThatFit : Cond.instanceMethod yX11_wordsThatFit ∈ gG := gG_in (tin3 (List.mem_of_getElem? (i := 163) rfl)) rfl
theorem wsX11_wordsThatFit : Cond.selects RX11 yX11_wordsThatFit yX11_wordsThatFit ∈ gG := gG_in (tinp (List.mem_of_getElem? (i := 17) rfl)) rfl
theorem wmX11_214 : Cond.methodLink RX11 214 yX2_look ∈ gG := gG_in (tin3 (List.mem_of_getElem? (i := 143) rfl)) rfl
theorem wmX11_218 : Cond.methodLink RX11 218 yX2_guess ∈ gG := gG_in (tin3 (List.mem_of_getElem? (i := 151) rfl)) rfl
theorem wfX11_221 : Cond.fieldLinkNest RX11 221 (TX2 2).1 (TX2 2).2.1 (TX2 2).2.2.1 "PressedPad" ∈ nW := nW_in (tin1 (List.mem_of_getElem? (i := 149) rfl)) rfl
theorem wfX11_224 : Cond.fieldLinkNest RX11 224 (TX2 3).1 (TX2 3).2.1 (TX2 3).2.2.1 "PressedPad" ∈ nW := nW_in (tin1 (List.mem_of_getElem? (i := 151) rfl)) rfl
theorem wmX11_227 : Cond.methodLink RX11 227 yJ6_bitCount_0f7a4 ∈ gG := gG_in (tin3 (List.mem_of_getElem? (i := 155) rfl)) rfl
theorem wmX11_232 : Cond.methodLink RX11 232 yX11_wordsThatFit ∈ gG := gG_in (tin3 (List.mem_of_getElem? (i := 161) rfl)) rfl
theorem wmX11_211 : Cond.methodLink RX11 211 yX4_hasNotes ∈ gG := gG_in (tin3 (List.mem_of_getElem? (i := 139) rfl)) rfl
theorem wcX11_lost : Cond.code yX11_lost cX11_lost 9 (some .int) ∈ gG := gG_in (tin3 (List.mem_of_getElem? (i := 138) rfl)) rfl
theorem wnX11_lost : Cond.instanceMethod yX11_lost ∈ gG := gG_in (tin3 (List.mem_of_getElem? (i := 136) rfl)) rfl
theorem wsX11_lost : Cond.selects RX11 yX11_lost yX11_lost ∈ gG := gG_in (tin3 (List.mem_of_getElem? (i := 137) rfl)) rfl
theorem wcX11_pen : Cond.code yX11_pen cX11_pen 11 (some .int) ∈ gG := gG_in (tin3 (List.mem_of_getElem? (i := 172) rfl)) rfl
theorem wnX11_pen : Cond.instanceMethod yX11_pen ∈ gG := gG_in (tin3 (List.mem_of_getElem? (i := 170) rfl)) rfl
theorem wsX11_pen : Cond.selects RX11 yX11_pen yX11_pen ∈ gG := gG_in (tin3 (List.mem_of_getElem? (i := 171) rfl)) rfl
theorem wfX11_42 : Cond.fieldLink RX11 42 (TX11 6).1 (TX11 6).2.1 (TX11 6).2.2.1 ∈ gG := gG_in (tin1 (List.mem_of_getElem? (i := 222) rfl)) rfl
theorem wmX11_238 : Cond.methodLink RX11 238 yX8_search ∈ gG := gG_in (tin3 (List.mem_of_getElem? (i := 177) rfl)) rfl
theorem wmX11_242 : Cond.methodLink RX11 242 yX8_sheetAt ∈ gG := gG_in (tin3 (List.mem_of_getElem? (i := 192) rfl)) rfl
theorem wcX11_orders : Cond.code yX11_orders cX11_orders 2 (some .int) ∈ gG := gG_in (tin3 (List.mem_of_getElem? (i := 176) rfl)) rfl
theorem wnX11_orders : Cond.instanceMethod yX11_orders ∈ gG := gG_in (tin3 (List.mem_of_getElem? (i := 174) rfl)) rfl
theorem wsX11_orders : Cond.selects RX11 yX11_orders yX11_orders ∈ gG := gG_in (tin3 (List.mem_of_getElem? (i := 175) rfl)) rfl
theorem wcX11_press : Cond.code yX11_press cX11_press 4 (some .int) ∈ gG := gG_in (tin3 (List.mem_of_getElem? (i := 199) rfl)) rfl
theorem wnX11_press : Cond.instanceMethod yX11_press ∈ gG := gG_in (tin3 (List.mem_of_getElem? (i := 197) rfl)) rfl
theorem wsX11_press : Cond.selects RX11 yX11_press yX11_press ∈ gG := gG_in (tin3 (List.mem_of_getElem? (i := 198) rfl)) rfl
theorem wcX11_copies : Cond.code yX11_copies cX11_copies 10 (some .int) ∈ gG := gG_in (tin3 (List.mem_of_getElem? (i := 203) rfl)) rfl
theorem wnX11_copies : Cond.instanceMethod yX11_copies ∈ gG := gG_in (tin3 (List.mem_of_getElem? (i := 201) rfl)) rfl
theorem wsX11_copies : Cond.selects RX11 yX11_copies yX11_copies ∈ gG := gG_in (tin3 (List.mem_of_getElem? (i := 202) rfl)) rfl
theorem wfX11_61 : Cond.fieldLink RX11 61 (TX11 10).1 (TX11 10).2.1 (TX11 10).2.2.1 ∈ gG := gG_in (tin1 (List.mem_of_getElem? (i := 226) rfl)) rfl
theorem wfX11_65 : Cond.fieldLink RX11 65 (TX11 11).1 (TX11 11).2.1 (TX11 11).2.2.1 ∈ gG := gG_in (tin1 (List.mem_of_getElem? (i := 227) rfl)) rfl
theorem wcX11_keepFraction : Cond.code yX11_keepFraction cX11_keepFraction 12 none ∈ gG := gG_in (tin3 (List.mem_of_getElem? (i := 212) rfl)) rfl
theorem wnX11_keepFraction : Cond.instanceMethod yX11_keepFraction ∈ gG := gG_in (tin3 (List.mem_of_getElem? (i := 211) rfl)) rfl
theorem wsX11_keepFraction : Cond.selects RX11 yX11_keepFraction yX11_keepFraction ∈ gG := gG_in (tinp (List.mem_of_getElem? (i := 20) rfl)) rfl
theorem wlX11_245 : Cond.constantLong RX11 245 10 ∈ gG := gG_in (tin3 (List.mem_of_getElem? (i := 208) rfl)) rfl
theorem wmX11_247 : Cond.methodLink RX11 247 yX11_keepFraction ∈ gG := gG_in (tin3 (List.mem_of_getElem? (i := 209) rfl)) rfl
theorem wcX11_rub : Cond.code yX11_rub cX11_rub 11 (some .int) ∈ gG := gG_in (tin3 (List.mem_of_getElem? (i := 207) rfl)) rfl
theorem wnX11_rub : Cond.instanceMethod yX11_rub ∈ gG := gG_in (tin3 (List.mem_of_getElem? (i := 205) rfl)) rfl
theorem wsX11_rub : Cond.selects RX11 yX11_rub yX11_rub ∈ gG := gG_in (tin3 (List.mem_of_getElem? (i := 206) rfl)) rfl
theorem wcX11_torn : Cond.code yX11_torn cX11_torn 3 (some .int) ∈ gG := gG_in (tin3 (List.mem_of_getElem? (i := 216) rfl)) rfl
theorem wnX11_torn : Cond.instanceMethod yX11_torn ∈ gG := gG_in (tin3 (List.mem_of_getElem? (i := 214) rfl)) rfl
theorem wsX11_torn : Cond.selects RX11 yX11_torn yX11_torn ∈ gG := gG_in (tin3 (List.mem_of_getElem? (i := 215) rfl)) rfl
theorem wlX11_281 : Cond.constantLong RX11 281 1103515245 ∈ gG := gG_in (tin3 (List.mem_of_getElem? (i := 225) rfl)) rfl
theorem wlX11_283 : Cond.constantLong RX11 283 12345 ∈ gG := gG_in (tin3 (List.mem_of_getElem? (i := 226) rfl)) rfl
theorem wlX11_285 : Cond.constantLong RX11 285 2147483648 ∈ gG := gG_in (tin3 (List.mem_of_getElem? (i := 227) rfl)) rfl
theorem wcX11_nextDraw : Cond.code yX11_nextDraw cX11_nextDraw 2 (some .long) ∈ gG := gG_in (tin3 (List.mem_of_getElem? (i := 224) rfl)) rfl
theorem wtX11_nextDraw : Cond.static yX11_nextDraw ∈ gG := gG_in (tin3 (List.mem_of_getElem? (i := 223) rfl)) rfl
theorem wlX11_287 : Cond.constantLong RX11 287 65536 ∈ gG := gG_in (tin3 (List.mem_of_getElem? (i := 231) rfl)) rfl
theorem wcX11_drawOf : Cond.code yX11_drawOf cX11_drawOf 3 (some .int) ∈ gG := gG_in (tin3 (List.mem_of_getElem? (i := 230) rfl)) rfl
theorem wtX11_drawOf : Cond.static yX11_drawOf ∈ gG := gG_in (tin3 (List.mem_of_getElem? (i := 229) rfl)) rfl
theorem wfX11_53 : Cond.fieldLink RX11 53 (TX11 8).1 (TX11 8).2.1 (TX11 8).2.2.1 ∈ gG := gG_in (tin1 (List.mem_of_getElem? (i := 224) rfl)) rfl
theorem wcX11_sumOfLast : Cond.code yX11_sumOfLast cX11_sumOfLast 3 (some .int) ∈ gG := gG_in (tin3 (List.mem_of_getElem? (i := 236) rfl)) rfl
theorem wnX11_sumOfLast : Cond.instanceMethod yX11_sumOfLast ∈ gG := gG_in (tin3 (List.mem_of_getElem? (i := 235) rfl)) rfl
theorem wsX11_sumOfLast : Cond.selects RX11 yX11_sumOfLast yX11_sumOfLast ∈ gG := gG_in (tinp (List.mem_of_getElem? (i := 21) rfl)) rfl
theorem wkX11_251 : Cond.constant RX11 251 999999 ∈ gG := gG_in (tin3 (List.mem_of_getElem? (i := 221) rfl)) rfl
theorem wmX11_252 : Cond.methodLink RX11 252 yX11_nextDraw ∈ gG := gG_in (tin3 (List.mem_of_getElem? (i := 222) rfl)) rfl
theorem wmX11_256 : Cond.methodLink RX11 256 yX11_drawOf ∈ gG := gG_in (tin3 (List.mem_of_getElem? (i := 228) rfl)) rfl
theorem wmX11_260 : Cond.methodLink RX11 260 yX11_dentInto ∈ gG := gG_in (tin3 (List.mem_of_getElem? (i := 232) rfl)) rfl
theorem wmX11_264 : Cond.methodLink RX11 264 yX11_sumOfLast ∈ gG := gG_in (tin3 (List.mem_of_getElem? (i := 233) rfl)) rfl
theorem wcX11_drawn : Cond.code yX11_drawn cX11_drawn 10 (some .int) ∈ gG := gG_in (tin3 (List.mem_of_getElem? (i := 220) rfl)) rfl
theorem wnX11_drawn : Cond.instanceMethod yX11_drawn ∈ gG := gG_in (tin3 (List.mem_of_getElem? (i := 218) rfl)) rfl
theorem wsX11_drawn : Cond.selects RX11 yX11_drawn yX11_drawn ∈ gG := gG_in (tin3 (List.mem_of_getElem? (i := 219) rfl)) rfl
theorem wcX11_part : Cond.code yX11_part cX11_part 2 (some .long) ∈ gG := gG_in (tin4 (List.mem_of_getElem? (i := 0) rfl)) rfl
theorem wnX11_part : Cond.instanceMethod yX11_part ∈ gG := gG_in (tin3 (List.mem_of_getElem? (i := 238) rfl)) rfl
theorem wsX11_part : Cond.selects RX11 yX11_part yX11_part ∈ gG := gG_in (tin3 (List.mem_of_getElem? (i := 239) rfl)) rfl
theorem wmX11_267 : Cond.methodLink RX11 267 yX11_imageOf ∈ gG := gG_in (tin4 (List.mem_of_getElem? (i := 5) rfl)) rfl
theorem wfX11_57 : Cond.fieldLink RX11 57 (TX11 9).1 (TX11 9).2.1 (TX11 9).2.2.1 ∈ gG := gG_in (tin1 (List.mem_of_getElem? (i := 225) rfl)) rfl
theorem wcX11_image : Cond.code yX11_image cX11_image 2 (some .int) ∈ gG := gG_in (tin4 (List.mem_of_getElem? (i := 4) rfl)) rfl
theorem wnX11_image : Cond.instanceMethod yX11_image ∈ gG := gG_in (tin4 (List.mem_of_getElem? (i := 2) rfl)) rfl
theorem wsX11_image : Cond.selects RX11 yX11_image yX11_image ∈ gG := gG_in (tin4 (List.mem_of_getElem? (i := 3) rfl)) rfl
theorem wcX11_from : Cond.code yX11_from cX11_from 2 (some .int) ∈ gG := gG_in (tin4 (List.mem_of_getElem? (i := 12) rfl)) rfl
theorem wnX11_from : Cond.instanceMethod yX11_from ∈ gG := gG_in (tin4 (List.mem_of_getElem? (i := 10) rfl)) rfl
theorem wsX11_from : Cond.selects RX11 yX11_from yX11_from ∈ gG := gG_in (tin4 (List.mem_of_getElem? (i := 11) rfl)) rfl
theorem wcX11_status : Cond.code yX11_status cX11_status 2 (some .int) ∈ gG := gG_in (tin4 (List.mem_of_getElem? (i := 16) rfl)) rfl
theorem wnX11_status : Cond.instanceMethod yX11_status ∈ gG := gG_in (tin4 (List.mem_of_getElem? (i := 14) rfl)) rfl
theorem wsX11_status : Cond.selects RX11 yX11_status yX11_status ∈ gG := gG_in (tin4 (List.mem_of_getElem? (i := 15) rfl)) rfl
theorem wcX11_amountOf : Cond.code yX11_amountOf cX11_amountOf 2 (some .int) ∈ gG := gG_in (tin4 (List.mem_of_getElem? (i := 24) rfl)) rfl
theorem wnX11_amountOf : Cond.instanceMethod yX11_amountOf ∈ gG := gG_in (tin4 (List.mem_of_getElem? (i := 23) rfl)) rfl
theorem wsX11_amountOf : Cond.selects RX11 yX11_amountOf yX11_amountOf ∈ gG := gG_in (tinp (List.mem_of_getElem? (i := 23) rfl)) rfl
theorem wmX11_271 : Cond.methodLink RX11 271 yX11_amountOf ∈ gG := gG_in (tin4 (List.mem_of_getElem? (i := 21) rfl)) rfl
theorem wcX11_count : Cond.code yX11_count cX11_count 2 (some .int) ∈ gG := gG_in (tin4 (List.mem_of_getElem? (i := 20) rfl)) rfl
theorem wnX11_count : Cond.instanceMethod yX11_count ∈ gG := gG_in (tin4 (List.mem_of_getElem? (i := 18) rfl)) rfl
theorem wsX11_count : Cond.selects RX11 yX11_count yX11_count ∈ gG := gG_in (tin4 (List.mem_of_getElem? (i := 19) rfl)) rfl
theorem wlX11_274 : Cond.constantLong RX11 274 919 ∈ gG := gG_in (tin4 (List.mem_of_getElem? (i := 29) rfl)) rfl
theorem wlX11_276 : Cond.constantLong RX11 276 31 ∈ gG := gG_in (tin4 (List.mem_of_getElem? (i := 30) rfl)) rfl
theorem wmX11_278 : Cond.methodLink RX11 278 yX4_digestFrom ∈ gG := gG_in (tin4 (List.mem_of_getElem? (i := 31) rfl)) rfl
theorem wcX11_digest : Cond.code yX11_digest cX11_digest 4 (some .long) ∈ gG := gG_in (tin4 (List.mem_of_getElem? (i := 28) rfl)) rfl
theorem wnX11_digest : Cond.instanceMethod yX11_digest ∈ gG := gG_in (tin4 (List.mem_of_getElem? (i := 26) rfl)) rfl
theorem wsX11_digest : Cond.selects RX11 yX11_digest yX11_digest ∈ gG := gG_in (tin4 (List.mem_of_getElem? (i := 27) rfl)) rfl
theorem wcX12_in : Cond.code yX12_in cX12_in 6 (some .boolean) ∈ gG := gG_in (tin4 (List.mem_of_getElem? (i := 141) rfl)) rfl
theorem wiX12 : Cond.initialized RX12 ∈ gG := gG_in (tin1 (List.mem_of_getElem? (i := 13) rfl)) rfl
theorem wtX12_in : Cond.static yX12_in ∈ gG := gG_in (tin4 (List.mem_of_getElem? (i := 140) rfl)) rfl
theorem wcX12_has : Cond.code yX12_has cX12_has 2 (some .boolean) ∈ gG := gG_in (tin4 (List.mem_of_getElem? (i := 191) rfl)) rfl
theorem wtX12_has : Cond.static yX12_has ∈ gG := gG_in (tin4 (List.mem_of_getElem? (i := 190) rfl)) rfl
theorem wcX12_ones : Cond.code yX12_ones cX12_ones 3 (some .int) ∈ gG := gG_in (tin5 (List.mem_of_getElem? (i := 85) rfl)) rfl
theorem wtX12_ones : Cond.static yX12_ones ∈ gG := gG_in (tin5 (List.mem_of_getElem? (i := 84) rfl)) rfl
theorem wfX12_27 : Cond.fieldLink RX12 27 (TX12 9).1 (TX12 9).2.1 (TX12 9).2.2.1 ∈ gG := gG_in (tin4 (List.mem_of_getElem? (i := 51) rfl)) rfl
theorem wcX12_refuse : Cond.code yX12_refuse cX12_refuse 3 (some .int) ∈ gG := gG_in (tin4 (List.mem_of_getElem? (i := 149) rfl)) rfl
theorem wnX12_refuse : Cond.instanceMethod yX12_refuse ∈ gG := gG_in (tin4 (List.mem_of_getElem? (i := 148) rfl)) rfl
theorem wsX12_refuse : Cond.selects RX12 yX12_refuse yX12_refuse ∈ gG := gG_in (tinp (List.mem_of_getElem? (i := 25) rfl)) rfl
theorem wmX12_52 : Cond.methodLink RX12 52 yX12_refuse ∈ gG := gG_in (tin4 (List.mem_of_getElem? (i := 146) rfl)) rfl
theorem wcX12_bad : Cond.code yX12_bad cX12_bad 1 (some .int) ∈ gG := gG_in (tin4 (List.mem_of_getElem? (i := 145) rfl)) rfl
theorem wnX12_bad : Cond.instanceMethod yX12_bad ∈ gG := gG_in (tin4 (List.mem_of_getElem? (i := 144) rfl)) rfl
theorem wsX12_bad : Cond.selects RX12 yX12_bad yX12_bad ∈ gG := gG_in (tinp (List.mem_of_getElem? (i := 24) rfl)) rfl
theorem wcX12_badLess : Cond.code yX12_badLess cX12_badLess 1 (some .int) ∈ gG := gG_in (tin5 (List.mem_of_getElem? (i := 21) rfl)) rfl
theorem wnX12_badLess : Cond.instanceMethod yX12_badLess ∈ gG := gG_in (tin5 (List.mem_of_getElem? (i := 20) rfl)) rfl
theorem wsX12_badLess : Cond.selects RX12 yX12_badLess yX12_badLess ∈ gG := gG_in (tinp (List.mem_of_getElem? (i := 37) rfl)) rfl
theorem wfX12_7 : Cond.fieldLink RX12 7 (TX12 0).1 (TX12 0).2.1 (TX12 0).2.2.1 ∈ gG := gG_in (tin4 (List.mem_of_getElem? (i := 42) rfl)) rfl
theorem wmX12_56 : Cond.methodLink RX12 56 yX12_in ∈ gG := gG_in (tin4 (List.mem_of_getElem? (i := 139) rfl)) rfl
theorem wcX12_isSheet : Cond.code yX12_isSheet cX12_isSheet 2 (some .boolean) ∈ gG := gG_in (tin5 (List.mem_of_getElem? (i := 17) rfl)) rfl
theorem wnX12_isSheet : Cond.instanceMethod yX12_isSheet ∈ gG := gG_in (tin5 (List.mem_of_getElem? (i := 16) rfl)) rfl
theorem wsX12_isSheet : Cond.selects RX12 yX12_isSheet yX12_isSheet ∈ gG := gG_in (tinp (List.mem_of_getElem? (i := 36) rfl)) rfl
theorem wfX12_17 : Cond.fieldLink RX12 17 (TX12 4).1 (TX12 4).2.1 (TX12 4).2.2.1 ∈ gG := gG_in (tin4 (List.mem_of_getElem? (i := 46) rfl)) rfl
theorem wcX12_areNotes : Cond.code yX12_areNotes cX12_areNotes 2 (some .boolean) ∈ gG := gG_in (tin5 (List.mem_of_getElem? (i := 69) rfl)) rfl
theorem wnX12_areNotes : Cond.instanceMethod yX12_areNotes ∈ gG := gG_in (tin5 (List.mem_of_getElem? (i := 68) rfl)) rfl
theorem wsX12_areNotes : Cond.selects RX12 yX12_areNotes yX12_areNotes ∈ gG := gG_in (tinp (List.mem_of_getElem? (i := 42) rfl)) rfl
theorem wlX12_60 : Cond.constantLong RX12 60 5 ∈ gG := gG_in (tin4 (List.mem_of_getElem? (i := 165) rfl)) rfl
theorem wlX12_62 : Cond.constantLong RX12 62 9 ∈ gG := gG_in (tin4 (List.mem_of_getElem? (i := 166) rfl)) rfl
theorem wcX12_isPen : Cond.code yX12_isPen cX12_isPen 2 (some .boolean) ∈ gG := gG_in (tin4 (List.mem_of_getElem? (i := 164) rfl)) rfl
theorem wtX12_isPen : Cond.static yX12_isPen ∈ gG := gG_in (tin4 (List.mem_of_getElem? (i := 163) rfl)) rfl
theorem wcX12_pencil : Cond.code yX12_pencil cX12_pencil 3 (some .int) ∈ gG := gG_in (tin4 (List.mem_of_getElem? (i := 188) rfl)) rfl
theorem wtX12_pencil : Cond.static yX12_pencil ∈ gG := gG_in (tin4 (List.mem_of_getElem? (i := 187) rfl)) rfl
theorem wmX12_64 : Cond.methodLink RX12 64 yX12_pencil ∈ gG := gG_in (tin4 (List.mem_of_getElem? (i := 186) rfl)) rfl
theorem wcX12_forceOf : Cond.code yX12_forceOf cX12_forceOf 3 (some .int) ∈ gG := gG_in (tin4 (List.mem_of_getElem? (i := 185) rfl)) rfl
theorem wtX12_forceOf : Cond.static yX12_forceOf ∈ gG := gG_in (tin4 (List.mem_of_getElem? (i := 184) rfl)) rfl
theorem wcX12_hasInk : Cond.code yX12_hasInk cX12_hasInk 1 (some .boolean) ∈ gG := gG_in (tin4 (List.mem_of_getElem? (i := 182) rfl)) rfl
theorem wtX12_hasInk : Cond.static yX12_hasInk ∈ gG := gG_in (tin4 (List.mem_of_getElem? (i := 181) rfl)) rfl
theorem wfX12_67 : Cond.fieldLink RX12 67 (TX12 1).1 (TX12 1).2.1 (TX12 1).2.2.1 ∈ gG := gG_in (tin4 (List.mem_of_getElem? (i := 43) rfl)) rfl
theorem wfX12_70 : Cond.fieldLink RX12 70 (TX12 6).1 (TX12 6).2.1 (TX12 6).2.2.1 ∈ gG := gG_in (tin4 (List.mem_of_getElem? (i := 48) rfl)) rfl
theorem wcX12_empty : Cond.code yX12_empty cX12_empty 2 none ∈ gG := gG_in (tin4 (List.mem_of_getElem? (i := 153) rfl)) rfl
theorem wnX12_empty : Cond.instanceMethod yX12_empty ∈ gG := gG_in (tin4 (List.mem_of_getElem? (i := 152) rfl)) rfl
theorem wsX12_empty : Cond.selects RX12 yX12_empty yX12_empty ∈ gG := gG_in (tinp (List.mem_of_getElem? (i := 26) rfl)) rfl
theorem wlX12_73 : Cond.constantLong RX12 73 6 ∈ gG := gG_in (tin4 (List.mem_of_getElem? (i := 138) rfl)) rfl
theorem wfX12_79 : Cond.fieldLink RX12 79 (TX12 3).1 (TX12 3).2.1 (TX12 3).2.2.1 ∈ gG := gG_in (tin4 (List.mem_of_getElem? (i := 45) rfl)) rfl
theorem wmX12_82 : Cond.methodLink RX12 82 yX12_empty ∈ gG := gG_in (tin4 (List.mem_of_getElem? (i := 150) rfl)) rfl
theorem wmX12_75 : Cond.methodLink RX12 75 yX12_bad ∈ gG := gG_in (tin4 (List.mem_of_getElem? (i := 142) rfl)) rfl
theorem wcX12_pad : Cond.code yX12_pad cX12_pad 3 (some .int) ∈ gG := gG_in (tin4 (List.mem_of_getElem? (i := 137) rfl)) rfl
theorem wnX12_pad : Cond.instanceMethod yX12_pad ∈ gG := gG_in (tin4 (List.mem_of_getElem? (i := 135) rfl)) rfl
theorem wsX12_pad : Cond.selects RX12 yX12_pad yX12_pad ∈ gG := gG_in (tin4 (List.mem_of_getElem? (i := 136) rfl)) rfl
theorem wcX12_carbons : Cond.code yX12_carbons cX12_carbons 3 (some .int) ∈ gG := gG_in (tin4 (List.mem_of_getElem? (i := 157) rfl)) rfl
theorem wnX12_carbons : Cond.instanceMethod yX12_carbons ∈ gG := gG_in (tin4 (List.mem_of_getElem? (i := 155) rfl)) rfl
theorem wsX12_carbons : Cond.selects RX12 yX12_carbons yX12_carbons ∈ gG := gG_in (tin4 (List.mem_of_getElem? (i := 156) rfl)) rfl
theorem wfX12_20 : Cond.fieldLink RX12 20 (TX12 5).1 (TX12 5).2.1 (TX12 5).2.2.1 ∈ gG := gG_in (tin4 (List.mem_of_getElem? (i := 47) rfl)) rfl
theorem wcX12_note : Cond.code yX12_note cX12_note 2 none ∈ gG := gG_in (tin4 (List.mem_of_getElem? (i := 171) rfl)) rfl
theorem wnX12_note : Cond.instanceMethod yX12_note ∈ gG := gG_in (tin4 (List.mem_of_getElem? (i := 170) rfl)) rfl
theorem wsX12_note : Cond.selects RX12 yX12_note yX12_note ∈ gG := gG_in (tinp (List.mem_of_getElem? (i := 27) rfl)) rfl
theorem wmX12_85 : Cond.methodLink RX12 85 yX12_hasInk ∈ gG := gG_in (tin4 (List.mem_of_getElem? (i := 180) rfl)) rfl
theorem wmX12_89 : Cond.methodLink RX12 89 yX12_forceOf ∈ gG := gG_in (tin4 (List.mem_of_getElem? (i := 183) rfl)) rfl
theorem wmX12_93 : Cond.methodLink RX12 93 yX12_has ∈ gG := gG_in (tin4 (List.mem_of_getElem? (i := 189) rfl)) rfl
theorem wcX12_dentAll : Cond.code yX12_dentAll cX12_dentAll 9 none ∈ gG := gG_in (tin4 (List.mem_of_getElem? (i := 179) rfl)) rfl
theorem wnX12_dentAll : Cond.instanceMethod yX12_dentAll ∈ gG := gG_in (tin4 (List.mem_of_getElem? (i := 178) rfl)) rfl
theorem wsX12_dentAll : Cond.selects RX12 yX12_dentAll yX12_dentAll ∈ gG := gG_in (tinp (List.mem_of_getElem? (i := 29) rfl)) rfl
theorem wmX12_97 : Cond.methodLink RX12 97 yX12_dentAll ∈ gG := gG_in (tin4 (List.mem_of_getElem? (i := 176) rfl)) rfl
theorem wcX12_writeNow : Cond.code yX12_writeNow cX12_writeNow 5 none ∈ gG := gG_in (tin4 (List.mem_of_getElem? (i := 175) rfl)) rfl
theorem wnX12_writeNow : Cond.instanceMethod yX12_writeNow ∈ gG := gG_in (tin4 (List.mem_of_getElem? (i := 174) rfl)) rfl
theorem wsX12_writeNow : Cond.selects RX12 yX12_writeNow yX12_writeNow ∈ gG := gG_in (tinp (List.mem_of_getElem? (i := 28) rfl)) rfl
theorem wmX12_101 : Cond.methodLink RX12 101 yX12_isPen ∈ gG := gG_in (tin4 (List.mem_of_getElem? (i := 162) rfl)) rfl
theorem wlX12_104 : Cond.constantLong RX12 104 4095 ∈ gG := gG_in (tin4 (List.mem_of_getElem? (i := 167) rfl)) rfl
theorem wmX12_106 : Cond.methodLink RX12 106 yX12_note ∈ gG := gG_in (tin4 (List.mem_of_getElem? (i := 168) rfl)) rfl
theorem wmX12_109 : Cond.methodLink RX12 109 yX12_writeNow ∈ gG := gG_in (tin4 (List.mem_of_getElem? (i := 172) rfl)) rfl
theorem wcX12_write : Cond.code yX12_write cX12_write 4 (some .int) ∈ gG := gG_in (tin4 (List.mem_of_getElem? (i := 161) rfl)) rfl
theorem wnX12_write : Cond.instanceMethod yX12_write ∈ gG := gG_in (tin4 (List.mem_of_getElem? (i := 159) rfl)) rfl
theorem wsX12_write : Cond.selects RX12 yX12_write yX12_write ∈ gG := gG_in (tin4 (List.mem_of_getElem? (i := 160) rfl)) rfl
theorem wcX12_tear : Cond.code yX12_tear cX12_tear 1 (some .int) ∈ gG := gG_in (tin4 (List.mem_of_getElem? (i := 195) rfl)) rfl
theorem wnX12_tear : Cond.instanceMethod yX12_tear ∈ gG := gG_in (tin4 (List.mem_of_getElem? (i := 193) rfl)) rfl
theorem wsX12_tear : Cond.selects RX12 yX12_tear yX12_tear ∈ gG := gG_in (tin4 (List.mem_of_getElem? (i := 194) rfl)) rfl
theorem wcX12_undo : Cond.code yX12_undo cX12_undo 2 (some .int) ∈ gG := gG_in (tin4 (List.mem_of_getElem? (i := 199) rfl)) rfl
theorem wnX12_undo : Cond.instanceMethod yX12_undo ∈ gG := gG_in (tin4 (List.mem_of_getElem? (i := 197) rfl)) rfl
theorem wsX12_undo : Cond.selects RX12 yX12_undo yX12_undo ∈ gG := gG_in (tin4 (List.mem_of_getElem? (i := 198) rfl)) rfl
theorem wfX12_13 : Cond.fieldLink RX12 13 (TX12 2).1 (TX12 2).2.1 (TX12 2).2.2.1 ∈ gG := gG_in (tin4 (List.mem_of_getElem? (i := 44) rfl)) rfl
theorem wcX12_word : Cond.code yX12_word cX12_word 2 (some .int) ∈ gG := gG_in (tin4 (List.mem_of_getElem? (i := 203) rfl)) rfl
theorem wnX12_word : Cond.instanceMethod yX12_word ∈ gG := gG_in (tin4 (List.mem_of_getElem? (i := 201) rfl)) rfl
theorem wsX12_word : Cond.selects RX12 yX12_word yX12_word ∈ gG := gG_in (tin4 (List.mem_of_getElem? (i := 202) rfl)) rfl
theorem wcX12_forget : Cond.code yX12_forget cX12_forget 2 (some .int) ∈ gG := gG_in (tin4 (List.mem_of_getElem? (i := 207) rfl)) rfl
theorem wnX12_forget : Cond.instanceMethod yX12_forget ∈ gG := gG_in (tin4 (List.mem_of_getElem? (i := 205) rfl)) rfl
theorem wsX12_forget : Cond.selects RX12 yX12_forget yX12_forget ∈ gG := gG_in (tin4 (List.mem_of_getElem? (i := 206) rfl)) rfl
theorem wlX12_112 : Cond.constantLong RX12 112 127 ∈ gG := gG_in (tin4 (List.mem_of_getElem? (i := 212) rfl)) rfl
theorem wfX12_114 : Cond.fieldLink RX12 114 (TX12 11).1 (TX12 11).2.1 (TX12 11).2.2.1 ∈ gG := gG_in (tin4 (List.mem_of_getElem? (i := 53) rfl)) rfl
theorem wfX12_30 : Cond.fieldLink RX12 30 (TX12 10).1 (TX12 10).2.1 (TX12 10).2.2.1 ∈ gG := gG_in (tin4 (List.mem_of_getElem? (i := 52) rfl)) rfl
theorem wcX12_type : Cond.code yX12_type cX12_type 2 (some .int) ∈ gG := gG_in (tin4 (List.mem_of_getElem? (i := 211) rfl)) rfl
theorem wnX12_type : Cond.instanceMethod yX12_type ∈ gG := gG_in (tin4 (List.mem_of_getElem? (i := 209) rfl)) rfl
theorem wsX12_type : Cond.selects RX12 yX12_type yX12_type ∈ gG := gG_in (tin4 (List.mem_of_getElem? (i := 210) rfl)) rfl
theorem wcX12_clear : Cond.code yX12_clear cX12_clear 2 (some .int) ∈ gG := gG_in (tin4 (List.mem_of_getElem? (i := 216) rfl)) rfl
theorem wnX12_clear : Cond.instanceMethod yX12_clear ∈ gG := gG_in (tin4 (List.mem_of_getElem? (i := 214) rfl)) rfl
theorem wsX12_clear : Cond.selects RX12 yX12_clear yX12_clear ∈ gG := gG_in (tin4 (List.mem_of_getElem? (i := 215) rfl)) rfl
theorem wcX12_byteAt : Cond.code yX12_byteAt cX12_byteAt 2 (some .int) ∈ gG := gG_in (tin4 (List.mem_of_getElem? (i := 232) rfl)) rfl
theorem wnX12_byteAt : Cond.instanceMethod yX12_byteAt ∈ gG := gG_in (tin4 (List.mem_of_getElem? (i := 231) rfl)) rfl
theorem wsX12_byteAt : Cond.selects RX12 yX12_byteAt yX12_byteAt ∈ gG := gG_in (tinp (List.mem_of_getElem? (i := 32) rfl)) rfl
theorem wfX12_117 : Cond.fieldLink RX12 117 (TX12 12).1 (TX12 12).2.1 (TX12 12).2.2.1 ∈ gG := gG_in (tin4 (List.mem_of_getElem? (i := 54) rfl)) rfl
theorem wfX12_120 : Cond.fieldLink RX12 120 (TX12 15).1 (TX12 15).2.1 (TX12 15).2.2.1 ∈ gG := gG_in (tin4 (List.mem_of_getElem? (i := 57) rfl)) rfl
theorem wcX12_isWord : Cond.code yX12_isWord cX12_isWord 9 (some .boolean) ∈ gG := gG_in (tin4 (List.mem_of_getElem? (i := 238) rfl)) rfl
theorem wnX12_isWord : Cond.instanceMethod yX12_isWord ∈ gG := gG_in (tin4 (List.mem_of_getElem? (i := 237) rfl)) rfl
theorem wsX12_isWord : Cond.selects RX12 yX12_isWord yX12_isWord ∈ gG := gG_in (tinp (List.mem_of_getElem? (i := 33) rfl)) rfl
theorem wmX12_123 : Cond.methodLink RX12 123 yX12_byteAt ∈ gG := gG_in (tin4 (List.mem_of_getElem? (i := 229) rfl)) rfl
theorem wfX12_127 : Cond.fieldLink RX12 127 (TX12 13).1 (TX12 13).2.1 (TX12 13).2.2.1 ∈ gG := gG_in (tin4 (List.mem_of_getElem? (i := 55) rfl)) rfl
theorem wfX12_130 : Cond.fieldLink RX12 130 (TX12 14).1 (TX12 14).2.1 (TX12 14).2.2.1 ∈ gG := gG_in (tin4 (List.mem_of_getElem? (i := 56) rfl)) rfl
theorem wlX12_133 : Cond.constantLong RX12 133 97 ∈ gG := gG_in (tin4 (List.mem_of_getElem? (i := 233) rfl)) rfl
theorem wlX12_135 : Cond.constantLong RX12 135 122 ∈ gG := gG_in (tin4 (List.mem_of_getElem? (i := 234) rfl)) rfl
theorem wlX12_141 : Cond.constantLong RX12 141 48 ∈ gG := gG_in (tin4 (List.mem_of_getElem? (i := 239) rfl)) rfl
theorem wlX12_143 : Cond.constantLong RX12 143 57 ∈ gG := gG_in (tin5 (List.mem_of_getElem? (i := 0) rfl)) rfl
theorem wmX12_137 : Cond.methodLink RX12 137 yX12_isWord ∈ gG := gG_in (tin4 (List.mem_of_getElem? (i := 235) rfl)) rfl
theorem wcX12_nextToken : Cond.code yX12_nextToken cX12_nextToken 1 none ∈ gG := gG_in (tin4 (List.mem_of_getElem? (i := 228) rfl)) rfl
theorem wnX12_nextToken : Cond.instanceMethod yX12_nextToken ∈ gG := gG_in (tin4 (List.mem_of_getElem? (i := 227) rfl)) rfl
theorem wsX12_nextToken : Cond.selects RX12 yX12_nextToken yX12_nextToken ∈ gG := gG_in (tinp (List.mem_of_getElem? (i := 31) rfl)) rfl
theorem wmX12_145 : Cond.methodLink RX12 145 yX12_nextToken ∈ gG := gG_in (tin4 (List.mem_of_getElem? (i := 225) rfl)) rfl
theorem wcX12_number : Cond.code yX12_number cX12_number 3 (some .boolean) ∈ gG := gG_in (tin5 (List.mem_of_getElem? (i := 4) rfl)) rfl
theorem wnX12_number : Cond.instanceMethod yX12_number ∈ gG := gG_in (tin5 (List.mem_of_getElem? (i := 3) rfl)) rfl
theorem wsX12_number : Cond.selects RX12 yX12_number yX12_number ∈ gG := gG_in (tinp (List.mem_of_getElem? (i := 34) rfl)) rfl
theorem wmX12_148 : Cond.methodLink RX12 148 yX12_number ∈ gG := gG_in (tin5 (List.mem_of_getElem? (i := 1) rfl)) rfl
theorem wfX12_33 : Cond.fieldLink RX12 33 (TX12 16).1 (TX12 16).2.1 (TX12 16).2.2.1 ∈ gG := gG_in (tin4 (List.mem_of_getElem? (i := 58) rfl)) rfl
theorem wlX12_151 : Cond.constantLong RX12 151 11 ∈ gG := gG_in (tin5 (List.mem_of_getElem? (i := 9) rfl)) rfl
theorem wcX12_readNote : Cond.code yX12_readNote cX12_readNote 4 (some .boolean) ∈ gG := gG_in (tin5 (List.mem_of_getElem? (i := 8) rfl)) rfl
theorem wnX12_readNote : Cond.instanceMethod yX12_readNote ∈ gG := gG_in (tin5 (List.mem_of_getElem? (i := 7) rfl)) rfl
theorem wsX12_readNote : Cond.selects RX12 yX12_readNote yX12_readNote ∈ gG := gG_in (tinp (List.mem_of_getElem? (i := 35) rfl)) rfl
theorem wfX12_153 : Cond.fieldLink RX12 153 (TX12 17).1 (TX12 17).2.1 (TX12 17).2.2.1 ∈ gG := gG_in (tin4 (List.mem_of_getElem? (i := 59) rfl)) rfl
theorem wfX12_156 : Cond.fieldLink RX12 156 (TX12 19).1 (TX12 19).2.1 (TX12 19).2.2.1 ∈ gG := gG_in (tin4 (List.mem_of_getElem? (i := 61) rfl)) rfl
theorem wfX12_159 : Cond.fieldLink RX12 159 (TX12 20).1 (TX12 20).2.1 (TX12 20).2.2.1 ∈ gG := gG_in (tin4 (List.mem_of_getElem? (i := 62) rfl)) rfl
theorem wfX12_162 : Cond.fieldLink RX12 162 (TX12 18).1 (TX12 18).2.1 (TX12 18).2.2.1 ∈ gG := gG_in (tin4 (List.mem_of_getElem? (i := 60) rfl)) rfl
theorem wmX12_165 : Cond.methodLink RX12 165 yX12_readNote ∈ gG := gG_in (tin5 (List.mem_of_getElem? (i := 5) rfl)) rfl
theorem wcX12_readPad : Cond.code yX12_readPad cX12_readPad 4 (some .boolean) ∈ gG := gG_in (tin4 (List.mem_of_getElem? (i := 224) rfl)) rfl
theorem wnX12_readPad : Cond.instanceMethod yX12_readPad ∈ gG := gG_in (tin4 (List.mem_of_getElem? (i := 223) rfl)) rfl
theorem wsX12_readPad : Cond.selects RX12 yX12_readPad yX12_readPad ∈ gG := gG_in (tinp (List.mem_of_getElem? (i := 30) rfl)) rfl
theorem wmX12_168 : Cond.methodLink RX12 168 yX12_readPad ∈ gG := gG_in (tin4 (List.mem_of_getElem? (i := 221) rfl)) rfl
theorem wcX12_read : Cond.code yX12_read cX12_read 3 (some .int) ∈ gG := gG_in (tin4 (List.mem_of_getElem? (i := 220) rfl)) rfl
theorem wnX12_read : Cond.instanceMethod yX12_read ∈ gG := gG_in (tin4 (List.mem_of_getElem? (i := 218) rfl)) rfl
theorem wsX12_read : Cond.selects RX12 yX12_read yX12_read ∈ gG := gG_in (tin4 (List.mem_of_getElem? (i := 219) rfl)) rfl
theorem wcX12_writtenOn : Cond.code yX12_writtenOn cX12_writtenOn 4 (some .int) ∈ gG := gG_in (tin5 (List.mem_of_getElem? (i := 25) rfl)) rfl
theorem wnX12_writtenOn : Cond.instanceMethod yX12_writtenOn ∈ gG := gG_in (tin5 (List.mem_of_getElem? (i := 24) rfl)) rfl
theorem wsX12_writtenOn : Cond.selects RX12 yX12_writtenOn yX12_writtenOn ∈ gG := gG_in (tinp (List.mem_of_getElem? (i := 38) rfl)) rfl
theorem wmX12_172 : Cond.methodLink RX12 172 yX12_isSheet ∈ gG := gG_in (tin5 (List.mem_of_getElem? (i := 14) rfl)) rfl
theorem wmX12_178 : Cond.methodLink RX12 178 yX12_writtenOn ∈ gG := gG_in (tin5 (List.mem_of_getElem? (i := 22) rfl)) rfl
theorem wmX12_175 : Cond.methodLink RX12 175 yX12_badLess ∈ gG := gG_in (tin5 (List.mem_of_getElem? (i := 18) rfl)) rfl
theorem wcX12_of : Cond.code yX12_of cX12_of 3 (some .int) ∈ gG := gG_in (tin5 (List.mem_of_getElem? (i := 13) rfl)) rfl
theorem wnX12_of : Cond.instanceMethod yX12_of ∈ gG := gG_in (tin5 (List.mem_of_getElem? (i := 11) rfl)) rfl
theorem wsX12_of : Cond.selects RX12 yX12_of yX12_of ∈ gG := gG_in (tin5 (List.mem_of_getElem? (i := 12) rfl)) rfl
theorem wcX12_dentOf : Cond.code yX12_dentOf cX12_dentOf 3 (some .int) ∈ gG := gG_in (tin5 (List.mem_of_getElem? (i := 33) rfl)) rfl
theorem wnX12_dentOf : Cond.instanceMethod yX12_dentOf ∈ gG := gG_in (tin5 (List.mem_of_getElem? (i := 32) rfl)) rfl
theorem wsX12_dentOf : Cond.selects RX12 yX12_dentOf yX12_dentOf ∈ gG := gG_in (tinp (List.mem_of_getElem? (i := 39) rfl)) rfl
theorem wmX12_181 : Cond.methodLink RX12 181 yX12_dentOf ∈ gG := gG_in (tin5 (List.mem_of_getElem? (i := 30) rfl)) rfl
theorem wcX12_dent : Cond.code yX12_dent cX12_dent 3 (some .int) ∈ gG := gG_in (tin5 (List.mem_of_getElem? (i := 29) rfl)) rfl
theorem wnX12_dent : Cond.instanceMethod yX12_dent ∈ gG := gG_in (tin5 (List.mem_of_getElem? (i := 27) rfl)) rfl
theorem wsX12_dent : Cond.selects RX12 yX12_dent yX12_dent ∈ gG := gG_in (tin5 (List.mem_of_getElem? (i := 28) rfl)) rfl
theorem wcX12_about : Cond.code yX12_about cX12_about 4 (some .int) ∈ gG := gG_in (tin5 (List.mem_of_getElem? (i := 37) rfl)) rfl
theorem wnX12_about : Cond.instanceMethod yX12_about ∈ gG := gG_in (tin5 (List.mem_of_getElem? (i := 35) rfl)) rfl
theorem wsX12_about : Cond.selects RX12 yX12_about yX12_about ∈ gG := gG_in (tin5 (List.mem_of_getElem? (i := 36) rfl)) rfl
theorem wcX12_force : Cond.code yX12_force cX12_force 4 (some .int) ∈ gG := gG_in (tin5 (List.mem_of_getElem? (i := 41) rfl)) rfl
theorem wnX12_force : Cond.instanceMethod yX12_force ∈ gG := gG_in (tin5 (List.mem_of_getElem? (i := 39) rfl)) rfl
theorem wsX12_force : Cond.selects RX12 yX12_force yX12_force ∈ gG := gG_in (tin5 (List.mem_of_getElem? (i := 40) rfl)) rfl
theorem wcX12_forceIn : Cond.code yX12_forceIn cX12_forceIn 6 (some .int) ∈ gG := gG_in (tin5 (List.mem_of_getElem? (i := 53) rfl)) rfl
theorem wnX12_forceIn : Cond.instanceMethod yX12_forceIn ∈ gG := gG_in (tin5 (List.mem_of_getElem? (i := 52) rfl)) rfl
theorem wsX12_forceIn : Cond.selects RX12 yX12_forceIn yX12_forceIn ∈ gG := gG_in (tinp (List.mem_of_getElem? (i := 41) rfl)) rfl
theorem wmX12_184 : Cond.methodLink RX12 184 yX12_forceIn ∈ gG := gG_in (tin5 (List.mem_of_getElem? (i := 50) rfl)) rfl
theorem wcX12_whoseOf : Cond.code yX12_whoseOf cX12_whoseOf 4 (some .int) ∈ gG := gG_in (tin5 (List.mem_of_getElem? (i := 49) rfl)) rfl
theorem wnX12_whoseOf : Cond.instanceMethod yX12_whoseOf ∈ gG := gG_in (tin5 (List.mem_of_getElem? (i := 48) rfl)) rfl
theorem wsX12_whoseOf : Cond.selects RX12 yX12_whoseOf yX12_whoseOf ∈ gG := gG_in (tinp (List.mem_of_getElem? (i := 40) rfl)) rfl
theorem wmX12_187 : Cond.methodLink RX12 187 yX12_whoseOf ∈ gG := gG_in (tin5 (List.mem_of_getElem? (i := 46) rfl)) rfl
theorem wcX12_whose : Cond.code yX12_whose cX12_whose 2 (some .int) ∈ gG := gG_in (tin5 (List.mem_of_getElem? (i := 45) rfl)) rfl
theorem wnX12_whose : Cond.instanceMethod yX12_whose ∈ gG := gG_in (tin5 (List.mem_of_getElem? (i := 43) rfl)) rfl
theorem wsX12_whose : Cond.selects RX12 yX12_whose yX12_whose ∈ gG := gG_in (tin5 (List.mem_of_getElem? (i := 44) rfl)) rfl
theorem wcX12_own : Cond.code yX12_own cX12_own 7 (some .int) ∈ gG := gG_in (tin5 (List.mem_of_getElem? (i := 57) rfl)) rfl
theorem wnX12_own : Cond.instanceMethod yX12_own ∈ gG := gG_in (tin5 (List.mem_of_getElem? (i := 55) rfl)) rfl
theorem wsX12_own : Cond.selects RX12 yX12_own yX12_own ∈ gG := gG_in (tin5 (List.mem_of_getElem? (i := 56) rfl)) rfl
theorem wcX12_shown : Cond.code yX12_shown cX12_shown 5 (some .int) ∈ gG := gG_in (tin5 (List.mem_of_getElem? (i := 61) rfl)) rfl
theorem wnX12_shown : Cond.instanceMethod yX12_shown ∈ gG := gG_in (tin5 (List.mem_of_getElem? (i := 59) rfl)) rfl
theorem wsX12_shown : Cond.selects RX12 yX12_shown yX12_shown ∈ gG := gG_in (tin5 (List.mem_of_getElem? (i := 60) rfl)) rfl
theorem wcX12_explained : Cond.code yX12_explained cX12_explained 7 (some .int) ∈ gG := gG_in (tin5 (List.mem_of_getElem? (i := 78) rfl)) rfl
theorem wnX12_explained : Cond.instanceMethod yX12_explained ∈ gG := gG_in (tin5 (List.mem_of_getElem? (i := 77) rfl)) rfl
theorem wsX12_explained : Cond.selects RX12 yX12_explained yX12_explained ∈ gG := gG_in (tinp (List.mem_of_getElem? (i := 44) rfl)) rfl
theorem wfX12_190 : Cond.fieldLink RX12 190 (TX12 21).1 (TX12 21).2.1 (TX12 21).2.2.1 ∈ gG := gG_in (tin4 (List.mem_of_getElem? (i := 63) rfl)) rfl
theorem wfX12_193 : Cond.fieldLink RX12 193 (TX12 22).1 (TX12 22).2.1 (TX12 22).2.2.1 ∈ gG := gG_in (tin4 (List.mem_of_getElem? (i := 64) rfl)) rfl
theorem wmX12_196 : Cond.methodLink RX12 196 yX12_explained ∈ gG := gG_in (tin5 (List.mem_of_getElem? (i := 75) rfl)) rfl
theorem wcX12_isLost : Cond.code yX12_isLost cX12_isLost 8 (some .boolean) ∈ gG := gG_in (tin5 (List.mem_of_getElem? (i := 74) rfl)) rfl
theorem wnX12_isLost : Cond.instanceMethod yX12_isLost ∈ gG := gG_in (tin5 (List.mem_of_getElem? (i := 73) rfl)) rfl
theorem wsX12_isLost : Cond.selects RX12 yX12_isLost yX12_isLost ∈ gG := gG_in (tinp (List.mem_of_getElem? (i := 43) rfl)) rfl
theorem wcX12_fits : Cond.code yX12_fits cX12_fits 2 (some .boolean) ∈ gG := gG_in (tin5 (List.mem_of_getElem? (i := 82) rfl)) rfl
theorem wnX12_fits : Cond.instanceMethod yX12_fits ∈ gG := gG_in (tin5 (List.mem_of_getElem? (i := 81) rfl)) rfl
theorem wsX12_fits : Cond.selects RX12 yX12_fits yX12_fits ∈ gG := gG_in (tinp (List.mem_of_getElem? (i := 45) rfl)) rfl
theorem wmX12_199 : Cond.methodLink RX12 199 yX12_areNotes ∈ gG := gG_in (tin5 (List.mem_of_getElem? (i := 66) rfl)) rfl
theorem wlX12_202 : Cond.constantLong RX12 202 3 ∈ gG := gG_in (tin5 (List.mem_of_getElem? (i := 70) rfl)) rfl
theorem wmX12_204 : Cond.methodLink RX12 204 yX12_isLost ∈ gG := gG_in (tin5 (List.mem_of_getElem? (i := 71) rfl)) rfl
theorem wmX12_208 : Cond.methodLink RX12 208 yX12_fits ∈ gG := gG_in (tin5 (List.mem_of_getElem? (i := 79) rfl)) rfl
theorem wmX12_211 : Cond.methodLink RX12 211 yX12_ones ∈ gG := gG_in (tin5 (List.mem_of_getElem? (i := 83) rfl)) rfl
theorem wcX12_lost : Cond.code yX12_lost cX12_lost 10 (some .int) ∈ gG := gG_in (tin5 (List.mem_of_getElem? (i := 65) rfl)) rfl
theorem wnX12_lost : Cond.instanceMethod yX12_lost ∈ gG := gG_in (tin5 (List.mem_of_getElem? (i := 63) rfl)) rfl
theorem wsX12_lost : Cond.selects RX12 yX12_lost yX12_lost ∈ gG := gG_in (tin5 (List.mem_of_getElem? (i := 64) rfl)) rfl
theorem wcX12_pen : Cond.code yX12_pen cX12_pen 10 (some .int) ∈ gG := gG_in (tin5 (List.mem_of_getElem? (i := 89) rfl)) rfl
theorem wnX12_pen : Cond.instanceMethod yX12_pen ∈ gG := gG_in (tin5 (List.mem_of_getElem? (i := 87) rfl)) rfl
theorem wsX12_pen : Cond.selects RX12 yX12_pen yX12_pen ∈ gG := gG_in (tin5 (List.mem_of_getElem? (i := 88) rfl)) rfl
theorem wfX12_36 : Cond.fieldLink RX12 36 (TX12 23).1 (TX12 23).2.1 (TX12 23).2.2.1 ∈ gG := gG_in (tin4 (List.mem_of_getElem? (i := 65) rfl)) rfl
theorem wcX12_exchange : Cond.code yX12_exchange cX12_exchange 4 none ∈ gG := gG_in (tin5 (List.mem_of_getElem? (i := 109) rfl)) rfl
theorem wnX12_exchange : Cond.instanceMethod yX12_exchange ∈ gG := gG_in (tin5 (List.mem_of_getElem? (i := 108) rfl)) rfl
theorem wsX12_exchange : Cond.selects RX12 yX12_exchange yX12_exchange ∈ gG := gG_in (tinp (List.mem_of_getElem? (i := 49) rfl)) rfl
theorem wmX12_214 : Cond.methodLink RX12 214 yX12_exchange ∈ gG := gG_in (tin5 (List.mem_of_getElem? (i := 106) rfl)) rfl
theorem wcX12_nextRow : Cond.code yX12_nextRow cX12_nextRow 5 (some .boolean) ∈ gG := gG_in (tin5 (List.mem_of_getElem? (i := 105) rfl)) rfl
theorem wnX12_nextRow : Cond.instanceMethod yX12_nextRow ∈ gG := gG_in (tin5 (List.mem_of_getElem? (i := 104) rfl)) rfl
theorem wsX12_nextRow : Cond.selects RX12 yX12_nextRow yX12_nextRow ∈ gG := gG_in (tinp (List.mem_of_getElem? (i := 48) rfl)) rfl
theorem wcX12_placeOf : Cond.code yX12_placeOf cX12_placeOf 3 (some .int) ∈ gG := gG_in (tin5 (List.mem_of_getElem? (i := 101) rfl)) rfl
theorem wnX12_placeOf : Cond.instanceMethod yX12_placeOf ∈ gG := gG_in (tin5 (List.mem_of_getElem? (i := 100) rfl)) rfl
theorem wsX12_placeOf : Cond.selects RX12 yX12_placeOf yX12_placeOf ∈ gG := gG_in (tinp (List.mem_of_getElem? (i := 47) rfl)) rfl
theorem wmX12_218 : Cond.methodLink RX12 218 yX12_placeOf ∈ gG := gG_in (tin5 (List.mem_of_getElem? (i := 98) rfl)) rfl
theorem wcX12_isRow : Cond.code yX12_isRow cX12_isRow 8 (some .boolean) ∈ gG := gG_in (tin5 (List.mem_of_getElem? (i := 97) rfl)) rfl
theorem wnX12_isRow : Cond.instanceMethod yX12_isRow ∈ gG := gG_in (tin5 (List.mem_of_getElem? (i := 96) rfl)) rfl
theorem wsX12_isRow : Cond.selects RX12 yX12_isRow yX12_isRow ∈ gG := gG_in (tinp (List.mem_of_getElem? (i := 46) rfl)) rfl
theorem wmX12_221 : Cond.methodLink RX12 221 yX12_isRow ∈ gG := gG_in (tin5 (List.mem_of_getElem? (i := 94) rfl)) rfl
theorem wmX12_224 : Cond.methodLink RX12 224 yX12_nextRow ∈ gG := gG_in (tin5 (List.mem_of_getElem? (i := 102) rfl)) rfl
theorem wfX12_39 : Cond.fieldLink RX12 39 (TX12 24).1 (TX12 24).2.1 (TX12 24).2.2.1 ∈ gG := gG_in (tin4 (List.mem_of_getElem? (i := 66) rfl)) rfl
theorem wcX12_orders : Cond.code yX12_orders cX12_orders 5 (some .int) ∈ gG := gG_in (tin5 (List.mem_of_getElem? (i := 93) rfl)) rfl
theorem wnX12_orders : Cond.instanceMethod yX12_orders ∈ gG := gG_in (tin5 (List.mem_of_getElem? (i := 91) rfl)) rfl
theorem wsX12_orders : Cond.selects RX12 yX12_orders yX12_orders ∈ gG := gG_in (tin5 (List.mem_of_getElem? (i := 92) rfl)) rfl
theorem wcX12_press : Cond.code yX12_press cX12_press 4 (some .int) ∈ gG := gG_in (tin5 (List.mem_of_getElem? (i := 113) rfl)) rfl
theorem wnX12_press : Cond.instanceMethod yX12_press ∈ gG := gG_in (tin5 (List.mem_of_getElem? (i := 111) rfl)) rfl
theorem wsX12_press : Cond.selects RX12 yX12_press yX12_press ∈ gG := gG_in (tin5 (List.mem_of_getElem? (i := 112) rfl)) rfl
theorem wcX12_copies : Cond.code yX12_copies cX12_copies 9 (some .int) ∈ gG := gG_in (tin5 (List.mem_of_getElem? (i := 117) rfl)) rfl
theorem wnX12_copies : Cond.instanceMethod yX12_copies ∈ gG := gG_in (tin5 (List.mem_of_getElem? (i := 115) rfl)) rfl
theorem wsX12_copies : Cond.selects RX12 yX12_copies yX12_copies ∈ gG := gG_in (tin5 (List.mem_of_getElem? (i := 116) rfl)) rfl
theorem wcX12_common : Cond.code yX12_common cX12_common 10 (some .long) ∈ gG := gG_in (tin5 (List.mem_of_getElem? (i := 125) rfl)) rfl
theorem wtX12_common : Cond.static yX12_common ∈ gG := gG_in (tin5 (List.mem_of_getElem? (i := 124) rfl)) rfl
theorem wfX12_227 : Cond.fieldLink RX12 227 (TX12 7).1 (TX12 7).2.1 (TX12 7).2.2.1 ∈ gG := gG_in (tin4 (List.mem_of_getElem? (i := 49) rfl)) rfl
theorem wfX12_23 : Cond.fieldLink RX12 23 (TX12 8).1 (TX12 8).2.1 (TX12 8).2.2.1 ∈ gG := gG_in (tin4 (List.mem_of_getElem? (i := 50) rfl)) rfl
theorem wlX12_230 : Cond.constantLong RX12 230 10 ∈ gG := gG_in (tin5 (List.mem_of_getElem? (i := 122) rfl)) rfl
theorem wmX12_232 : Cond.methodLink RX12 232 yX12_common ∈ gG := gG_in (tin5 (List.mem_of_getElem? (i := 123) rfl)) rfl
theorem wcX12_rub : Cond.code yX12_rub cX12_rub 6 (some .int) ∈ gG := gG_in (tin5 (List.mem_of_getElem? (i := 121) rfl)) rfl
theorem wnX12_rub : Cond.instanceMethod yX12_rub ∈ gG := gG_in (tin5 (List.mem_of_getElem? (i := 119) rfl)) rfl
theorem wsX12_rub : Cond.selects RX12 yX12_rub yX12_rub ∈ gG := gG_in (tin5 (List.mem_of_getElem? (i := 120) rfl)) rfl
theorem wcX12_torn : Cond.code yX12_torn cX12_torn 3 (some .int) ∈ gG := gG_in (tin5 (List.mem_of_getElem? (i := 129) rfl)) rfl
theorem wnX12_torn : Cond.instanceMethod yX12_torn ∈ gG := gG_in (tin5 (List.mem_of_getElem? (i := 127) rfl)) rfl
theorem wsX12_torn : Cond.selects RX12 yX12_torn yX12_torn ∈ gG := gG_in (tin5 (List.mem_of_getElem? (i := 128) rfl)) rfl
theorem wfX12_236 : Cond.fieldLink RX12 236 (TX12 26).1 (TX12 26).2.1 (TX12 26).2.2.1 ∈ gG := gG_in (tin4 (List.mem_of_getElem? (i := 68) rfl)) rfl
theorem wlX12_239 : Cond.constantLong RX12 239 1103515245 ∈ gG := gG_in (tin5 (List.mem_of_getElem? (i := 140) rfl)) rfl
theorem wlX12_241 : Cond.constantLong RX12 241 12345 ∈ gG := gG_in (tin5 (List.mem_of_getElem? (i := 141) rfl)) rfl
theorem wlX12_243 : Cond.constantLong RX12 243 2147483648 ∈ gG := gG_in (tin5 (List.mem_of_getElem? (i := 142) rfl)) rfl
theorem wlX12_245 : Cond.constantLong RX12 245 65536 ∈ gG := gG_in (tin5 (List.mem_of_getElem? (i := 143) rfl)) rfl
theorem wcX12_draw : Cond.code yX12_draw cX12_draw 2 (some .int) ∈ gG := gG_in (tin5 (List.mem_of_getElem? (i := 139) rfl)) rfl
theorem wnX12_draw : Cond.instanceMethod yX12_draw ∈ gG := gG_in (tin5 (List.mem_of_getElem? (i := 138) rfl)) rfl
theorem wsX12_draw : Cond.selects RX12 yX12_draw yX12_draw ∈ gG := gG_in (tinp (List.mem_of_getElem? (i := 50) rfl)) rfl
theorem wlX12_247 : Cond.constantLong RX12 247 999999 ∈ gG := gG_in (tin5 (List.mem_of_getElem? (i := 134) rfl)) rfl
theorem wlX12_249 : Cond.constantLong RX12 249 20 ∈ gG := gG_in (tin5 (List.mem_of_getElem? (i := 135) rfl)) rfl
theorem wfX12_42 : Cond.fieldLink RX12 42 (TX12 25).1 (TX12 25).2.1 (TX12 25).2.2.1 ∈ gG := gG_in (tin4 (List.mem_of_getElem? (i := 67) rfl)) rfl
theorem wmX12_251 : Cond.methodLink RX12 251 yX12_draw ∈ gG := gG_in (tin5 (List.mem_of_getElem? (i := 136) rfl)) rfl
theorem wcX12_drawn : Cond.code yX12_drawn cX12_drawn 6 (some .int) ∈ gG := gG_in (tin5 (List.mem_of_getElem? (i := 133) rfl)) rfl
theorem wnX12_drawn : Cond.instanceMethod yX12_drawn ∈ gG := gG_in (tin5 (List.mem_of_getElem? (i := 131) rfl)) rfl
theorem wsX12_drawn : Cond.selects RX12 yX12_drawn yX12_drawn ∈ gG := gG_in (tin5 (List.mem_of_getElem? (i := 132) rfl)) rfl
theorem wcX12_part : Cond.code yX12_part cX12_part 2 (some .long) ∈ gG := gG_in (tin5 (List.mem_of_getElem? (i := 147) rfl)) rfl
theorem wnX12_part : Cond.instanceMethod yX12_part ∈ gG := gG_in (tin5 (List.mem_of_getElem? (i := 145) rfl)) rfl
theorem wsX12_part : Cond.selects RX12 yX12_part yX12_part ∈ gG := gG_in (tin5 (List.mem_of_getElem? (i := 146) rfl)) rfl
theorem wcX12_carry : Cond.code yX12_carry cX12_carry 7 none ∈ gG := gG_in (tin5 (List.mem_of_getElem? (i := 155) rfl)) rfl
theorem wnX12_carry : Cond.instanceMethod yX12_carry ∈ gG := gG_in (tin5 (List.mem_of_getElem? (i := 154) rfl)) rfl
theorem wsX12_carry : Cond.selects RX12 yX12_carry yX12_carry ∈ gG := gG_in (tinp (List.mem_of_getElem? (i := 51) rfl)) rfl
theorem wfX12_49 : Cond.fieldLink RX12 49 (TX12 28).1 (TX12 28).2.1 (TX12 28).2.2.1 ∈ gG := gG_in (tin4 (List.mem_of_getElem? (i := 70) rfl)) rfl
theorem wmX12_254 : Cond.methodLink RX12 254 yX12_carry ∈ gG := gG_in (tin5 (List.mem_of_getElem? (i := 152) rfl)) rfl
theorem wfX12_45 : Cond.fieldLink RX12 45 (TX12 27).1 (TX12 27).2.1 (TX12 27).2.2.1 ∈ gG := gG_in (tin4 (List.mem_of_getElem? (i := 69) rfl)) rfl
theorem wcX12_image : Cond.code yX12_image cX12_image 3 (some .int) ∈ gG := gG_in (tin5 (List.mem_of_getElem? (i := 151) rfl)) rfl
theorem wnX12_image : Cond.instanceMethod yX12_image ∈ gG := gG_in (tin5 (List.mem_of_getElem? (i := 149) rfl)) rfl
theorem wsX12_image : Cond.selects RX12 yX12_image yX12_image ∈ gG := gG_in (tin5 (List.mem_of_getElem? (i := 150) rfl)) rfl
theorem wcX12_from : Cond.code yX12_from cX12_from 3 (some .int) ∈ gG := gG_in (tin5 (List.mem_of_getElem? (i := 159) rfl)) rfl
theorem wnX12_from : Cond.instanceMethod yX12_from ∈ gG := gG_in (tin5 (List.mem_of_getElem? (i := 157) rfl)) rfl
theorem wsX12_from : Cond.selects RX12 yX12_from yX12_from ∈ gG := gG_in (tin5 (List.mem_of_getElem? (i := 158) rfl)) rfl
theorem wlX12_258 : Cond.constantLong RX12 258 2 ∈ gG := gG_in (tin5 (List.mem_of_getElem? (i := 164) rfl)) rfl
theorem wcX12_status : Cond.code yX12_status cX12_status 2 (some .int) ∈ gG := gG_in (tin5 (List.mem_of_getElem? (i := 163) rfl)) rfl
theorem wnX12_status : Cond.instanceMethod yX12_status ∈ gG := gG_in (tin5 (List.mem_of_getElem? (i := 161) rfl)) rfl
theorem wsX12_status : Cond.selects RX12 yX12_status yX12_status ∈ gG := gG_in (tin5 (List.mem_of_getElem? (i := 162) rfl)) rfl
theorem wcX12_countOf : Cond.code yX12_countOf cX12_countOf 2 (some .int) ∈ gG := gG_in (tin5 (List.mem_of_getElem? (i := 172) rfl)) rfl
theorem wnX12_countOf : Cond.instanceMethod yX12_countOf ∈ gG := gG_in (tin5 (List.mem_of_getElem? (i := 171) rfl)) rfl
theorem wsX12_countOf : Cond.selects RX12 yX12_countOf yX12_countOf ∈ gG := gG_in (tinp (List.mem_of_getElem? (i := 52) rfl)) rfl
theorem wmX12_260 : Cond.methodLink RX12 260 yX12_countOf ∈ gG := gG_in (tin5 (List.mem_of_getElem? (i := 169) rfl)) rfl
theorem wcX12_count : Cond.code yX12_count cX12_count 2 (some .int) ∈ gG := gG_in (tin5 (List.mem_of_getElem? (i := 168) rfl)) rfl
theorem wnX12_count : Cond.instanceMethod yX12_count ∈ gG := gG_in (tin5 (List.mem_of_getElem? (i := 166) rfl)) rfl
theorem wsX12_count : Cond.selects RX12 yX12_count yX12_count ∈ gG := gG_in (tin5 (List.mem_of_getElem? (i := 167) rfl)) rfl
theorem wlX12_263 : Cond.constantLong RX12 263 31 ∈ gG := gG_in (tin5 (List.mem_of_getElem? (i := 182) rfl)) rfl
theorem wfX12_265 : Cond.fieldLink RX12 265 (TX12 29).1 (TX12 29).2.1 (TX12 29).2.2.1 ∈ gG := gG_in (tin4 (List.mem_of_getElem? (i := 71) rfl)) rfl
theorem wcX12_mix : Cond.code yX12_mix cX12_mix 3 none ∈ gG := gG_in (tin5 (List.mem_of_getElem? (i := 181) rfl)) rfl
theorem wnX12_mix : Cond.instanceMethod yX12_mix ∈ gG := gG_in (tin5 (List.mem_of_getElem? (i := 180) rfl)) rfl
theorem wsX12_mix : Cond.selects RX12 yX12_mix yX12_mix ∈ gG := gG_in (tinp (List.mem_of_getElem? (i := 53) rfl)) rfl
theorem wlX12_268 : Cond.constantLong RX12 268 919 ∈ gG := gG_in (tin5 (List.mem_of_getElem? (i := 177) rfl)) rfl
theorem wmX12_270 : Cond.methodLink RX12 270 yX12_mix ∈ gG := gG_in (tin5 (List.mem_of_getElem? (i := 178) rfl)) rfl
theorem wcX12_digest : Cond.code yX12_digest cX12_digest 3 (some .long) ∈ gG := gG_in (tin5 (List.mem_of_getElem? (i := 176) rfl)) rfl
theorem wnX12_digest : Cond.instanceMethod yX12_digest ∈ gG := gG_in (tin5 (List.mem_of_getElem? (i := 174) rfl)) rfl
theorem wsX12_digest : Cond.selects RX12 yX12_digest yX12_digest ∈ gG := gG_in (tin5 (List.mem_of_getElem? (i := 175) rfl)) rfl
theorem wyX11_0 : Cond.laysFinal "PressedPad" "PressedPad" "box" "LPressedPad$PenBox;" ∈ gG := gG_in (tin1 (List.mem_of_getElem? (i := 231) rfl)) rfl
theorem wyX11_1 : Cond.laysFinal "PressedPad" "PressedPad" "now" "LPressedPad$Pad;" ∈ gG := gG_in (tin1 (List.mem_of_getElem? (i := 233) rfl)) rfl
theorem wyX11_2 : Cond.laysFinal "PressedPad" "PressedPad" "draft" "LPressedPad$Pad;" ∈ gG := gG_in (tin1 (List.mem_of_getElem? (i := 235) rfl)) rfl
theorem wyX11_3 : Cond.laysFinal "PressedPad" "PressedPad" "firstImage" "LPressedPad$Pad;" ∈ gG := gG_in (tin1 (List.mem_of_getElem? (i := 237) rfl)) rfl
theorem wyX11_4 : Cond.laysFinal "PressedPad" "PressedPad" "secondImage" "LPressedPad$Pad;" ∈ gG := gG_in (tin1 (List.mem_of_getElem? (i := 239) rfl)) rfl
theorem wyX11_5 : Cond.laysFinal "PressedPad" "PressedPad" "trace" "LPressedPad$Lost;" ∈ gG := gG_in (tin2 (List.mem_of_getElem? (i := 1) rfl)) rfl
theorem wyX11_6 : Cond.laysFinal "PressedPad" "PressedPad" "rows" "LPressedPad$Rows;" ∈ gG := gG_in (tin2 (List.mem_of_getElem? (i := 3) rfl)) rfl
theorem wyX11_7 : Cond.laysFinal "PressedPad" "PressedPad" "reader" "LPressedPad$Reader;" ∈ gG := gG_in (tin2 (List.mem_of_getElem? (i := 5) rfl)) rfl
theorem wyX11_8 : Cond.laysFinal "PressedPad" "PressedPad" "lastDents" "[I" ∈ gG := gG_in (tin2 (List.mem_of_getElem? (i := 7) rfl)) rfl
theorem wyX11_9 : Cond.lays "PressedPad" "PressedPad" "keptImages" "I" ∈ gG := gG_in (tin2 (List.mem_of_getElem? (i := 9) rfl)) rfl
theorem wyX11_10 : Cond.lays "PressedPad" "PressedPad" "above" "J" ∈ gG := gG_in (tin2 (List.mem_of_getElem? (i := 11) rfl)) rfl
theorem wyX11_11 : Cond.lays "PressedPad" "PressedPad" "below" "J" ∈ gG := gG_in (tin2 (List.mem_of_getElem? (i := 13) rfl)) rfl
theorem wyX11_12 : Cond.lays "PressedPad" "PressedPad" "badCalls" "I" ∈ gG := gG_in (tin2 (List.mem_of_getElem? (i := 15) rfl)) rfl
theorem wyX11_13 : Cond.lays "PressedPad" "PressedPad" "noCalls" "I" ∈ gG := gG_in (tin2 (List.mem_of_getElem? (i := 17) rfl)) rfl
theorem wyX11_14 : Cond.lays "PressedPad" "PressedPad" "fullCalls" "I" ∈ gG := gG_in (tin2 (List.mem_of_getElem? (i := 19) rfl)) rfl
theorem wyX12_0 : Cond.lays "PressedPadModel" "PressedPadModel" "sheets" "I" ∈ gG := gG_in (tin4 (List.mem_of_getElem? (i := 72) rfl)) rfl
theorem wyX12_1 : Cond.lays "PressedPadModel" "PressedPadModel" "carbons" "I" ∈ gG := gG_in (tin4 (List.mem_of_getElem? (i := 74) rfl)) rfl
theorem wyX12_2 : Cond.laysFinal "PressedPadModel" "PressedPadModel" "words" "[I" ∈ gG := gG_in (tin4 (List.mem_of_getElem? (i := 76) rfl)) rfl
theorem wyX12_3 : Cond.lays "PressedPadModel" "PressedPadModel" "wordMany" "I" ∈ gG := gG_in (tin4 (List.mem_of_getElem? (i := 78) rfl)) rfl
theorem wyX12_4 : Cond.laysFinal "PressedPadModel" "PressedPadModel" "st" "[I" ∈ gG := gG_in (tin4 (List.mem_of_getElem? (i := 80) rfl)) rfl
theorem wyX12_5 : Cond.laysFinal "PressedPadModel" "PressedPadModel" "ahead" "[I" ∈ gG := gG_in (tin4 (List.mem_of_getElem? (i := 82) rfl)) rfl
theorem wyX12_6 : Cond.lays "PressedPadModel" "PressedPadModel" "undoMany" "I" ∈ gG := gG_in (tin4 (List.mem_of_getElem? (i := 84) rfl)) rfl
theorem wyX12_7 : Cond.lays "PressedPadModel" "PressedPadModel" "above" "J" ∈ gG := gG_in (tin4 (List.mem_of_getElem? (i := 86) rfl)) rfl
theorem wyX12_8 : Cond.lays "PressedPadModel" "PressedPadModel" "below" "J" ∈ gG := gG_in (tin4 (List.mem_of_getElem? (i := 88) rfl)) rfl
theorem wyX12_9 : Cond.laysFinal "PressedPadModel" "PressedPadModel" "refused" "[I" ∈ gG := gG_in (tin4 (List.mem_of_getElem? (i := 90) rfl)) rfl
theorem wyX12_10 : Cond.laysFinal "PressedPadModel" "PressedPadModel" "text" "[I" ∈ gG := gG_in (tin4 (List.mem_of_getElem? (i := 92) rfl)) rfl
theorem wyX12_11 : Cond.lays "PressedPadModel" "PressedPadModel" "bytes" "I" ∈ gG := gG_in (tin4 (List.mem_of_getElem? (i := 94) rfl)) rfl
theorem wyX12_12 : Cond.lays "PressedPadModel" "PressedPadModel" "place" "I" ∈ gG := gG_in (tin4 (List.mem_of_getElem? (i := 96) rfl)) rfl
theorem wyX12_13 : Cond.lays "PressedPadModel" "PressedPadModel" "token" "I" ∈ gG := gG_in (tin4 (List.mem_of_getElem? (i := 98) rfl)) rfl
theorem wyX12_14 : Cond.lays "PressedPadModel" "PressedPadModel" "value" "I" ∈ gG := gG_in (tin4 (List.mem_of_getElem? (i := 100) rfl)) rfl
theorem wyX12_15 : Cond.lays "PressedPadModel" "PressedPadModel" "begins" "I" ∈ gG := gG_in (tin4 (List.mem_of_getElem? (i := 102) rfl)) rfl
theorem wyX12_16 : Cond.laysFinal "PressedPadModel" "PressedPadModel" "read" "[I" ∈ gG := gG_in (tin4 (List.mem_of_getElem? (i := 104) rfl)) rfl
theorem wyX12_17 : Cond.lays "PressedPadModel" "PressedPadModel" "items" "I" ∈ gG := gG_in (tin4 (List.mem_of_getElem? (i := 106) rfl)) rfl
theorem wyX12_18 : Cond.lays "PressedPadModel" "PressedPadModel" "readSheets" "I" ∈ gG := gG_in (tin4 (List.mem_of_getElem? (i := 108) rfl)) rfl
theorem wyX12_19 : Cond.lays "PressedPadModel" "PressedPadModel" "readTorn" "I" ∈ gG := gG_in (tin4 (List.mem_of_getElem? (i := 110) rfl)) rfl
theorem wyX12_20 : Cond.lays "PressedPadModel" "PressedPadModel" "readNotes" "I" ∈ gG := gG_in (tin4 (List.mem_of_getElem? (i := 112) rfl)) rfl
theorem wyX12_21 : Cond.lays "PressedPadModel" "PressedPadModel" "must" "I" ∈ gG := gG_in (tin4 (List.mem_of_getElem? (i := 114) rfl)) rfl
theorem wyX12_22 : Cond.lays "PressedPadModel" "PressedPadModel" "may" "I" ∈ gG := gG_in (tin4 (List.mem_of_getElem? (i := 116) rfl)) rfl
theorem wyX12_23 : Cond.laysFinal "PressedPadModel" "PressedPadModel" "row" "[I" ∈ gG := gG_in (tin4 (List.mem_of_getElem? (i := 118) rfl)) rfl
theorem wyX12_24 : Cond.laysFinal "PressedPadModel" "PressedPadModel" "firstRow" "[I" ∈ gG := gG_in (tin4 (List.mem_of_getElem? (i := 120) rfl)) rfl
theorem wyX12_25 : Cond.laysFinal "PressedPadModel" "PressedPadModel" "aside" "[I" ∈ gG := gG_in (tin4 (List.mem_of_getElem? (i := 122) rfl)) rfl
theorem wyX12_26 : Cond.lays "PressedPadModel" "PressedPadModel" "drawn" "J" ∈ gG := gG_in (tin4 (List.mem_of_getElem? (i := 124) rfl)) rfl
theorem wyX12_27 : Cond.laysFinal "PressedPadModel" "PressedPadModel" "isKept" "[Z" ∈ gG := gG_in (tin4 (List.mem_of_getElem? (i := 126) rfl)) rfl
theorem wyX12_28 : Cond.laysFinal "PressedPadModel" "PressedPadModel" "kept" "[I" ∈ gG := gG_in (tin4 (List.mem_of_getElem? (i := 128) rfl)) rfl
theorem wyX12_29 : Cond.lays "PressedPadModel" "PressedPadModel" "sum" "J" ∈ gG := gG_in (tin4 (List.mem_of_getElem? (i := 130) rfl)) rfl
theorem wyX2_0 : Cond.laysFinal "PressedPad$Lost" "PressedPad$Lost" "seen" "[I" ∈ gG := gG_in (tin1 (List.mem_of_getElem? (i := 152) rfl)) rfl
theorem wyX2_1 : Cond.laysFinal "PressedPad$Lost" "PressedPad$Lost" "explained" "[I" ∈ gG := gG_in (tin1 (List.mem_of_getElem? (i := 154) rfl)) rfl
theorem wyX2_2 : Cond.lays "PressedPad$Lost" "PressedPad$Lost" "must" "I" ∈ gG := gG_in (tin1 (List.mem_of_getElem? (i := 156) rfl)) rfl
theorem wyX2_3 : Cond.lays "PressedPad$Lost" "PressedPad$Lost" "may" "I" ∈ gG := gG_in (tin1 (List.mem_of_getElem? (i := 158) rfl)) rfl
theorem wyX4_0 : Cond.laysFinal "PressedPad$Pad" "PressedPad$Pad" "page" "[I" ∈ gG := gG_in (tin1 (List.mem_of_getElem? (i := 114) rfl)) rfl
theorem wyX4_1 : Cond.laysFinal "PressedPad$Pad" "PressedPad$Pad" "earlier" "[I" ∈ gG := gG_in (tin1 (List.mem_of_getElem? (i := 116) rfl)) rfl
theorem wyX4_2 : Cond.lays "PressedPad$Pad" "PressedPad$Pad" "undoable" "I" ∈ gG := gG_in (tin1 (List.mem_of_getElem? (i := 118) rfl)) rfl
theorem wyX4_3 : Cond.lays "PressedPad$Pad" "PressedPad$Pad" "sheets" "I" ∈ gG := gG_in (tin1 (List.mem_of_getElem? (i := 120) rfl)) rfl
theorem wyX4_4 : Cond.lays "PressedPad$Pad" "PressedPad$Pad" "carbonBits" "I" ∈ gG := gG_in (tin1 (List.mem_of_getElem? (i := 122) rfl)) rfl
theorem wyX4_5 : Cond.laysFinal "PressedPad$Pad" "PressedPad$Pad" "noteKind" "[I" ∈ gG := gG_in (tin1 (List.mem_of_getElem? (i := 124) rfl)) rfl
theorem wyX4_6 : Cond.laysFinal "PressedPad$Pad" "PressedPad$Pad" "notePress" "[I" ∈ gG := gG_in (tin1 (List.mem_of_getElem? (i := 126) rfl)) rfl
theorem wyX4_7 : Cond.laysFinal "PressedPad$Pad" "PressedPad$Pad" "noteCells" "[I" ∈ gG := gG_in (tin1 (List.mem_of_getElem? (i := 128) rfl)) rfl
theorem wyX4_8 : Cond.laysFinal "PressedPad$Pad" "PressedPad$Pad" "noteSheet" "[I" ∈ gG := gG_in (tin1 (List.mem_of_getElem? (i := 130) rfl)) rfl
theorem wyX4_9 : Cond.laysFinal "PressedPad$Pad" "PressedPad$Pad" "noteForces" "[I" ∈ gG := gG_in (tin1 (List.mem_of_getElem? (i := 132) rfl)) rfl
theorem wyX4_10 : Cond.laysFinal "PressedPad$Pad" "PressedPad$Pad" "words" "[I" ∈ gG := gG_in (tin1 (List.mem_of_getElem? (i := 134) rfl)) rfl
theorem wyX4_11 : Cond.lays "PressedPad$Pad" "PressedPad$Pad" "wordCount" "I" ∈ gG := gG_in (tin1 (List.mem_of_getElem? (i := 136) rfl)) rfl
theorem wyX7_0 : Cond.laysFinal "PressedPad$Reader" "PressedPad$Reader" "text" "[I" ∈ gG := gG_in (tin1 (List.mem_of_getElem? (i := 199) rfl)) rfl
theorem wyX7_1 : Cond.lays "PressedPad$Reader" "PressedPad$Reader" "length" "I" ∈ gG := gG_in (tin1 (List.mem_of_getElem? (i := 201) rfl)) rfl
theorem wyX7_2 : Cond.lays "PressedPad$Reader" "PressedPad$Reader" "next" "I" ∈ gG := gG_in (tin1 (List.mem_of_getElem? (i := 203) rfl)) rfl
theorem wyX7_3 : Cond.lays "PressedPad$Reader" "PressedPad$Reader" "token" "I" ∈ gG := gG_in (tin1 (List.mem_of_getElem? (i := 205) rfl)) rfl
theorem wyX7_4 : Cond.lays "PressedPad$Reader" "PressedPad$Reader" "start" "I" ∈ gG := gG_in (tin1 (List.mem_of_getElem? (i := 207) rfl)) rfl
theorem wyX7_5 : Cond.lays "PressedPad$Reader" "PressedPad$Reader" "value" "I" ∈ gG := gG_in (tin1 (List.mem_of_getElem? (i := 209) rfl)) rfl
theorem wyX7_6 : Cond.lays "PressedPad$Reader" "PressedPad$Reader" "kind" "I" ∈ gG := gG_in (tin1 (List.mem_of_getElem? (i := 211) rfl)) rfl
theorem wyX7_7 : Cond.lays "PressedPad$Reader" "PressedPad$Reader" "press" "I" ∈ gG := gG_in (tin1 (List.mem_of_getElem? (i := 213) rfl)) rfl
theorem wyX8_0 : Cond.laysFinal "PressedPad$Rows" "PressedPad$Rows" "row" "[I" ∈ gG := gG_in (tin1 (List.mem_of_getElem? (i := 172) rfl)) rfl
theorem wyX8_1 : Cond.laysFinal "PressedPad$Rows" "PressedPad$Rows" "placeOf" "[I" ∈ gG := gG_in (tin1 (List.mem_of_getElem? (i := 174) rfl)) rfl
theorem wyX8_2 : Cond.laysFinal "PressedPad$Rows" "PressedPad$Rows" "shownAt" "[I" ∈ gG := gG_in (tin1 (List.mem_of_getElem? (i := 176) rfl)) rfl
theorem wyX8_3 : Cond.laysFinal "PressedPad$Rows" "PressedPad$Rows" "pressed" "[I" ∈ gG := gG_in (tin1 (List.mem_of_getElem? (i := 178) rfl)) rfl
theorem wyX8_4 : Cond.lays "PressedPad$Rows" "PressedPad$Rows" "found" "I" ∈ gG := gG_in (tin1 (List.mem_of_getElem? (i := 180) rfl)) rfl
theorem cuX11 : ∀ w ∈ u_ws RX11 TX11 15, w ∈ gG := List.forall_mem_cons.mpr ⟨wyX11_0, List.forall_mem_cons.mpr ⟨wyX11_1, List.forall_mem_cons.mpr ⟨wyX11_2, List.forall_mem_cons.mpr ⟨wyX11_3, List.forall_mem_cons.mpr ⟨wyX11_4, List.forall_mem_cons.mpr ⟨wyX11_5, List.forall_mem_cons.mpr ⟨wyX11_6, List.forall_mem_cons.mpr ⟨wyX11_7, List.forall_mem_cons.mpr ⟨wyX11_8, List.forall_mem_cons.mpr ⟨wyX11_9, List.forall_mem_cons.mpr ⟨wyX11_10, List.forall_mem_cons.mpr ⟨wyX11_11, List.forall_mem_cons.mpr ⟨wyX11_12, List.forall_mem_cons.mpr ⟨wyX11_13, List.forall_mem_cons.mpr ⟨wyX11_14, fun _ h => absurd h List.not_mem_nil⟩⟩⟩⟩⟩⟩⟩⟩⟩⟩⟩⟩⟩⟩⟩
theorem cuX12 : ∀ w ∈ u_ws RX12 TX12 30, w ∈ gG := List.forall_mem_cons.mpr ⟨wyX12_0, List.forall_mem_cons.mpr ⟨wyX12_1, List.forall_mem_cons.mpr ⟨wyX12_2, List.forall_mem_cons.mpr ⟨wyX12_3, List.forall_mem_cons.mpr ⟨wyX12_4, List.forall_mem_cons.mpr ⟨wyX12_5, List.forall_mem_cons.mpr ⟨wyX12_6, List.forall_mem_cons.mpr ⟨wyX12_7, List.forall_mem_cons.mpr ⟨wyX12_8, List.forall_mem_cons.mpr ⟨wyX12_9, List.forall_mem_cons.mpr ⟨wyX12_10, List.forall_mem_cons.mpr ⟨wyX12_11, List.forall_mem_cons.mpr ⟨wyX12_12, List.forall_mem_cons.mpr ⟨wyX12_13, List.forall_mem_cons.mpr ⟨wyX12_14, List.forall_mem_cons.mpr ⟨wyX12_15, List.forall_mem_cons.mpr ⟨wyX12_16, List.forall_mem_cons.mpr ⟨wyX12_17, List.forall_mem_cons.mpr ⟨wyX12_18, List.forall_mem_cons.mpr ⟨wyX12_19, List.forall_mem_cons.mpr ⟨wyX12_20, List.forall_mem_cons.mpr ⟨wyX12_21, List.forall_mem_cons.mpr ⟨wyX12_22, List.forall_mem_cons.mpr ⟨wyX12_23, List.forall_mem_cons.mpr ⟨wyX12_24, List.forall_mem_cons.mpr ⟨wyX12_25, List.forall_mem_cons.mpr ⟨wyX12_26, List.forall_mem_cons.mpr ⟨wyX12_27, List.forall_mem_cons.mpr ⟨wyX12_28, List.forall_mem_cons.mpr ⟨wyX12_29, fun _ h => absurd h List.not_mem_nil⟩⟩⟩⟩⟩⟩⟩⟩⟩⟩⟩⟩⟩⟩⟩⟩⟩⟩⟩⟩⟩⟩⟩⟩⟩⟩⟩⟩⟩⟩
theorem cuX2 : ∀ w ∈ u_ws RX2 TX2 4, w ∈ gG := List.forall_mem_cons.mpr ⟨wyX2_0, List.forall_mem_cons.mpr ⟨wyX2_1, List.forall_mem_cons.mpr ⟨wyX2_2, List.forall_mem_cons.mpr ⟨wyX2_3, fun _ h => absurd h List.not_mem_nil⟩⟩⟩⟩
theorem cuX4 : ∀ w ∈ u_ws RX4 TX4 12, w ∈ gG := List.forall_mem_cons.mpr ⟨wyX4_0, List.forall_mem_cons.mpr ⟨wyX4_1, List.forall_mem_cons.mpr ⟨wyX4_2, List.forall_mem_cons.mpr ⟨wyX4_3, List.forall_mem_cons.mpr ⟨wyX4_4, List.forall_mem_cons.mpr ⟨wyX4_5, List.forall_mem_cons.mpr ⟨wyX4_6, List.forall_mem_cons.mpr ⟨wyX4_7, List.forall_mem_cons.mpr ⟨wyX4_8, List.forall_mem_cons.mpr ⟨wyX4_9, List.forall_mem_cons.mpr ⟨wyX4_10, List.forall_mem_cons.mpr ⟨wyX4_11, fun _ h => absurd h List.not_mem_nil⟩⟩⟩⟩⟩⟩⟩⟩⟩⟩⟩⟩
theorem cuX7 : ∀ w ∈ u_ws RX7 TX7 8, w ∈ gG := List.forall_mem_cons.mpr ⟨wyX7_0, List.forall_mem_cons.mpr ⟨wyX7_1, List.forall_mem_cons.mpr ⟨wyX7_2, List.forall_mem_cons.mpr ⟨wyX7_3, List.forall_mem_cons.mpr ⟨wyX7_4, List.forall_mem_cons.mpr ⟨wyX7_5, List.forall_mem_cons.mpr ⟨wyX7_6, List.forall_mem_cons.mpr ⟨wyX7_7, fun _ h => absurd h List.not_mem_nil⟩⟩⟩⟩⟩⟩⟩⟩
theorem cuX8 : ∀ w ∈ u_ws RX8 TX8 5, w ∈ gG := List.forall_mem_cons.mpr ⟨wyX8_0, List.forall_mem_cons.mpr ⟨wyX8_1, List.forall_mem_cons.mpr ⟨wyX8_2, List.forall_mem_cons.mpr ⟨wyX8_3, List.forall_mem_cons.mpr ⟨wyX8_4, fun _ h => absurd h List.not_mem_nil⟩⟩⟩⟩⟩
theorem cfX11 : CF RX11 TX11 15 tyX11 := ⟨cuX11, tyX11_ok, nmX11⟩
theorem cfX12 : CF RX12 TX12 30 tyX12 := ⟨cuX12, tyX12_ok, nmX12⟩
theorem cfX2 : CF RX2 TX2 4 tyX2 := ⟨cuX2, tyX2_ok, nmX2⟩
theorem cfX4 : CF RX4 TX4 12 tyX4 := ⟨cuX4, tyX4_ok, nmX4⟩
theorem cfX7 : CF RX7 TX7 8 tyX7 := ⟨cuX7, tyX7_ok, nmX7⟩
theorem cfX8 : CF RX8 TX8 5 tyX8 := ⟨cuX8, tyX8_ok, nmX8⟩
theorem mfX5_forceOf : MF yX5_forceOf cX5_forceOf 5 (some .int) 3 := ⟨wcX5_forceOf, wiX5, by decide +kernel⟩
theorem mvX5_forceOf : MFv yX5_forceOf RX5 := ⟨wnX5_forceOf, wsX5_forceOf⟩
theorem mfX5_hasInk : MF yX5_hasInk cX5_hasInk 3 (some .boolean) 1 := ⟨wcX5_hasInk, wiX5, by decide +kernel⟩
theorem mvX5_hasInk : MFv yX5_hasInk RX5 := ⟨wnX5_hasInk, wsX5_hasInk⟩
theorem mfX4_placeOf : MF yX4_placeOf cX4_placeOf 2 (some .int) 2 := ⟨wcX4_placeOf, wiX4, by decide +kernel⟩
theorem msX4_placeOf : Cond.static yX4_placeOf ∈ gG := wtX4_placeOf
theorem mfX4_dentOf : MF yX4_dentOf cX4_dentOf 3 (some .int) 2 := ⟨wcX4_dentOf, wiX4, by decide +kernel⟩
theorem mvX4_dentOf : MFv yX4_dentOf RX4 := ⟨wnX4_dentOf, wsX4_dentOf⟩
theorem mfX4_noteCount : MF yX4_noteCount cX4_noteCount 1 (some .int) 0 := ⟨wcX4_noteCount, wiX4, by decide +kernel⟩
theorem mvX4_noteCount : MFv yX4_noteCount RX4 := ⟨wnX4_noteCount, wsX4_noteCount⟩
theorem mfX4_forceDown : MF yX4_forceDown cX4_forceDown 3 (some .int) 2 := ⟨wcX4_forceDown, wiX4, by decide +kernel⟩
theorem mvX4_forceDown : MFv yX4_forceDown RX4 := ⟨wnX4_forceDown, wsX4_forceDown⟩
theorem mfX4_forceOn : MF yX4_forceOn cX4_forceOn 3 (some .int) 2 := ⟨wcX4_forceOn, wiX4, by decide +kernel⟩
theorem mvX4_forceOn : MFv yX4_forceOn RX4 := ⟨wnX4_forceOn, wsX4_forceOn⟩
theorem mfX11_dentInto : MF yX11_dentInto cX11_dentInto 6 none 4 := ⟨wcX11_dentInto, wiX11, by decide +kernel⟩
theorem msX11_dentInto : Cond.static yX11_dentInto ∈ gG := wtX11_dentInto
theorem mfX2_look : MF yX2_look cX2_look 5 none 3 := ⟨wcX2_look, wiX2, by decide +kernel⟩
theorem mvX2_look : MFv yX2_look RX2 := ⟨wnX2_look, wsX2_look⟩
theorem mfX2_guess : MF yX2_guess cX2_guess 4 (some .boolean) 1 := ⟨wcX2_guess, wiX2, by decide +kernel⟩
theorem mvX2_guess : MFv yX2_guess RX2 := ⟨wnX2_guess, wsX2_guess⟩
theorem mfX2_isFit : MF yX2_isFit cX2_isFit 2 (some .boolean) 1 := ⟨wcX2_isFit, wiX2, by decide +kernel⟩
theorem mvX2_isFit : MFv yX2_isFit RX2 := ⟨wnX2_isFit, wsX2_isFit⟩
theorem mfX4_beginAnew : MF yX4_beginAnew cX4_beginAnew 3 none 1 := ⟨wcX4_beginAnew, wiX4, by decide +kernel⟩
theorem mvX4_beginAnew : MFv yX4_beginAnew RX4 := ⟨wnX4_beginAnew, wsX4_beginAnew⟩
theorem mfX4_copyFrom : MF yX4_copyFrom cX4_copyFrom 2 none 1 := ⟨wcX4_copyFrom, wiX4, by decide +kernel⟩
theorem mvX4_copyFrom : MFv yX4_copyFrom RX4 := ⟨wnX4_copyFrom, wsX4_copyFrom⟩
theorem mfX4_keepForUndo : MF yX4_keepForUndo cX4_keepForUndo 1 none 0 := ⟨wcX4_keepForUndo, wiX4, by decide +kernel⟩
theorem mvX4_keepForUndo : MFv yX4_keepForUndo RX4 := ⟨wnX4_keepForUndo, wsX4_keepForUndo⟩
theorem mfX4_goBack : MF yX4_goBack cX4_goBack 1 none 0 := ⟨wcX4_goBack, wiX4, by decide +kernel⟩
theorem mvX4_goBack : MFv yX4_goBack RX4 := ⟨wnX4_goBack, wsX4_goBack⟩
theorem mfX4_top : MF yX4_top cX4_top 1 (some .int) 0 := ⟨wcX4_top, wiX4, by decide +kernel⟩
theorem mvX4_top : MFv yX4_top RX4 := ⟨wnX4_top, wsX4_top⟩
theorem mfX4_isUsedUp : MF yX4_isUsedUp cX4_isUsedUp 1 (some .boolean) 0 := ⟨wcX4_isUsedUp, wiX4, by decide +kernel⟩
theorem mvX4_isUsedUp : MFv yX4_isUsedUp RX4 := ⟨wnX4_isUsedUp, wsX4_isUsedUp⟩
theorem mfX4_hasSheet : MF yX4_hasSheet cX4_hasSheet 2 (some .boolean) 1 := ⟨wcX4_hasSheet, wiX4, by decide +kernel⟩
theorem mvX4_hasSheet : MFv yX4_hasSheet RX4 := ⟨wnX4_hasSheet, wsX4_hasSheet⟩
theorem mfX4_hasSheets : MF yX4_hasSheets cX4_hasSheets 2 (some .boolean) 1 := ⟨wcX4_hasSheets, wiX4, by decide +kernel⟩
theorem mvX4_hasSheets : MFv yX4_hasSheets RX4 := ⟨wnX4_hasSheets, wsX4_hasSheets⟩
theorem mfX4_hasNote : MF yX4_hasNote cX4_hasNote 2 (some .boolean) 1 := ⟨wcX4_hasNote, wiX4, by decide +kernel⟩
theorem mvX4_hasNote : MFv yX4_hasNote RX4 := ⟨wnX4_hasNote, wsX4_hasNote⟩
theorem mfX4_hasNotes : MF yX4_hasNotes cX4_hasNotes 2 (some .boolean) 1 := ⟨wcX4_hasNotes, wiX4, by decide +kernel⟩
theorem mvX4_hasNotes : MFv yX4_hasNotes RX4 := ⟨wnX4_hasNotes, wsX4_hasNotes⟩
theorem mfX4_inkOf : MF yX4_inkOf cX4_inkOf 2 (some .int) 1 := ⟨wcX4_inkOf, wiX4, by decide +kernel⟩
theorem mvX4_inkOf : MFv yX4_inkOf RX4 := ⟨wnX4_inkOf, wsX4_inkOf⟩
theorem mfX4_copyOf : MF yX4_copyOf cX4_copyOf 2 (some .int) 1 := ⟨wcX4_copyOf, wiX4, by decide +kernel⟩
theorem mvX4_copyOf : MFv yX4_copyOf RX4 := ⟨wnX4_copyOf, wsX4_copyOf⟩
theorem mfX4_tearTop : MF yX4_tearTop cX4_tearTop 1 (some .int) 0 := ⟨wcX4_tearTop, wiX4, by decide +kernel⟩
theorem mvX4_tearTop : MFv yX4_tearTop RX4 := ⟨wnX4_tearTop, wsX4_tearTop⟩
theorem mfX4_pressInto : MF yX4_pressInto cX4_pressInto 5 none 3 := ⟨wcX4_pressInto, wiX4, by decide +kernel⟩
theorem mvX4_pressInto : MFv yX4_pressInto RX4 := ⟨wnX4_pressInto, wsX4_pressInto⟩
theorem mfX4_putNote : MF yX4_putNote cX4_putNote 8 (some .int) 4 := ⟨wcX4_putNote, wiX4, by decide +kernel⟩
theorem mvX4_putNote : MFv yX4_putNote RX4 := ⟨wnX4_putNote, wsX4_putNote⟩
theorem mfX4_writtenOn : MF yX4_writtenOn cX4_writtenOn 4 (some .int) 1 := ⟨wcX4_writtenOn, wiX4, by decide +kernel⟩
theorem mvX4_writtenOn : MFv yX4_writtenOn RX4 := ⟨wnX4_writtenOn, wsX4_writtenOn⟩
theorem mfX4_cellsDented : MF yX4_cellsDented cX4_cellsDented 3 (some .int) 2 := ⟨wcX4_cellsDented, wiX4, by decide +kernel⟩
theorem mvX4_cellsDented : MFv yX4_cellsDented RX4 := ⟨wnX4_cellsDented, wsX4_cellsDented⟩
theorem mfX4_dentedBy : MF yX4_dentedBy cX4_dentedBy 4 (some .int) 1 := ⟨wcX4_dentedBy, wiX4, by decide +kernel⟩
theorem mvX4_dentedBy : MFv yX4_dentedBy RX4 := ⟨wnX4_dentedBy, wsX4_dentedBy⟩
theorem mfX4_dentedAtLeast : MF yX4_dentedAtLeast cX4_dentedAtLeast 5 (some .int) 2 := ⟨wcX4_dentedAtLeast, wiX4, by decide +kernel⟩
theorem mvX4_dentedAtLeast : MFv yX4_dentedAtLeast RX4 := ⟨wnX4_dentedAtLeast, wsX4_dentedAtLeast⟩
theorem mfX4_digestFrom : MF yX4_digestFrom cX4_digestFrom 7 (some .long) 1 := ⟨wcX4_digestFrom, wiX4, by decide +kernel⟩
theorem mvX4_digestFrom : MFv yX4_digestFrom RX4 := ⟨wnX4_digestFrom, wsX4_digestFrom⟩
theorem mfX7_fault : MF yX7_fault cX7_fault 1 (some .int) 0 := ⟨wcX7_fault, wiX7, by decide +kernel⟩
theorem mvX7_fault : MFv yX7_fault RX7 := ⟨wnX7_fault, wsX7_fault⟩
theorem mfX7_isWithin : MF yX7_isWithin cX7_isWithin 4 (some .boolean) 3 := ⟨wcX7_isWithin, wiX7, by decide +kernel⟩
theorem mvX7_isWithin : MFv yX7_isWithin RX7 := ⟨wnX7_isWithin, wsX7_isWithin⟩
theorem mfX7_passWord : MF yX7_passWord cX7_passWord 1 none 0 := ⟨wcX7_passWord, wiX7, by decide +kernel⟩
theorem mvX7_passWord : MFv yX7_passWord RX7 := ⟨wnX7_passWord, wsX7_passWord⟩
theorem mfX7_passFigures : MF yX7_passFigures cX7_passFigures 1 none 0 := ⟨wcX7_passFigures, wiX7, by decide +kernel⟩
theorem mvX7_passFigures : MFv yX7_passFigures RX7 := ⟨wnX7_passFigures, wsX7_passFigures⟩
theorem mfX7_step : MF yX7_step cX7_step 1 none 0 := ⟨wcX7_step, wiX7, by decide +kernel⟩
theorem mvX7_step : MFv yX7_step RX7 := ⟨wnX7_step, wsX7_step⟩
theorem mfX7_isWord : MF yX7_isWord cX7_isWord 3 (some .boolean) 1 := ⟨wcX7_isWord, wiX7, by decide +kernel⟩
theorem mvX7_isWord : MFv yX7_isWord RX7 := ⟨wnX7_isWord, wsX7_isWord⟩
theorem mfX7_isNumber : MF yX7_isNumber cX7_isNumber 3 (some .boolean) 2 := ⟨wcX7_isNumber, wiX7, by decide +kernel⟩
theorem mvX7_isNumber : MFv yX7_isNumber RX7 := ⟨wnX7_isNumber, wsX7_isNumber⟩
theorem mfX7_passStop : MF yX7_passStop cX7_passStop 1 (some .boolean) 0 := ⟨wcX7_passStop, wiX7, by decide +kernel⟩
theorem mvX7_passStop : MFv yX7_passStop RX7 := ⟨wnX7_passStop, wsX7_passStop⟩
theorem mfX7_readFirst : MF yX7_readFirst cX7_readFirst 2 (some .boolean) 1 := ⟨wcX7_readFirst, wiX7, by decide +kernel⟩
theorem mvX7_readFirst : MFv yX7_readFirst RX7 := ⟨wnX7_readFirst, wsX7_readFirst⟩
theorem mfX7_readCarbon : MF yX7_readCarbon cX7_readCarbon 2 (some .boolean) 1 := ⟨wcX7_readCarbon, wiX7, by decide +kernel⟩
theorem mvX7_readCarbon : MFv yX7_readCarbon RX7 := ⟨wnX7_readCarbon, wsX7_readCarbon⟩
theorem mfX7_readPen : MF yX7_readPen cX7_readPen 1 (some .boolean) 0 := ⟨wcX7_readPen, wiX7, by decide +kernel⟩
theorem mvX7_readPen : MFv yX7_readPen RX7 := ⟨wnX7_readPen, wsX7_readPen⟩
theorem mfX7_readCells : MF yX7_readCells cX7_readCells 4 (some .int) 0 := ⟨wcX7_readCells, wiX7, by decide +kernel⟩
theorem mvX7_readCells : MFv yX7_readCells RX7 := ⟨wnX7_readCells, wsX7_readCells⟩
theorem mfX7_readItem : MF yX7_readItem cX7_readItem 6 (some .boolean) 2 := ⟨wcX7_readItem, wiX7, by decide +kernel⟩
theorem mvX7_readItem : MFv yX7_readItem RX7 := ⟨wnX7_readItem, wsX7_readItem⟩
theorem mfX7_readInto : MF yX7_readInto cX7_readInto 5 (some .int) 2 := ⟨wcX7_readInto, wiX7, by decide +kernel⟩
theorem mvX7_readInto : MFv yX7_readInto RX7 := ⟨wnX7_readInto, wsX7_readInto⟩
theorem mfX8_sheetAt : MF yX8_sheetAt cX8_sheetAt 2 (some .int) 1 := ⟨wcX8_sheetAt, wiX8, by decide +kernel⟩
theorem mvX8_sheetAt : MFv yX8_sheetAt RX8 := ⟨wnX8_sheetAt, wsX8_sheetAt⟩
theorem mfX8_mayLie : MF yX8_mayLie cX8_mayLie 7 (some .boolean) 4 := ⟨wcX8_mayLie, wiX8, by decide +kernel⟩
theorem mvX8_mayLie : MFv yX8_mayLie RX8 := ⟨wnX8_mayLie, wsX8_mayLie⟩
theorem mfX8_layFrom : MF yX8_layFrom cX8_layFrom 6 none 4 := ⟨wcX8_layFrom, wiX8, by decide +kernel⟩
theorem mvX8_layFrom : MFv yX8_layFrom RX8 := ⟨wnX8_layFrom, wsX8_layFrom⟩
theorem mfX8_search : MF yX8_search cX8_search 5 (some .int) 2 := ⟨wcX8_search, wiX8, by decide +kernel⟩
theorem mvX8_search : MFv yX8_search RX8 := ⟨wnX8_search, wsX8_search⟩
theorem mfX11_bad : MF yX11_bad cX11_bad 2 (some .int) 1 := ⟨wcX11_bad, wiX11, by decide +kernel⟩
theorem mvX11_bad : MFv yX11_bad RX11 := ⟨wnX11_bad, wsX11_bad⟩
theorem mfX11_pad : MF yX11_pad cX11_pad 3 (some .int) 1 := ⟨wcX11_pad, wiX11, by decide +kernel⟩
theorem mvX11_pad : MFv yX11_pad RX11 := ⟨wnX11_pad, wsX11_pad⟩
theorem mfX11_carbons : MF yX11_carbons cX11_carbons 3 (some .int) 1 := ⟨wcX11_carbons, wiX11, by decide +kernel⟩
theorem mvX11_carbons : MFv yX11_carbons RX11 := ⟨wnX11_carbons, wsX11_carbons⟩
theorem mfX11_isPen : MF yX11_isPen cX11_isPen 2 (some .boolean) 2 := ⟨wcX11_isPen, wiX11, by decide +kernel⟩
theorem msX11_isPen : Cond.static yX11_isPen ∈ gG := wtX11_isPen
theorem mfX11_isCells : MF yX11_isCells cX11_isCells 1 (some .boolean) 1 := ⟨wcX11_isCells, wiX11, by decide +kernel⟩
theorem msX11_isCells : Cond.static yX11_isCells ∈ gG := wtX11_isCells
theorem mfX11_no : MF yX11_no cX11_no 1 (some .int) 0 := ⟨wcX11_no, wiX11, by decide +kernel⟩
theorem mvX11_no : MFv yX11_no RX11 := ⟨wnX11_no, wsX11_no⟩
theorem mfX11_full : MF yX11_full cX11_full 1 (some .int) 0 := ⟨wcX11_full, wiX11, by decide +kernel⟩
theorem mvX11_full : MFv yX11_full RX11 := ⟨wnX11_full, wsX11_full⟩
theorem mfX11_write : MF yX11_write cX11_write 4 (some .int) 3 := ⟨wcX11_write, wiX11, by decide +kernel⟩
theorem mvX11_write : MFv yX11_write RX11 := ⟨wnX11_write, wsX11_write⟩
theorem mfX11_tear : MF yX11_tear cX11_tear 1 (some .int) 0 := ⟨wcX11_tear, wiX11, by decide +kernel⟩
theorem mvX11_tear : MFv yX11_tear RX11 := ⟨wnX11_tear, wsX11_tear⟩
theorem mfX11_undo : MF yX11_undo cX11_undo 1 (some .int) 0 := ⟨wcX11_undo, wiX11, by decide +kernel⟩
theorem mvX11_undo : MFv yX11_undo RX11 := ⟨wnX11_undo, wsX11_undo⟩
theorem mfX11_word : MF yX11_word cX11_word 2 (some .int) 1 := ⟨wcX11_word, wiX11, by decide +kernel⟩
theorem mvX11_word : MFv yX11_word RX11 := ⟨wnX11_word, wsX11_word⟩
theorem mfX11_forget : MF yX11_forget cX11_forget 2 (some .int) 0 := ⟨wcX11_forget, wiX11, by decide +kernel⟩
theorem mvX11_forget : MFv yX11_forget RX11 := ⟨wnX11_forget, wsX11_forget⟩
theorem mfX11_type : MF yX11_type cX11_type 2 (some .int) 1 := ⟨wcX11_type, wiX11, by decide +kernel⟩
theorem mvX11_type : MFv yX11_type RX11 := ⟨wnX11_type, wsX11_type⟩
theorem mfX11_clear : MF yX11_clear cX11_clear 2 (some .int) 0 := ⟨wcX11_clear, wiX11, by decide +kernel⟩
theorem mvX11_clear : MFv yX11_clear RX11 := ⟨wnX11_clear, wsX11_clear⟩
theorem mfX11_read : MF yX11_read cX11_read 2 (some .int) 0 := ⟨wcX11_read, wiX11, by decide +kernel⟩
theorem mvX11_read : MFv yX11_read RX11 := ⟨wnX11_read, wsX11_read⟩
theorem mfX11_of : MF yX11_of cX11_of 3 (some .int) 2 := ⟨wcX11_of, wiX11, by decide +kernel⟩
theorem mvX11_of : MFv yX11_of RX11 := ⟨wnX11_of, wsX11_of⟩
theorem mfX11_dent : MF yX11_dent cX11_dent 3 (some .int) 2 := ⟨wcX11_dent, wiX11, by decide +kernel⟩
theorem mvX11_dent : MFv yX11_dent RX11 := ⟨wnX11_dent, wsX11_dent⟩
theorem mfX11_about : MF yX11_about cX11_about 3 (some .int) 2 := ⟨wcX11_about, wiX11, by decide +kernel⟩
theorem mvX11_about : MFv yX11_about RX11 := ⟨wnX11_about, wsX11_about⟩
theorem mfX11_isDepth : MF yX11_isDepth cX11_isDepth 1 (some .boolean) 1 := ⟨wcX11_isDepth, wiX11, by decide +kernel⟩
theorem msX11_isDepth : Cond.static yX11_isDepth ∈ gG := wtX11_isDepth
theorem mfX11_force : MF yX11_force cX11_force 4 (some .int) 3 := ⟨wcX11_force, wiX11, by decide +kernel⟩
theorem mvX11_force : MFv yX11_force RX11 := ⟨wnX11_force, wsX11_force⟩
theorem mfX11_whose : MF yX11_whose cX11_whose 2 (some .int) 1 := ⟨wcX11_whose, wiX11, by decide +kernel⟩
theorem mvX11_whose : MFv yX11_whose RX11 := ⟨wnX11_whose, wsX11_whose⟩
theorem mfX11_own : MF yX11_own cX11_own 5 (some .int) 2 := ⟨wcX11_own, wiX11, by decide +kernel⟩
theorem mvX11_own : MFv yX11_own RX11 := ⟨wnX11_own, wsX11_own⟩
theorem mfX11_shown : MF yX11_shown cX11_shown 3 (some .int) 2 := ⟨wcX11_shown, wiX11, by decide +kernel⟩
theorem mvX11_shown : MFv yX11_shown RX11 := ⟨wnX11_shown, wsX11_shown⟩
theorem mfJ6_bitCount_0f7a4 : MF yJ6_bitCount_0f7a4 cJ6_bitCount_0f7a4 1 (some .int) 1 := ⟨wcJ6_bitCount_0f7a4, wiJ6, by decide +kernel⟩
theorem msJ6_bitCount_0f7a4 : Cond.static yJ6_bitCount_0f7a4 ∈ gG := wtJ6_bitCount_0f7a4
theorem mfX11_wordsThatFit : MF yX11_wordsThatFit cX11_wordsThatFit 3 (some .int) 0 := ⟨wcX11_wordsThatFit, wiX11, by decide +kernel⟩
theorem mvX11_wordsThatFit : MFv yX11_wordsThatFit RX11 := ⟨wnX11_wordsThatFit, wsX11_wordsThatFit⟩
theorem mfX11_lost : MF yX11_lost cX11_lost 9 (some .int) 6 := ⟨wcX11_lost, wiX11, by decide +kernel⟩
theorem mvX11_lost : MFv yX11_lost RX11 := ⟨wnX11_lost, wsX11_lost⟩
theorem mfX11_pen : MF yX11_pen cX11_pen 11 (some .int) 5 := ⟨wcX11_pen, wiX11, by decide +kernel⟩
theorem mvX11_pen : MFv yX11_pen RX11 := ⟨wnX11_pen, wsX11_pen⟩
theorem mfX11_orders : MF yX11_orders cX11_orders 2 (some .int) 1 := ⟨wcX11_orders, wiX11, by decide +kernel⟩
theorem mvX11_orders : MFv yX11_orders RX11 := ⟨wnX11_orders, wsX11_orders⟩
theorem mfX11_press : MF yX11_press cX11_press 4 (some .int) 2 := ⟨wcX11_press, wiX11, by decide +kernel⟩
theorem mvX11_press : MFv yX11_press RX11 := ⟨wnX11_press, wsX11_press⟩
theorem mfX11_copies : MF yX11_copies cX11_copies 10 (some .int) 4 := ⟨wcX11_copies, wiX11, by decide +kernel⟩
theorem mvX11_copies : MFv yX11_copies RX11 := ⟨wnX11_copies, wsX11_copies⟩
theorem mfX11_keepFraction : MF yX11_keepFraction cX11_keepFraction 12 none 2 := ⟨wcX11_keepFraction, wiX11, by decide +kernel⟩
theorem mvX11_keepFraction : MFv yX11_keepFraction RX11 := ⟨wnX11_keepFraction, wsX11_keepFraction⟩
theorem mfX11_rub : MF yX11_rub cX11_rub 11 (some .int) 3 := ⟨wcX11_rub, wiX11, by decide +kernel⟩
theorem mvX11_rub : MFv yX11_rub RX11 := ⟨wnX11_rub, wsX11_rub⟩
theorem mfX11_torn : MF yX11_torn cX11_torn 3 (some .int) 1 := ⟨wcX11_torn, wiX11, by decide +kernel⟩
theorem mvX11_torn : MFv yX11_torn RX11 := ⟨wnX11_torn, wsX11_torn⟩
theorem mfX11_nextDraw : MF yX11_nextDraw cX11_nextDraw 2 (some .long) 1 := ⟨wcX11_nextDraw, wiX11, by decide +kernel⟩
theorem msX11_nextDraw : Cond.static yX11_nextDraw ∈ gG := wtX11_nextDraw
theorem mfX11_drawOf : MF yX11_drawOf cX11_drawOf 3 (some .int) 2 := ⟨wcX11_drawOf, wiX11, by decide +kernel⟩
theorem msX11_drawOf : Cond.static yX11_drawOf ∈ gG := wtX11_drawOf
theorem mfX11_sumOfLast : MF yX11_sumOfLast cX11_sumOfLast 3 (some .int) 0 := ⟨wcX11_sumOfLast, wiX11, by decide +kernel⟩
theorem mvX11_sumOfLast : MFv yX11_sumOfLast RX11 := ⟨wnX11_sumOfLast, wsX11_sumOfLast⟩
theorem mfX11_drawn : MF yX11_drawn cX11_drawn 10 (some .int) 2 := ⟨wcX11_drawn, wiX11, by decide +kernel⟩
theorem mvX11_drawn : MFv yX11_drawn RX11 := ⟨wnX11_drawn, wsX11_drawn⟩
theorem mfX11_part : MF yX11_part cX11_part 2 (some .long) 1 := ⟨wcX11_part, wiX11, by decide +kernel⟩
theorem mvX11_part : MFv yX11_part RX11 := ⟨wnX11_part, wsX11_part⟩
theorem mfX11_image : MF yX11_image cX11_image 2 (some .int) 1 := ⟨wcX11_image, wiX11, by decide +kernel⟩
theorem mvX11_image : MFv yX11_image RX11 := ⟨wnX11_image, wsX11_image⟩
theorem mfX11_from : MF yX11_from cX11_from 2 (some .int) 1 := ⟨wcX11_from, wiX11, by decide +kernel⟩
theorem mvX11_from : MFv yX11_from RX11 := ⟨wnX11_from, wsX11_from⟩
theorem mfX11_status : MF yX11_status cX11_status 2 (some .int) 1 := ⟨wcX11_status, wiX11, by decide +kernel⟩
theorem mvX11_status : MFv yX11_status RX11 := ⟨wnX11_status, wsX11_status⟩
theorem mfX11_amountOf : MF yX11_amountOf cX11_amountOf 2 (some .int) 1 := ⟨wcX11_amountOf, wiX11, by decide +kernel⟩
theorem mvX11_amountOf : MFv yX11_amountOf RX11 := ⟨wnX11_amountOf, wsX11_amountOf⟩
theorem mfX11_count : MF yX11_count cX11_count 2 (some .int) 1 := ⟨wcX11_count, wiX11, by decide +kernel⟩
theorem mvX11_count : MFv yX11_count RX11 := ⟨wnX11_count, wsX11_count⟩
theorem mfX11_digest : MF yX11_digest cX11_digest 4 (some .long) 0 := ⟨wcX11_digest, wiX11, by decide +kernel⟩
theorem mvX11_digest : MFv yX11_digest RX11 := ⟨wnX11_digest, wsX11_digest⟩
theorem mfX12_in : MF yX12_in cX12_in 6 (some .boolean) 3 := ⟨wcX12_in, wiX12, by decide +kernel⟩
theorem msX12_in : Cond.static yX12_in ∈ gG := wtX12_in
theorem mfX12_has : MF yX12_has cX12_has 2 (some .boolean) 2 := ⟨wcX12_has, wiX12, by decide +kernel⟩
theorem msX12_has : Cond.static yX12_has ∈ gG := wtX12_has
theorem mfX12_ones : MF yX12_ones cX12_ones 3 (some .int) 1 := ⟨wcX12_ones, wiX12, by decide +kernel⟩
theorem msX12_ones : Cond.static yX12_ones ∈ gG := wtX12_ones
theorem mfX12_refuse : MF yX12_refuse cX12_refuse 3 (some .int) 2 := ⟨wcX12_refuse, wiX12, by decide +kernel⟩
theorem mvX12_refuse : MFv yX12_refuse RX12 := ⟨wnX12_refuse, wsX12_refuse⟩
theorem mfX12_bad : MF yX12_bad cX12_bad 1 (some .int) 0 := ⟨wcX12_bad, wiX12, by decide +kernel⟩
theorem mvX12_bad : MFv yX12_bad RX12 := ⟨wnX12_bad, wsX12_bad⟩
theorem mfX12_badLess : MF yX12_badLess cX12_badLess 1 (some .int) 0 := ⟨wcX12_badLess, wiX12, by decide +kernel⟩
theorem mvX12_badLess : MFv yX12_badLess RX12 := ⟨wnX12_badLess, wsX12_badLess⟩
theorem mfX12_isSheet : MF yX12_isSheet cX12_isSheet 2 (some .boolean) 1 := ⟨wcX12_isSheet, wiX12, by decide +kernel⟩
theorem mvX12_isSheet : MFv yX12_isSheet RX12 := ⟨wnX12_isSheet, wsX12_isSheet⟩
theorem mfX12_areNotes : MF yX12_areNotes cX12_areNotes 2 (some .boolean) 1 := ⟨wcX12_areNotes, wiX12, by decide +kernel⟩
theorem mvX12_areNotes : MFv yX12_areNotes RX12 := ⟨wnX12_areNotes, wsX12_areNotes⟩
theorem mfX12_isPen : MF yX12_isPen cX12_isPen 2 (some .boolean) 2 := ⟨wcX12_isPen, wiX12, by decide +kernel⟩
theorem msX12_isPen : Cond.static yX12_isPen ∈ gG := wtX12_isPen
theorem mfX12_pencil : MF yX12_pencil cX12_pencil 3 (some .int) 2 := ⟨wcX12_pencil, wiX12, by decide +kernel⟩
theorem msX12_pencil : Cond.static yX12_pencil ∈ gG := wtX12_pencil
theorem mfX12_forceOf : MF yX12_forceOf cX12_forceOf 3 (some .int) 3 := ⟨wcX12_forceOf, wiX12, by decide +kernel⟩
theorem msX12_forceOf : Cond.static yX12_forceOf ∈ gG := wtX12_forceOf
theorem mfX12_hasInk : MF yX12_hasInk cX12_hasInk 1 (some .boolean) 1 := ⟨wcX12_hasInk, wiX12, by decide +kernel⟩
theorem msX12_hasInk : Cond.static yX12_hasInk ∈ gG := wtX12_hasInk
theorem mfX12_empty : MF yX12_empty cX12_empty 2 none 0 := ⟨wcX12_empty, wiX12, by decide +kernel⟩
theorem mvX12_empty : MFv yX12_empty RX12 := ⟨wnX12_empty, wsX12_empty⟩
theorem mfX12_pad : MF yX12_pad cX12_pad 3 (some .int) 1 := ⟨wcX12_pad, wiX12, by decide +kernel⟩
theorem mvX12_pad : MFv yX12_pad RX12 := ⟨wnX12_pad, wsX12_pad⟩
theorem mfX12_carbons : MF yX12_carbons cX12_carbons 3 (some .int) 1 := ⟨wcX12_carbons, wiX12, by decide +kernel⟩
theorem mvX12_carbons : MFv yX12_carbons RX12 := ⟨wnX12_carbons, wsX12_carbons⟩
theorem mfX12_note : MF yX12_note cX12_note 2 none 0 := ⟨wcX12_note, wiX12, by decide +kernel⟩
theorem mvX12_note : MFv yX12_note RX12 := ⟨wnX12_note, wsX12_note⟩
theorem mfX12_dentAll : MF yX12_dentAll cX12_dentAll 9 none 3 := ⟨wcX12_dentAll, wiX12, by decide +kernel⟩
theorem mvX12_dentAll : MFv yX12_dentAll RX12 := ⟨wnX12_dentAll, wsX12_dentAll⟩
theorem mfX12_writeNow : MF yX12_writeNow cX12_writeNow 5 none 3 := ⟨wcX12_writeNow, wiX12, by decide +kernel⟩
theorem mvX12_writeNow : MFv yX12_writeNow RX12 := ⟨wnX12_writeNow, wsX12_writeNow⟩
theorem mfX12_write : MF yX12_write cX12_write 4 (some .int) 3 := ⟨wcX12_write, wiX12, by decide +kernel⟩
theorem mvX12_write : MFv yX12_write RX12 := ⟨wnX12_write, wsX12_write⟩
theorem mfX12_tear : MF yX12_tear cX12_tear 1 (some .int) 0 := ⟨wcX12_tear, wiX12, by decide +kernel⟩
theorem mvX12_tear : MFv yX12_tear RX12 := ⟨wnX12_tear, wsX12_tear⟩
theorem mfX12_undo : MF yX12_undo cX12_undo 2 (some .int) 0 := ⟨wcX12_undo, wiX12, by decide +kernel⟩
theorem mvX12_undo : MFv yX12_undo RX12 := ⟨wnX12_undo, wsX12_undo⟩
theorem mfX12_word : MF yX12_word cX12_word 2 (some .int) 1 := ⟨wcX12_word, wiX12, by decide +kernel⟩
theorem mvX12_word : MFv yX12_word RX12 := ⟨wnX12_word, wsX12_word⟩
theorem mfX12_forget : MF yX12_forget cX12_forget 2 (some .int) 0 := ⟨wcX12_forget, wiX12, by decide +kernel⟩
theorem mvX12_forget : MFv yX12_forget RX12 := ⟨wnX12_forget, wsX12_forget⟩
theorem mfX12_type : MF yX12_type cX12_type 2 (some .int) 1 := ⟨wcX12_type, wiX12, by decide +kernel⟩
theorem mvX12_type : MFv yX12_type RX12 := ⟨wnX12_type, wsX12_type⟩
theorem mfX12_clear : MF yX12_clear cX12_clear 2 (some .int) 0 := ⟨wcX12_clear, wiX12, by decide +kernel⟩
theorem mvX12_clear : MFv yX12_clear RX12 := ⟨wnX12_clear, wsX12_clear⟩
theorem mfX12_byteAt : MF yX12_byteAt cX12_byteAt 2 (some .int) 1 := ⟨wcX12_byteAt, wiX12, by decide +kernel⟩
theorem mvX12_byteAt : MFv yX12_byteAt RX12 := ⟨wnX12_byteAt, wsX12_byteAt⟩
theorem mfX12_isWord : MF yX12_isWord cX12_isWord 9 (some .boolean) 6 := ⟨wcX12_isWord, wiX12, by decide +kernel⟩
theorem mvX12_isWord : MFv yX12_isWord RX12 := ⟨wnX12_isWord, wsX12_isWord⟩
theorem mfX12_nextToken : MF yX12_nextToken cX12_nextToken 1 none 0 := ⟨wcX12_nextToken, wiX12, by decide +kernel⟩
theorem mvX12_nextToken : MFv yX12_nextToken RX12 := ⟨wnX12_nextToken, wsX12_nextToken⟩
theorem mfX12_number : MF yX12_number cX12_number 3 (some .boolean) 2 := ⟨wcX12_number, wiX12, by decide +kernel⟩
theorem mvX12_number : MFv yX12_number RX12 := ⟨wnX12_number, wsX12_number⟩
theorem mfX12_readNote : MF yX12_readNote cX12_readNote 4 (some .boolean) 1 := ⟨wcX12_readNote, wiX12, by decide +kernel⟩
theorem mvX12_readNote : MFv yX12_readNote RX12 := ⟨wnX12_readNote, wsX12_readNote⟩
theorem mfX12_readPad : MF yX12_readPad cX12_readPad 4 (some .boolean) 0 := ⟨wcX12_readPad, wiX12, by decide +kernel⟩
theorem mvX12_readPad : MFv yX12_readPad RX12 := ⟨wnX12_readPad, wsX12_readPad⟩
theorem mfX12_read : MF yX12_read cX12_read 3 (some .int) 0 := ⟨wcX12_read, wiX12, by decide +kernel⟩
theorem mvX12_read : MFv yX12_read RX12 := ⟨wnX12_read, wsX12_read⟩
theorem mfX12_writtenOn : MF yX12_writtenOn cX12_writtenOn 4 (some .int) 1 := ⟨wcX12_writtenOn, wiX12, by decide +kernel⟩
theorem mvX12_writtenOn : MFv yX12_writtenOn RX12 := ⟨wnX12_writtenOn, wsX12_writtenOn⟩
theorem mfX12_of : MF yX12_of cX12_of 3 (some .int) 2 := ⟨wcX12_of, wiX12, by decide +kernel⟩
theorem mvX12_of : MFv yX12_of RX12 := ⟨wnX12_of, wsX12_of⟩
theorem mfX12_dentOf : MF yX12_dentOf cX12_dentOf 3 (some .int) 2 := ⟨wcX12_dentOf, wiX12, by decide +kernel⟩
theorem mvX12_dentOf : MFv yX12_dentOf RX12 := ⟨wnX12_dentOf, wsX12_dentOf⟩
theorem mfX12_dent : MF yX12_dent cX12_dent 3 (some .int) 2 := ⟨wcX12_dent, wiX12, by decide +kernel⟩
theorem mvX12_dent : MFv yX12_dent RX12 := ⟨wnX12_dent, wsX12_dent⟩
theorem mfX12_about : MF yX12_about cX12_about 4 (some .int) 2 := ⟨wcX12_about, wiX12, by decide +kernel⟩
theorem mvX12_about : MFv yX12_about RX12 := ⟨wnX12_about, wsX12_about⟩
theorem mfX12_force : MF yX12_force cX12_force 4 (some .int) 3 := ⟨wcX12_force, wiX12, by decide +kernel⟩
theorem mvX12_force : MFv yX12_force RX12 := ⟨wnX12_force, wsX12_force⟩
theorem mfX12_forceIn : MF yX12_forceIn cX12_forceIn 6 (some .int) 3 := ⟨wcX12_forceIn, wiX12, by decide +kernel⟩
theorem mvX12_forceIn : MFv yX12_forceIn RX12 := ⟨wnX12_forceIn, wsX12_forceIn⟩
theorem mfX12_whoseOf : MF yX12_whoseOf cX12_whoseOf 4 (some .int) 1 := ⟨wcX12_whoseOf, wiX12, by decide +kernel⟩
theorem mvX12_whoseOf : MFv yX12_whoseOf RX12 := ⟨wnX12_whoseOf, wsX12_whoseOf⟩
theorem mfX12_whose : MF yX12_whose cX12_whose 2 (some .int) 1 := ⟨wcX12_whose, wiX12, by decide +kernel⟩
theorem mvX12_whose : MFv yX12_whose RX12 := ⟨wnX12_whose, wsX12_whose⟩
theorem mfX12_own : MF yX12_own cX12_own 7 (some .int) 2 := ⟨wcX12_own, wiX12, by decide +kernel⟩
theorem mvX12_own : MFv yX12_own RX12 := ⟨wnX12_own, wsX12_own⟩
theorem mfX12_shown : MF yX12_shown cX12_shown 5 (some .int) 2 := ⟨wcX12_shown, wiX12, by decide +kernel⟩
theorem mvX12_shown : MFv yX12_shown RX12 := ⟨wnX12_shown, wsX12_shown⟩
theorem mfX12_explained : MF yX12_explained cX12_explained 7 (some .int) 3 := ⟨wcX12_explained, wiX12, by decide +kernel⟩
theorem mvX12_explained : MFv yX12_explained RX12 := ⟨wnX12_explained, wsX12_explained⟩
theorem mfX12_isLost : MF yX12_isLost cX12_isLost 8 (some .boolean) 3 := ⟨wcX12_isLost, wiX12, by decide +kernel⟩
theorem mvX12_isLost : MFv yX12_isLost RX12 := ⟨wnX12_isLost, wsX12_isLost⟩
theorem mfX12_fits : MF yX12_fits cX12_fits 2 (some .boolean) 1 := ⟨wcX12_fits, wiX12, by decide +kernel⟩
theorem mvX12_fits : MFv yX12_fits RX12 := ⟨wnX12_fits, wsX12_fits⟩
theorem mfX12_lost : MF yX12_lost cX12_lost 10 (some .int) 6 := ⟨wcX12_lost, wiX12, by decide +kernel⟩
theorem mvX12_lost : MFv yX12_lost RX12 := ⟨wnX12_lost, wsX12_lost⟩
theorem mfX12_pen : MF yX12_pen cX12_pen 10 (some .int) 5 := ⟨wcX12_pen, wiX12, by decide +kernel⟩
theorem mvX12_pen : MFv yX12_pen RX12 := ⟨wnX12_pen, wsX12_pen⟩
theorem mfX12_exchange : MF yX12_exchange cX12_exchange 4 none 2 := ⟨wcX12_exchange, wiX12, by decide +kernel⟩
theorem mvX12_exchange : MFv yX12_exchange RX12 := ⟨wnX12_exchange, wsX12_exchange⟩
theorem mfX12_nextRow : MF yX12_nextRow cX12_nextRow 5 (some .boolean) 0 := ⟨wcX12_nextRow, wiX12, by decide +kernel⟩
theorem mvX12_nextRow : MFv yX12_nextRow RX12 := ⟨wnX12_nextRow, wsX12_nextRow⟩
theorem mfX12_placeOf : MF yX12_placeOf cX12_placeOf 3 (some .int) 1 := ⟨wcX12_placeOf, wiX12, by decide +kernel⟩
theorem mvX12_placeOf : MFv yX12_placeOf RX12 := ⟨wnX12_placeOf, wsX12_placeOf⟩
theorem mfX12_isRow : MF yX12_isRow cX12_isRow 8 (some .boolean) 0 := ⟨wcX12_isRow, wiX12, by decide +kernel⟩
theorem mvX12_isRow : MFv yX12_isRow RX12 := ⟨wnX12_isRow, wsX12_isRow⟩
theorem mfX12_orders : MF yX12_orders cX12_orders 5 (some .int) 1 := ⟨wcX12_orders, wiX12, by decide +kernel⟩
theorem mvX12_orders : MFv yX12_orders RX12 := ⟨wnX12_orders, wsX12_orders⟩
theorem mfX12_press : MF yX12_press cX12_press 4 (some .int) 2 := ⟨wcX12_press, wiX12, by decide +kernel⟩
theorem mvX12_press : MFv yX12_press RX12 := ⟨wnX12_press, wsX12_press⟩
theorem mfX12_copies : MF yX12_copies cX12_copies 9 (some .int) 4 := ⟨wcX12_copies, wiX12, by decide +kernel⟩
theorem mvX12_copies : MFv yX12_copies RX12 := ⟨wnX12_copies, wsX12_copies⟩
theorem mfX12_common : MF yX12_common cX12_common 10 (some .long) 2 := ⟨wcX12_common, wiX12, by decide +kernel⟩
theorem msX12_common : Cond.static yX12_common ∈ gG := wtX12_common
theorem mfX12_rub : MF yX12_rub cX12_rub 6 (some .int) 3 := ⟨wcX12_rub, wiX12, by decide +kernel⟩
theorem mvX12_rub : MFv yX12_rub RX12 := ⟨wnX12_rub, wsX12_rub⟩
theorem mfX12_torn : MF yX12_torn cX12_torn 3 (some .int) 1 := ⟨wcX12_torn, wiX12, by decide +kernel⟩
theorem mvX12_torn : MFv yX12_torn RX12 := ⟨wnX12_torn, wsX12_torn⟩
theorem mfX12_draw : MF yX12_draw cX12_draw 2 (some .int) 1 := ⟨wcX12_draw, wiX12, by decide +kernel⟩
theorem mvX12_draw : MFv yX12_draw RX12 := ⟨wnX12_draw, wsX12_draw⟩
theorem mfX12_drawn : MF yX12_drawn cX12_drawn 6 (some .int) 2 := ⟨wcX12_drawn, wiX12, by decide +kernel⟩
theorem mvX12_drawn : MFv yX12_drawn RX12 := ⟨wnX12_drawn, wsX12_drawn⟩
theorem mfX12_part : MF yX12_part cX12_part 2 (some .long) 1 := ⟨wcX12_part, wiX12, by decide +kernel⟩
theorem mvX12_part : MFv yX12_part RX12 := ⟨wnX12_part, wsX12_part⟩
theorem mfX12_carry : MF yX12_carry cX12_carry 7 none 5 := ⟨wcX12_carry, wiX12, by decide +kernel⟩
theorem mvX12_carry : MFv yX12_carry RX12 := ⟨wnX12_carry, wsX12_carry⟩
theorem mfX12_image : MF yX12_image cX12_image 3 (some .int) 1 := ⟨wcX12_image, wiX12, by decide +kernel⟩
theorem mvX12_image : MFv yX12_image RX12 := ⟨wnX12_image, wsX12_image⟩
theorem mfX12_from : MF yX12_from cX12_from 3 (some .int) 1 := ⟨wcX12_from, wiX12, by decide +kernel⟩
theorem mvX12_from : MFv yX12_from RX12 := ⟨wnX12_from, wsX12_from⟩
theorem mfX12_status : MF yX12_status cX12_status 2 (some .int) 1 := ⟨wcX12_status, wiX12, by decide +kernel⟩
theorem mvX12_status : MFv yX12_status RX12 := ⟨wnX12_status, wsX12_status⟩
theorem mfX12_countOf : MF yX12_countOf cX12_countOf 2 (some .int) 1 := ⟨wcX12_countOf, wiX12, by decide +kernel⟩
theorem mvX12_countOf : MFv yX12_countOf RX12 := ⟨wnX12_countOf, wsX12_countOf⟩
theorem mfX12_count : MF yX12_count cX12_count 2 (some .int) 1 := ⟨wcX12_count, wiX12, by decide +kernel⟩
theorem mvX12_count : MFv yX12_count RX12 := ⟨wnX12_count, wsX12_count⟩
theorem mfX12_mix : MF yX12_mix cX12_mix 3 none 1 := ⟨wcX12_mix, wiX12, by decide +kernel⟩
theorem mvX12_mix : MFv yX12_mix RX12 := ⟨wnX12_mix, wsX12_mix⟩
theorem mfX12_digest : MF yX12_digest cX12_digest 3 (some .long) 0 := ⟨wcX12_digest, wiX12, by decide +kernel⟩
theorem mvX12_digest : MFv yX12_digest RX12 := ⟨wnX12_digest, wsX12_digest⟩
end
section
theorem zz_last : True := trivial
end

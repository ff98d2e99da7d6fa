section
-- ===== PART A: goes FIRST, ahead of the names: the tables' words, and 'selects' of the private methods out of them =====
/-- a private method of a class that the tables say can be made, by its rows of tables_1 -/
def lw_okq (q : MethodName × Nat) : Prop := (q.1.cls ≠ "java/lang/invoke/MethodHandle" ∧ q.1.cls ≠ "java/lang/invoke/VarHandle") ∧ Cond.instantiable q.1.cls q.2 ∈ tables_1 ∧ Cond.privateMethod q.1 ∈ tables_1 ∧ Cond.instanceMethod q.1 ∈ tables_1
theorem lw_p0 : lw_okq (⟨"PressedPad", "bad", "(I)I"⟩, 15) := ⟨⟨by decide +kernel, by decide +kernel⟩, List.mem_of_getElem? (i := 21) (by decide +kernel), List.mem_of_getElem? (i := 267) (by decide +kernel), List.mem_of_getElem? (i := 268) (by decide +kernel)⟩
theorem lw_p1 : lw_okq (⟨"PressedPad", "no", "()I"⟩, 15) := ⟨⟨by decide +kernel, by decide +kernel⟩, List.mem_of_getElem? (i := 21) (by decide +kernel), List.mem_of_getElem? (i := 297) (by decide +kernel), List.mem_of_getElem? (i := 298) (by decide +kernel)⟩
theorem lw_p2 : lw_okq (⟨"PressedPad", "full", "()I"⟩, 15) := ⟨⟨by decide +kernel, by decide +kernel⟩, List.mem_of_getElem? (i := 21) (by decide +kernel), List.mem_of_getElem? (i := 305) (by decide +kernel), List.mem_of_getElem? (i := 306) (by decide +kernel)⟩
theorem lw_p3 : lw_okq (⟨"PressedPad$PenBox", "penOf", "(I)LPressedPad$Pencil;"⟩, 1) := ⟨⟨by decide +kernel, by decide +kernel⟩, List.mem_of_getElem? (i := 29) (by decide +kernel), List.mem_of_getElem? (i := 324) (by decide +kernel), List.mem_of_getElem? (i := 325) (by decide +kernel)⟩
theorem lw_p4 : lw_okq (⟨"PressedPad$Pad", "pressInto", "(III)V"⟩, 12) := ⟨⟨by decide +kernel, by decide +kernel⟩, List.mem_of_getElem? (i := 82) (by decide +kernel), List.mem_of_getElem? (i := 379) (by decide +kernel), List.mem_of_getElem? (i := 380) (by decide +kernel)⟩
theorem lw_p5 : lw_okq (⟨"PressedPad$Reader", "step", "()V"⟩, 8) := ⟨⟨by decide +kernel, by decide +kernel⟩, List.mem_of_getElem? (i := 184) (by decide +kernel), List.mem_of_getElem? (i := 426) (by decide +kernel), List.mem_of_getElem? (i := 427) (by decide +kernel)⟩
theorem lw_p6 : lw_okq (⟨"PressedPad$Reader", "isWithin", "(III)Z"⟩, 8) := ⟨⟨by decide +kernel, by decide +kernel⟩, List.mem_of_getElem? (i := 184) (by decide +kernel), List.mem_of_getElem? (i := 430) (by decide +kernel), List.mem_of_getElem? (i := 431) (by decide +kernel)⟩
theorem lw_p7 : lw_okq (⟨"PressedPad$Reader", "passWord", "()V"⟩, 8) := ⟨⟨by decide +kernel, by decide +kernel⟩, List.mem_of_getElem? (i := 184) (by decide +kernel), List.mem_of_getElem? (i := 434) (by decide +kernel), List.mem_of_getElem? (i := 435) (by decide +kernel)⟩
theorem lw_p8 : lw_okq (⟨"PressedPad$Reader", "passFigures", "()V"⟩, 8) := ⟨⟨by decide +kernel, by decide +kernel⟩, List.mem_of_getElem? (i := 184) (by decide +kernel), List.mem_of_getElem? (i := 438) (by decide +kernel), List.mem_of_getElem? (i := 439) (by decide +kernel)⟩
theorem lw_p9 : lw_okq (⟨"PressedPad$Reader", "readFirst", "(LPressedPad$Pad;)Z"⟩, 8) := ⟨⟨by decide +kernel, by decide +kernel⟩, List.mem_of_getElem? (i := 184) (by decide +kernel), List.mem_of_getElem? (i := 442) (by decide +kernel), List.mem_of_getElem? (i := 443) (by decide +kernel)⟩
theorem lw_p10 : lw_okq (⟨"PressedPad$Reader", "isWord", "(Ljava/lang/String;)Z"⟩, 8) := ⟨⟨by decide +kernel, by decide +kernel⟩, List.mem_of_getElem? (i := 184) (by decide +kernel), List.mem_of_getElem? (i := 447) (by decide +kernel), List.mem_of_getElem? (i := 448) (by decide +kernel)⟩
theorem lw_p11 : lw_okq (⟨"PressedPad$Reader", "isNumber", "(II)Z"⟩, 8) := ⟨⟨by decide +kernel, by decide +kernel⟩, List.mem_of_getElem? (i := 184) (by decide +kernel), List.mem_of_getElem? (i := 499) (by decide +kernel), List.mem_of_getElem? (i := 500) (by decide +kernel)⟩
theorem lw_p12 : lw_okq (⟨"PressedPad$Reader", "passStop", "()Z"⟩, 8) := ⟨⟨by decide +kernel, by decide +kernel⟩, List.mem_of_getElem? (i := 184) (by decide +kernel), List.mem_of_getElem? (i := 504) (by decide +kernel), List.mem_of_getElem? (i := 505) (by decide +kernel)⟩
theorem lw_p13 : lw_okq (⟨"PressedPad$Reader", "readItem", "(LPressedPad$Pad;LPressedPad$PenBox;)Z"⟩, 8) := ⟨⟨by decide +kernel, by decide +kernel⟩, List.mem_of_getElem? (i := 184) (by decide +kernel), List.mem_of_getElem? (i := 508) (by decide +kernel), List.mem_of_getElem? (i := 509) (by decide +kernel)⟩
theorem lw_p14 : lw_okq (⟨"PressedPad$Reader", "readCarbon", "(LPressedPad$Pad;)Z"⟩, 8) := ⟨⟨by decide +kernel, by decide +kernel⟩, List.mem_of_getElem? (i := 184) (by decide +kernel), List.mem_of_getElem? (i := 513) (by decide +kernel), List.mem_of_getElem? (i := 514) (by decide +kernel)⟩
theorem lw_p15 : lw_okq (⟨"PressedPad$Reader", "readPen", "()Z"⟩, 8) := ⟨⟨by decide +kernel, by decide +kernel⟩, List.mem_of_getElem? (i := 184) (by decide +kernel), List.mem_of_getElem? (i := 522) (by decide +kernel), List.mem_of_getElem? (i := 523) (by decide +kernel)⟩
def lw_privs_1 : List (MethodName × Nat) := [(⟨"PressedPad", "bad", "(I)I"⟩, 15), (⟨"PressedPad", "no", "()I"⟩, 15), (⟨"PressedPad", "full", "()I"⟩, 15), (⟨"PressedPad$PenBox", "penOf", "(I)LPressedPad$Pencil;"⟩, 1), (⟨"PressedPad$Pad", "pressInto", "(III)V"⟩, 12), (⟨"PressedPad$Reader", "step", "()V"⟩, 8), (⟨"PressedPad$Reader", "isWithin", "(III)Z"⟩, 8), (⟨"PressedPad$Reader", "passWord", "()V"⟩, 8), (⟨"PressedPad$Reader", "passFigures", "()V"⟩, 8), (⟨"PressedPad$Reader", "readFirst", "(LPressedPad$Pad;)Z"⟩, 8), (⟨"PressedPad$Reader", "isWord", "(Ljava/lang/String;)Z"⟩, 8), (⟨"PressedPad$Reader", "isNumber", "(II)Z"⟩, 8), (⟨"PressedPad$Reader", "passStop", "()Z"⟩, 8), (⟨"PressedPad$Reader", "readItem", "(LPressedPad$Pad;LPressedPad$PenBox;)Z"⟩, 8), (⟨"PressedPad$Reader", "readCarbon", "(LPressedPad$Pad;)Z"⟩, 8), (⟨"PressedPad$Reader", "readPen", "()Z"⟩, 8)]
theorem lw_r1 : ∀ q ∈ lw_privs_1, lw_okq q := List.forall_mem_cons.mpr ⟨lw_p0, List.forall_mem_cons.mpr ⟨lw_p1, List.forall_mem_cons.mpr ⟨lw_p2, List.forall_mem_cons.mpr ⟨lw_p3, List.forall_mem_cons.mpr ⟨lw_p4, List.forall_mem_cons.mpr ⟨lw_p5, List.forall_mem_cons.mpr ⟨lw_p6, List.forall_mem_cons.mpr ⟨lw_p7, List.forall_mem_cons.mpr ⟨lw_p8, List.forall_mem_cons.mpr ⟨lw_p9, List.forall_mem_cons.mpr ⟨lw_p10, List.forall_mem_cons.mpr ⟨lw_p11, List.forall_mem_cons.mpr ⟨lw_p12, List.forall_mem_cons.mpr ⟨lw_p13, List.forall_mem_cons.mpr ⟨lw_p14, List.forall_mem_cons.mpr ⟨lw_p15, fun _ h => absurd h List.not_mem_nil⟩⟩⟩⟩⟩⟩⟩⟩⟩⟩⟩⟩⟩⟩⟩⟩
theorem lw_p16 : lw_okq (⟨"PressedPad$Reader", "readCells", "()I"⟩, 8) := ⟨⟨by decide +kernel, by decide +kernel⟩, List.mem_of_getElem? (i := 184) (by decide +kernel), List.mem_of_getElem? (i := 526) (by decide +kernel), List.mem_of_getElem? (i := 527) (by decide +kernel)⟩
theorem lw_p17 : lw_okq (⟨"PressedPad", "wordsThatFit", "()I"⟩, 15) := ⟨⟨by decide +kernel, by decide +kernel⟩, List.mem_of_getElem? (i := 21) (by decide +kernel), List.mem_of_getElem? (i := 642) (by decide +kernel), List.mem_of_getElem? (i := 643) (by decide +kernel)⟩
theorem lw_p18 : lw_okq (⟨"PressedPad$Rows", "layFrom", "(LPressedPad$Pad;III)V"⟩, 5) := ⟨⟨by decide +kernel, by decide +kernel⟩, List.mem_of_getElem? (i := 162) (by decide +kernel), List.mem_of_getElem? (i := 663) (by decide +kernel), List.mem_of_getElem? (i := 664) (by decide +kernel)⟩
theorem lw_p19 : lw_okq (⟨"PressedPad$Rows", "mayLie", "(LPressedPad$Pad;III)Z"⟩, 5) := ⟨⟨by decide +kernel, by decide +kernel⟩, List.mem_of_getElem? (i := 162) (by decide +kernel), List.mem_of_getElem? (i := 667) (by decide +kernel), List.mem_of_getElem? (i := 668) (by decide +kernel)⟩
theorem lw_p20 : lw_okq (⟨"PressedPad", "keepFraction", "(JJ)V"⟩, 15) := ⟨⟨by decide +kernel, by decide +kernel⟩, List.mem_of_getElem? (i := 21) (by decide +kernel), List.mem_of_getElem? (i := 690) (by decide +kernel), List.mem_of_getElem? (i := 691) (by decide +kernel)⟩
theorem lw_p21 : lw_okq (⟨"PressedPad", "sumOfLast", "()I"⟩, 15) := ⟨⟨by decide +kernel, by decide +kernel⟩, List.mem_of_getElem? (i := 21) (by decide +kernel), List.mem_of_getElem? (i := 714) (by decide +kernel), List.mem_of_getElem? (i := 715) (by decide +kernel)⟩
theorem lw_p22 : lw_okq (⟨"PressedPad", "imageOf", "(I)LPressedPad$Pad;"⟩, 15) := ⟨⟨by decide +kernel, by decide +kernel⟩, List.mem_of_getElem? (i := 21) (by decide +kernel), List.mem_of_getElem? (i := 726) (by decide +kernel), List.mem_of_getElem? (i := 727) (by decide +kernel)⟩
theorem lw_p23 : lw_okq (⟨"PressedPad", "amountOf", "(I)I"⟩, 15) := ⟨⟨by decide +kernel, by decide +kernel⟩, List.mem_of_getElem? (i := 21) (by decide +kernel), List.mem_of_getElem? (i := 742) (by decide +kernel), List.mem_of_getElem? (i := 743) (by decide +kernel)⟩
theorem lw_p24 : lw_okq (⟨"PressedPadModel", "bad", "()I"⟩, 30) := ⟨⟨by decide +kernel, by decide +kernel⟩, List.mem_of_getElem? (i := 757) (by decide +kernel), List.mem_of_getElem? (i := 863) (by decide +kernel), List.mem_of_getElem? (i := 864) (by decide +kernel)⟩
theorem lw_p25 : lw_okq (⟨"PressedPadModel", "refuse", "(II)I"⟩, 30) := ⟨⟨by decide +kernel, by decide +kernel⟩, List.mem_of_getElem? (i := 757) (by decide +kernel), List.mem_of_getElem? (i := 867) (by decide +kernel), List.mem_of_getElem? (i := 868) (by decide +kernel)⟩
theorem lw_p26 : lw_okq (⟨"PressedPadModel", "empty", "()V"⟩, 30) := ⟨⟨by decide +kernel, by decide +kernel⟩, List.mem_of_getElem? (i := 757) (by decide +kernel), List.mem_of_getElem? (i := 871) (by decide +kernel), List.mem_of_getElem? (i := 872) (by decide +kernel)⟩
theorem lw_p27 : lw_okq (⟨"PressedPadModel", "note", "()V"⟩, 30) := ⟨⟨by decide +kernel, by decide +kernel⟩, List.mem_of_getElem? (i := 757) (by decide +kernel), List.mem_of_getElem? (i := 889) (by decide +kernel), List.mem_of_getElem? (i := 890) (by decide +kernel)⟩
theorem lw_p28 : lw_okq (⟨"PressedPadModel", "writeNow", "(III)V"⟩, 30) := ⟨⟨by decide +kernel, by decide +kernel⟩, List.mem_of_getElem? (i := 757) (by decide +kernel), List.mem_of_getElem? (i := 893) (by decide +kernel), List.mem_of_getElem? (i := 894) (by decide +kernel)⟩
theorem lw_p29 : lw_okq (⟨"PressedPadModel", "dentAll", "(III)V"⟩, 30) := ⟨⟨by decide +kernel, by decide +kernel⟩, List.mem_of_getElem? (i := 757) (by decide +kernel), List.mem_of_getElem? (i := 897) (by decide +kernel), List.mem_of_getElem? (i := 898) (by decide +kernel)⟩
theorem lw_p30 : lw_okq (⟨"PressedPadModel", "readPad", "()Z"⟩, 30) := ⟨⟨by decide +kernel, by decide +kernel⟩, List.mem_of_getElem? (i := 757) (by decide +kernel), List.mem_of_getElem? (i := 942) (by decide +kernel), List.mem_of_getElem? (i := 943) (by decide +kernel)⟩
theorem lw_p31 : lw_okq (⟨"PressedPadModel", "nextToken", "()V"⟩, 30) := ⟨⟨by decide +kernel, by decide +kernel⟩, List.mem_of_getElem? (i := 757) (by decide +kernel), List.mem_of_getElem? (i := 946) (by decide +kernel), List.mem_of_getElem? (i := 947) (by decide +kernel)⟩
def lw_privs_2 : List (MethodName × Nat) := [(⟨"PressedPad$Reader", "readCells", "()I"⟩, 8), (⟨"PressedPad", "wordsThatFit", "()I"⟩, 15), (⟨"PressedPad$Rows", "layFrom", "(LPressedPad$Pad;III)V"⟩, 5), (⟨"PressedPad$Rows", "mayLie", "(LPressedPad$Pad;III)Z"⟩, 5), (⟨"PressedPad", "keepFraction", "(JJ)V"⟩, 15), (⟨"PressedPad", "sumOfLast", "()I"⟩, 15), (⟨"PressedPad", "imageOf", "(I)LPressedPad$Pad;"⟩, 15), (⟨"PressedPad", "amountOf", "(I)I"⟩, 15), (⟨"PressedPadModel", "bad", "()I"⟩, 30), (⟨"PressedPadModel", "refuse", "(II)I"⟩, 30), (⟨"PressedPadModel", "empty", "()V"⟩, 30), (⟨"PressedPadModel", "note", "()V"⟩, 30), (⟨"PressedPadModel", "writeNow", "(III)V"⟩, 30), (⟨"PressedPadModel", "dentAll", "(III)V"⟩, 30), (⟨"PressedPadModel", "readPad", "()Z"⟩, 30), (⟨"PressedPadModel", "nextToken", "()V"⟩, 30)]
theorem lw_r2 : ∀ q ∈ lw_privs_2, lw_okq q := List.forall_mem_cons.mpr ⟨lw_p16, List.forall_mem_cons.mpr ⟨lw_p17, List.forall_mem_cons.mpr ⟨lw_p18, List.forall_mem_cons.mpr ⟨lw_p19, List.forall_mem_cons.mpr ⟨lw_p20, List.forall_mem_cons.mpr ⟨lw_p21, List.forall_mem_cons.mpr ⟨lw_p22, List.forall_mem_cons.mpr ⟨lw_p23, List.forall_mem_cons.mpr ⟨lw_p24, List.forall_mem_cons.mpr ⟨lw_p25, List.forall_mem_cons.mpr ⟨lw_p26, List.forall_mem_cons.mpr ⟨lw_p27, List.forall_mem_cons.mpr ⟨lw_p28, List.forall_mem_cons.mpr ⟨lw_p29, List.forall_mem_cons.mpr ⟨lw_p30, List.forall_mem_cons.mpr ⟨lw_p31, fun _ h => absurd h List.not_mem_nil⟩⟩⟩⟩⟩⟩⟩⟩⟩⟩⟩⟩⟩⟩⟩⟩
theorem lw_p32 : lw_okq (⟨"PressedPadModel", "byteAt", "(I)I"⟩, 30) := ⟨⟨by decide +kernel, by decide +kernel⟩, List.mem_of_getElem? (i := 757) (by decide +kernel), List.mem_of_getElem? (i := 950) (by decide +kernel), List.mem_of_getElem? (i := 951) (by decide +kernel)⟩
theorem lw_p33 : lw_okq (⟨"PressedPadModel", "isWord", "(IIIIII)Z"⟩, 30) := ⟨⟨by decide +kernel, by decide +kernel⟩, List.mem_of_getElem? (i := 757) (by decide +kernel), List.mem_of_getElem? (i := 956) (by decide +kernel), List.mem_of_getElem? (i := 957) (by decide +kernel)⟩
theorem lw_p34 : lw_okq (⟨"PressedPadModel", "number", "(II)Z"⟩, 30) := ⟨⟨by decide +kernel, by decide +kernel⟩, List.mem_of_getElem? (i := 757) (by decide +kernel), List.mem_of_getElem? (i := 962) (by decide +kernel), List.mem_of_getElem? (i := 963) (by decide +kernel)⟩
theorem lw_p35 : lw_okq (⟨"PressedPadModel", "readNote", "(I)Z"⟩, 30) := ⟨⟨by decide +kernel, by decide +kernel⟩, List.mem_of_getElem? (i := 757) (by decide +kernel), List.mem_of_getElem? (i := 966) (by decide +kernel), List.mem_of_getElem? (i := 967) (by decide +kernel)⟩
theorem lw_p36 : lw_okq (⟨"PressedPadModel", "isSheet", "(I)Z"⟩, 30) := ⟨⟨by decide +kernel, by decide +kernel⟩, List.mem_of_getElem? (i := 757) (by decide +kernel), List.mem_of_getElem? (i := 975) (by decide +kernel), List.mem_of_getElem? (i := 976) (by decide +kernel)⟩
theorem lw_p37 : lw_okq (⟨"PressedPadModel", "badLess", "()I"⟩, 30) := ⟨⟨by decide +kernel, by decide +kernel⟩, List.mem_of_getElem? (i := 757) (by decide +kernel), List.mem_of_getElem? (i := 979) (by decide +kernel), List.mem_of_getElem? (i := 980) (by decide +kernel)⟩
theorem lw_p38 : lw_okq (⟨"PressedPadModel", "writtenOn", "(I)I"⟩, 30) := ⟨⟨by decide +kernel, by decide +kernel⟩, List.mem_of_getElem? (i := 757) (by decide +kernel), List.mem_of_getElem? (i := 983) (by decide +kernel), List.mem_of_getElem? (i := 984) (by decide +kernel)⟩
theorem lw_p39 : lw_okq (⟨"PressedPadModel", "dentOf", "(II)I"⟩, 30) := ⟨⟨by decide +kernel, by decide +kernel⟩, List.mem_of_getElem? (i := 757) (by decide +kernel), List.mem_of_getElem? (i := 991) (by decide +kernel), List.mem_of_getElem? (i := 992) (by decide +kernel)⟩
theorem lw_p40 : lw_okq (⟨"PressedPadModel", "whoseOf", "(I)I"⟩, 30) := ⟨⟨by decide +kernel, by decide +kernel⟩, List.mem_of_getElem? (i := 757) (by decide +kernel), List.mem_of_getElem? (i := 1007) (by decide +kernel), List.mem_of_getElem? (i := 1008) (by decide +kernel)⟩
theorem lw_p41 : lw_okq (⟨"PressedPadModel", "forceIn", "(III)I"⟩, 30) := ⟨⟨by decide +kernel, by decide +kernel⟩, List.mem_of_getElem? (i := 757) (by decide +kernel), List.mem_of_getElem? (i := 1011) (by decide +kernel), List.mem_of_getElem? (i := 1012) (by decide +kernel)⟩
theorem lw_p42 : lw_okq (⟨"PressedPadModel", "areNotes", "(I)Z"⟩, 30) := ⟨⟨by decide +kernel, by decide +kernel⟩, List.mem_of_getElem? (i := 757) (by decide +kernel), List.mem_of_getElem? (i := 1027) (by decide +kernel), List.mem_of_getElem? (i := 1028) (by decide +kernel)⟩
theorem lw_p43 : lw_okq (⟨"PressedPadModel", "isLost", "(III)Z"⟩, 30) := ⟨⟨by decide +kernel, by decide +kernel⟩, List.mem_of_getElem? (i := 757) (by decide +kernel), List.mem_of_getElem? (i := 1032) (by decide +kernel), List.mem_of_getElem? (i := 1033) (by decide +kernel)⟩
theorem lw_p44 : lw_okq (⟨"PressedPadModel", "explained", "(III)I"⟩, 30) := ⟨⟨by decide +kernel, by decide +kernel⟩, List.mem_of_getElem? (i := 757) (by decide +kernel), List.mem_of_getElem? (i := 1036) (by decide +kernel), List.mem_of_getElem? (i := 1037) (by decide +kernel)⟩
theorem lw_p45 : lw_okq (⟨"PressedPadModel", "fits", "(I)Z"⟩, 30) := ⟨⟨by decide +kernel, by decide +kernel⟩, List.mem_of_getElem? (i := 757) (by decide +kernel), List.mem_of_getElem? (i := 1040) (by decide +kernel), List.mem_of_getElem? (i := 1041) (by decide +kernel)⟩
theorem lw_p46 : lw_okq (⟨"PressedPadModel", "isRow", "()Z"⟩, 30) := ⟨⟨by decide +kernel, by decide +kernel⟩, List.mem_of_getElem? (i := 757) (by decide +kernel), List.mem_of_getElem? (i := 1055) (by decide +kernel), List.mem_of_getElem? (i := 1056) (by decide +kernel)⟩
theorem lw_p47 : lw_okq (⟨"PressedPadModel", "placeOf", "(I)I"⟩, 30) := ⟨⟨by decide +kernel, by decide +kernel⟩, List.mem_of_getElem? (i := 757) (by decide +kernel), List.mem_of_getElem? (i := 1059) (by decide +kernel), List.mem_of_getElem? (i := 1060) (by decide +kernel)⟩
def lw_privs_3 : List (MethodName × Nat) := [(⟨"PressedPadModel", "byteAt", "(I)I"⟩, 30), (⟨"PressedPadModel", "isWord", "(IIIIII)Z"⟩, 30), (⟨"PressedPadModel", "number", "(II)Z"⟩, 30), (⟨"PressedPadModel", "readNote", "(I)Z"⟩, 30), (⟨"PressedPadModel", "isSheet", "(I)Z"⟩, 30), (⟨"PressedPadModel", "badLess", "()I"⟩, 30), (⟨"PressedPadModel", "writtenOn", "(I)I"⟩, 30), (⟨"PressedPadModel", "dentOf", "(II)I"⟩, 30), (⟨"PressedPadModel", "whoseOf", "(I)I"⟩, 30), (⟨"PressedPadModel", "forceIn", "(III)I"⟩, 30), (⟨"PressedPadModel", "areNotes", "(I)Z"⟩, 30), (⟨"PressedPadModel", "isLost", "(III)Z"⟩, 30), (⟨"PressedPadModel", "explained", "(III)I"⟩, 30), (⟨"PressedPadModel", "fits", "(I)Z"⟩, 30), (⟨"PressedPadModel", "isRow", "()Z"⟩, 30), (⟨"PressedPadModel", "placeOf", "(I)I"⟩, 30)]
theorem lw_r3 : ∀ q ∈ lw_privs_3, lw_okq q := List.forall_mem_cons.mpr ⟨lw_p32, List.forall_mem_cons.mpr ⟨lw_p33, List.forall_mem_cons.mpr ⟨lw_p34, List.forall_mem_cons.mpr ⟨lw_p35, List.forall_mem_cons.mpr ⟨lw_p36, List.forall_mem_cons.mpr ⟨lw_p37, List.forall_mem_cons.mpr ⟨lw_p38, List.forall_mem_cons.mpr ⟨lw_p39, List.forall_mem_cons.mpr ⟨lw_p40, List.forall_mem_cons.mpr ⟨lw_p41, List.forall_mem_cons.mpr ⟨lw_p42, List.forall_mem_cons.mpr ⟨lw_p43, List.forall_mem_cons.mpr ⟨lw_p44, List.forall_mem_cons.mpr ⟨lw_p45, List.forall_mem_cons.mpr ⟨lw_p46, List.forall_mem_cons.mpr ⟨lw_p47, fun _ h => absurd h List.not_mem_nil⟩⟩⟩⟩⟩⟩⟩⟩⟩⟩⟩⟩⟩⟩⟩⟩
theorem lw_p48 : lw_okq (⟨"PressedPadModel", "nextRow", "()Z"⟩, 30) := ⟨⟨by decide +kernel, by decide +kernel⟩, List.mem_of_getElem? (i := 757) (by decide +kernel), List.mem_of_getElem? (i := 1063) (by decide +kernel), List.mem_of_getElem? (i := 1064) (by decide +kernel)⟩
theorem lw_p49 : lw_okq (⟨"PressedPadModel", "exchange", "(II)V"⟩, 30) := ⟨⟨by decide +kernel, by decide +kernel⟩, List.mem_of_getElem? (i := 757) (by decide +kernel), List.mem_of_getElem? (i := 1067) (by decide +kernel), List.mem_of_getElem? (i := 1068) (by decide +kernel)⟩
theorem lw_p50 : lw_okq (⟨"PressedPadModel", "draw", "(I)I"⟩, 30) := ⟨⟨by decide +kernel, by decide +kernel⟩, List.mem_of_getElem? (i := 757) (by decide +kernel), List.mem_of_getElem? (i := 1097) (by decide +kernel), List.mem_of_getElem? (i := 1098) (by decide +kernel)⟩
theorem lw_p51 : lw_okq (⟨"PressedPadModel", "carry", "([II[III)V"⟩, 30) := ⟨⟨by decide +kernel, by decide +kernel⟩, List.mem_of_getElem? (i := 757) (by decide +kernel), List.mem_of_getElem? (i := 1113) (by decide +kernel), List.mem_of_getElem? (i := 1114) (by decide +kernel)⟩
theorem lw_p52 : lw_okq (⟨"PressedPadModel", "countOf", "(I)I"⟩, 30) := ⟨⟨by decide +kernel, by decide +kernel⟩, List.mem_of_getElem? (i := 757) (by decide +kernel), List.mem_of_getElem? (i := 1130) (by decide +kernel), List.mem_of_getElem? (i := 1131) (by decide +kernel)⟩
theorem lw_p53 : lw_okq (⟨"PressedPadModel", "mix", "(J)V"⟩, 30) := ⟨⟨by decide +kernel, by decide +kernel⟩, List.mem_of_getElem? (i := 757) (by decide +kernel), List.mem_of_getElem? (i := 1139) (by decide +kernel), List.mem_of_getElem? (i := 1140) (by decide +kernel)⟩
def lw_privs_4 : List (MethodName × Nat) := [(⟨"PressedPadModel", "nextRow", "()Z"⟩, 30), (⟨"PressedPadModel", "exchange", "(II)V"⟩, 30), (⟨"PressedPadModel", "draw", "(I)I"⟩, 30), (⟨"PressedPadModel", "carry", "([II[III)V"⟩, 30), (⟨"PressedPadModel", "countOf", "(I)I"⟩, 30), (⟨"PressedPadModel", "mix", "(J)V"⟩, 30)]
theorem lw_r4 : ∀ q ∈ lw_privs_4, lw_okq q := List.forall_mem_cons.mpr ⟨lw_p48, List.forall_mem_cons.mpr ⟨lw_p49, List.forall_mem_cons.mpr ⟨lw_p50, List.forall_mem_cons.mpr ⟨lw_p51, List.forall_mem_cons.mpr ⟨lw_p52, List.forall_mem_cons.mpr ⟨lw_p53, fun _ h => absurd h List.not_mem_nil⟩⟩⟩⟩⟩⟩
def lw_privs : List (MethodName × Nat) := lw_privs_1 ++ (lw_privs_2 ++ (lw_privs_3 ++ (lw_privs_4)))
def lw_tbl : List Cond := k2_sels lw_privs ++ tables_1
theorem lw_privs_ok : ∀ q ∈ lw_privs, lw_okq q := by
  show ∀ q ∈ lw_privs_1 ++ (lw_privs_2 ++ (lw_privs_3 ++ (lw_privs_4))), lw_okq q
  exact List.forall_mem_append.mpr ⟨lw_r1, List.forall_mem_append.mpr ⟨lw_r2, List.forall_mem_append.mpr ⟨lw_r3, lw_r4⟩⟩⟩
end
section
def RX0 : String := "PressedPad$Ball"
def TX0 : u_T := fun k => match k with
  | _ => ("", "", "", false)
def tyX0 : Nat → FieldType := fun k => match k with
  | _ => .int
abbrev wsX00 : List Cond := u_ws RX0 TX0 0
theorem nmX0 : ∀ a, a < 0 → ∀ b, b < 0 → a ≠ b → (TX0 a).2.1 ≠ (TX0 b).2.1 := by decide +kernel
theorem tyX0_ok : ∀ k, k < 0 → parseFieldDescriptor (TX0 k).2.2.1 = some (tyX0 k) := by decide +kernel
abbrev cX0_init : ByteArray := prog_2_method_1_code
def yX0_init : MethodName := ⟨RX0, "<init>", "()V"⟩
abbrev cX0_forceAt : ByteArray := prog_2_method_2_code
def yX0_forceAt : MethodName := ⟨RX0, "forceAt", "(II)I"⟩
def RX1 : String := "PressedPad$Felt"
def TX1 : u_T := fun k => match k with
  | _ => ("", "", "", false)
def tyX1 : Nat → FieldType := fun k => match k with
  | _ => .int
abbrev wsX10 : List Cond := u_ws RX1 TX1 0
theorem nmX1 : ∀ a, a < 0 → ∀ b, b < 0 → a ≠ b → (TX1 a).2.1 ≠ (TX1 b).2.1 := by decide +kernel
theorem tyX1_ok : ∀ k, k < 0 → parseFieldDescriptor (TX1 k).2.2.1 = some (tyX1 k) := by decide +kernel
abbrev cX1_init : ByteArray := prog_3_method_1_code
def yX1_init : MethodName := ⟨RX1, "<init>", "()V"⟩
abbrev cX1_forceAt : ByteArray := prog_3_method_2_code
def yX1_forceAt : MethodName := ⟨RX1, "forceAt", "(II)I"⟩
def RX2 : String := "PressedPad$Lost"
def TX2 : u_T := fun k => match k with
  | 0 => ("PressedPad$Lost", "seen", "[I", true)
  | 1 => ("PressedPad$Lost", "explained", "[I", true)
  | 2 => ("PressedPad$Lost", "must", "I", false)
  | _ => ("PressedPad$Lost", "may", "I", false)
def tyX2 : Nat → FieldType := fun k => match k with
  | 0 => .array .int
  | 1 => .array .int
  | 2 => .int
  | _ => .int
abbrev wsX20 : List Cond := u_ws RX2 TX2 4
theorem nmX2 : ∀ a, a < 4 → ∀ b, b < 4 → a ≠ b → (TX2 a).2.1 ≠ (TX2 b).2.1 := by decide +kernel
theorem tyX2_ok : ∀ k, k < 4 → parseFieldDescriptor (TX2 k).2.2.1 = some (tyX2 k) := by decide +kernel
abbrev cX2_init : ByteArray := prog_4_method_1_code
def yX2_init : MethodName := ⟨RX2, "<init>", "()V"⟩
abbrev cX2_look : ByteArray := prog_4_method_2_code
def yX2_look : MethodName := ⟨RX2, "look", "(LPressedPad$Pad;II)V"⟩
abbrev cX2_guess : ByteArray := prog_4_method_3_code
def yX2_guess : MethodName := ⟨RX2, "guess", "(I)Z"⟩
abbrev cX2_isFit : ByteArray := prog_4_method_4_code
def yX2_isFit : MethodName := ⟨RX2, "isFit", "(I)Z"⟩
def RX3 : String := "PressedPad$Nib"
def TX3 : u_T := fun k => match k with
  | _ => ("", "", "", false)
def tyX3 : Nat → FieldType := fun k => match k with
  | _ => .int
abbrev wsX30 : List Cond := u_ws RX3 TX3 0
theorem nmX3 : ∀ a, a < 0 → ∀ b, b < 0 → a ≠ b → (TX3 a).2.1 ≠ (TX3 b).2.1 := by decide +kernel
theorem tyX3_ok : ∀ k, k < 0 → parseFieldDescriptor (TX3 k).2.2.1 = some (tyX3 k) := by decide +kernel
abbrev cX3_init : ByteArray := prog_5_method_1_code
def yX3_init : MethodName := ⟨RX3, "<init>", "()V"⟩
abbrev cX3_forceAt : ByteArray := prog_5_method_2_code
def yX3_forceAt : MethodName := ⟨RX3, "forceAt", "(II)I"⟩
def RX4 : String := "PressedPad$Pad"
def TX4 : u_T := fun k => match k with
  | 0 => ("PressedPad$Pad", "page", "[I", true)
  | 1 => ("PressedPad$Pad", "earlier", "[I", true)
  | 2 => ("PressedPad$Pad", "undoable", "I", false)
  | 3 => ("PressedPad$Pad", "sheets", "I", false)
  | 4 => ("PressedPad$Pad", "carbonBits", "I", false)
  | 5 => ("PressedPad$Pad", "noteKind", "[I", true)
  | 6 => ("PressedPad$Pad", "notePress", "[I", true)
  | 7 => ("PressedPad$Pad", "noteCells", "[I", true)
  | 8 => ("PressedPad$Pad", "noteSheet", "[I", true)
  | 9 => ("PressedPad$Pad", "noteForces", "[I", true)
  | 10 => ("PressedPad$Pad", "words", "[I", true)
  | _ => ("PressedPad$Pad", "wordCount", "I", false)
def tyX4 : Nat → FieldType := fun k => match k with
  | 0 => .array .int
  | 1 => .array .int
  | 2 => .int
  | 3 => .int
  | 4 => .int
  | 5 => .array .int
  | 6 => .array .int
  | 7 => .array .int
  | 8 => .array .int
  | 9 => .array .int
  | 10 => .array .int
  | _ => .int
abbrev wsX40 : List Cond := u_ws RX4 TX4 12
theorem nmX4 : ∀ a, a < 12 → ∀ b, b < 12 → a ≠ b → (TX4 a).2.1 ≠ (TX4 b).2.1 := by decide +kernel
theorem tyX4_ok : ∀ k, k < 12 → parseFieldDescriptor (TX4 k).2.2.1 = some (tyX4 k) := by decide +kernel
abbrev cX4_init : ByteArray := prog_6_method_1_code
def yX4_init : MethodName := ⟨RX4, "<init>", "()V"⟩
abbrev cX4_beginAnew : ByteArray := prog_6_method_2_code
def yX4_beginAnew : MethodName := ⟨RX4, "beginAnew", "(I)V"⟩
abbrev cX4_copyFrom : ByteArray := prog_6_method_3_code
def yX4_copyFrom : MethodName := ⟨RX4, "copyFrom", "(LPressedPad$Pad;)V"⟩
abbrev cX4_keepForUndo : ByteArray := prog_6_method_4_code
def yX4_keepForUndo : MethodName := ⟨RX4, "keepForUndo", "()V"⟩
abbrev cX4_goBack : ByteArray := prog_6_method_5_code
def yX4_goBack : MethodName := ⟨RX4, "goBack", "()V"⟩
abbrev cX4_top : ByteArray := prog_6_method_6_code
def yX4_top : MethodName := ⟨RX4, "top", "()I"⟩
abbrev cX4_noteCount : ByteArray := prog_6_method_7_code
def yX4_noteCount : MethodName := ⟨RX4, "noteCount", "()I"⟩
abbrev cX4_isUsedUp : ByteArray := prog_6_method_8_code
def yX4_isUsedUp : MethodName := ⟨RX4, "isUsedUp", "()Z"⟩
abbrev cX4_hasSheet : ByteArray := prog_6_method_9_code
def yX4_hasSheet : MethodName := ⟨RX4, "hasSheet", "(I)Z"⟩
abbrev cX4_hasSheets : ByteArray := prog_6_method_10_code
def yX4_hasSheets : MethodName := ⟨RX4, "hasSheets", "(I)Z"⟩
abbrev cX4_hasNote : ByteArray := prog_6_method_11_code
def yX4_hasNote : MethodName := ⟨RX4, "hasNote", "(I)Z"⟩
abbrev cX4_hasNotes : ByteArray := prog_6_method_12_code
def yX4_hasNotes : MethodName := ⟨RX4, "hasNotes", "(I)Z"⟩
abbrev cX4_placeOf : ByteArray := prog_6_method_13_code
def yX4_placeOf : MethodName := ⟨RX4, "placeOf", "(II)I"⟩
abbrev cX4_inkOf : ByteArray := prog_6_method_14_code
def yX4_inkOf : MethodName := ⟨RX4, "inkOf", "(I)I"⟩
abbrev cX4_copyOf : ByteArray := prog_6_method_15_code
def yX4_copyOf : MethodName := ⟨RX4, "copyOf", "(I)I"⟩
abbrev cX4_dentOf : ByteArray := prog_6_method_16_code
def yX4_dentOf : MethodName := ⟨RX4, "dentOf", "(II)I"⟩
abbrev cX4_tearTop : ByteArray := prog_6_method_17_code
def yX4_tearTop : MethodName := ⟨RX4, "tearTop", "()I"⟩
abbrev cX4_putNote : ByteArray := prog_6_method_18_code
def yX4_putNote : MethodName := ⟨RX4, "putNote", "(LPressedPad$PenBox;III)I"⟩
abbrev cX4_pressInto : ByteArray := prog_6_method_19_code
def yX4_pressInto : MethodName := ⟨RX4, "pressInto", "(III)V"⟩
abbrev cX4_writtenOn : ByteArray := prog_6_method_20_code
def yX4_writtenOn : MethodName := ⟨RX4, "writtenOn", "(I)I"⟩
abbrev cX4_forceOn : ByteArray := prog_6_method_21_code
def yX4_forceOn : MethodName := ⟨RX4, "forceOn", "(II)I"⟩
abbrev cX4_forceDown : ByteArray := prog_6_method_22_code
def yX4_forceDown : MethodName := ⟨RX4, "forceDown", "(II)I"⟩
abbrev cX4_cellsDented : ByteArray := prog_6_method_23_code
def yX4_cellsDented : MethodName := ⟨RX4, "cellsDented", "(II)I"⟩
abbrev cX4_dentedBy : ByteArray := prog_6_method_24_code
def yX4_dentedBy : MethodName := ⟨RX4, "dentedBy", "(I)I"⟩
abbrev cX4_dentedAtLeast : ByteArray := prog_6_method_25_code
def yX4_dentedAtLeast : MethodName := ⟨RX4, "dentedAtLeast", "(II)I"⟩
abbrev cX4_digestFrom : ByteArray := prog_6_method_26_code
def yX4_digestFrom : MethodName := ⟨RX4, "digestFrom", "(J)J"⟩
def RX5 : String := "PressedPad$PenBox"
def TX5 : u_T := fun k => match k with
  | _ => ("PressedPad$PenBox", "pens", "[LPressedPad$Pencil;", true)
def tyX5 : Nat → FieldType := fun k => match k with
  | _ => .array (.object "PressedPad$Pencil")
abbrev wsX50 : List Cond := u_ws RX5 TX5 1
theorem nmX5 : ∀ a, a < 1 → ∀ b, b < 1 → a ≠ b → (TX5 a).2.1 ≠ (TX5 b).2.1 := by decide +kernel
theorem tyX5_ok : ∀ k, k < 1 → parseFieldDescriptor (TX5 k).2.2.1 = some (tyX5 k) := by decide +kernel
abbrev cX5_init : ByteArray := prog_7_method_1_code
def yX5_init : MethodName := ⟨RX5, "<init>", "()V"⟩
abbrev cX5_penOf : ByteArray := prog_7_method_2_code
def yX5_penOf : MethodName := ⟨RX5, "penOf", "(I)LPressedPad$Pencil;"⟩
abbrev cX5_forceOf : ByteArray := prog_7_method_3_code
def yX5_forceOf : MethodName := ⟨RX5, "forceOf", "(III)I"⟩
abbrev cX5_hasInk : ByteArray := prog_7_method_4_code
def yX5_hasInk : MethodName := ⟨RX5, "hasInk", "(I)Z"⟩
def RX6 : String := "PressedPad$Pencil"
def TX6 : u_T := fun k => match k with
  | _ => ("", "", "", false)
def tyX6 : Nat → FieldType := fun k => match k with
  | _ => .int
abbrev wsX60 : List Cond := u_ws RX6 TX6 0
theorem nmX6 : ∀ a, a < 0 → ∀ b, b < 0 → a ≠ b → (TX6 a).2.1 ≠ (TX6 b).2.1 := by decide +kernel
theorem tyX6_ok : ∀ k, k < 0 → parseFieldDescriptor (TX6 k).2.2.1 = some (tyX6 k) := by decide +kernel
abbrev cX6_init : ByteArray := prog_8_method_1_code
def yX6_init : MethodName := ⟨RX6, "<init>", "()V"⟩
abbrev cX6_forceAt : ByteArray := prog_8_method_2_code
def yX6_forceAt : MethodName := ⟨RX6, "forceAt", "(II)I"⟩
abbrev cX6_leavesInk : ByteArray := prog_8_method_3_code
def yX6_leavesInk : MethodName := ⟨RX6, "leavesInk", "()Z"⟩
def RX7 : String := "PressedPad$Reader"
def TX7 : u_T := fun k => match k with
  | 0 => ("PressedPad$Reader", "text", "[I", true)
  | 1 => ("PressedPad$Reader", "length", "I", false)
  | 2 => ("PressedPad$Reader", "next", "I", false)
  | 3 => ("PressedPad$Reader", "token", "I", false)
  | 4 => ("PressedPad$Reader", "start", "I", false)
  | 5 => ("PressedPad$Reader", "value", "I", false)
  | 6 => ("PressedPad$Reader", "kind", "I", false)
  | _ => ("PressedPad$Reader", "press", "I", false)
def tyX7 : Nat → FieldType := fun k => match k with
  | 0 => .array .int
  | 1 => .int
  | 2 => .int
  | 3 => .int
  | 4 => .int
  | 5 => .int
  | 6 => .int
  | _ => .int
abbrev wsX70 : List Cond := u_ws RX7 TX7 8
theorem nmX7 : ∀ a, a < 8 → ∀ b, b < 8 → a ≠ b → (TX7 a).2.1 ≠ (TX7 b).2.1 := by decide +kernel
theorem tyX7_ok : ∀ k, k < 8 → parseFieldDescriptor (TX7 k).2.2.1 = some (tyX7 k) := by decide +kernel
abbrev cX7_init : ByteArray := prog_9_method_1_code
def yX7_init : MethodName := ⟨RX7, "<init>", "()V"⟩
abbrev cX7_fault : ByteArray := prog_9_method_2_code
def yX7_fault : MethodName := ⟨RX7, "fault", "()I"⟩
abbrev cX7_readInto : ByteArray := prog_9_method_3_code
def yX7_readInto : MethodName := ⟨RX7, "readInto", "(LPressedPad$Pad;LPressedPad$PenBox;)I"⟩
abbrev cX7_readFirst : ByteArray := prog_9_method_4_code
def yX7_readFirst : MethodName := ⟨RX7, "readFirst", "(LPressedPad$Pad;)Z"⟩
abbrev cX7_readItem : ByteArray := prog_9_method_5_code
def yX7_readItem : MethodName := ⟨RX7, "readItem", "(LPressedPad$Pad;LPressedPad$PenBox;)Z"⟩
abbrev cX7_readCarbon : ByteArray := prog_9_method_6_code
def yX7_readCarbon : MethodName := ⟨RX7, "readCarbon", "(LPressedPad$Pad;)Z"⟩
abbrev cX7_readPen : ByteArray := prog_9_method_7_code
def yX7_readPen : MethodName := ⟨RX7, "readPen", "()Z"⟩
abbrev cX7_readCells : ByteArray := prog_9_method_8_code
def yX7_readCells : MethodName := ⟨RX7, "readCells", "()I"⟩
abbrev cX7_passStop : ByteArray := prog_9_method_9_code
def yX7_passStop : MethodName := ⟨RX7, "passStop", "()Z"⟩
abbrev cX7_isNumber : ByteArray := prog_9_method_10_code
def yX7_isNumber : MethodName := ⟨RX7, "isNumber", "(II)Z"⟩
abbrev cX7_isWord : ByteArray := prog_9_method_11_code
def yX7_isWord : MethodName := ⟨RX7, "isWord", "(Ljava/lang/String;)Z"⟩
abbrev cX7_isWithin : ByteArray := prog_9_method_12_code
def yX7_isWithin : MethodName := ⟨RX7, "isWithin", "(III)Z"⟩
abbrev cX7_step : ByteArray := prog_9_method_13_code
def yX7_step : MethodName := ⟨RX7, "step", "()V"⟩
abbrev cX7_passWord : ByteArray := prog_9_method_14_code
def yX7_passWord : MethodName := ⟨RX7, "passWord", "()V"⟩
abbrev cX7_passFigures : ByteArray := prog_9_method_15_code
def yX7_passFigures : MethodName := ⟨RX7, "passFigures", "()V"⟩
def RX8 : String := "PressedPad$Rows"
def TX8 : u_T := fun k => match k with
  | 0 => ("PressedPad$Rows", "row", "[I", true)
  | 1 => ("PressedPad$Rows", "placeOf", "[I", true)
  | 2 => ("PressedPad$Rows", "shownAt", "[I", true)
  | 3 => ("PressedPad$Rows", "pressed", "[I", true)
  | _ => ("PressedPad$Rows", "found", "I", false)
def tyX8 : Nat → FieldType := fun k => match k with
  | 0 => .array .int
  | 1 => .array .int
  | 2 => .array .int
  | 3 => .array .int
  | _ => .int
abbrev wsX80 : List Cond := u_ws RX8 TX8 5
theorem nmX8 : ∀ a, a < 5 → ∀ b, b < 5 → a ≠ b → (TX8 a).2.1 ≠ (TX8 b).2.1 := by decide +kernel
theorem tyX8_ok : ∀ k, k < 5 → parseFieldDescriptor (TX8 k).2.2.1 = some (tyX8 k) := by decide +kernel
abbrev cX8_init : ByteArray := prog_10_method_1_code
def yX8_init : MethodName := ⟨RX8, "<init>", "()V"⟩
abbrev cX8_sheetAt : ByteArray := prog_10_method_2_code
def yX8_sheetAt : MethodName := ⟨RX8, "sheetAt", "(I)I"⟩
abbrev cX8_search : ByteArray := prog_10_method_3_code
def yX8_search : MethodName := ⟨RX8, "search", "(LPressedPad$Pad;I)I"⟩
abbrev cX8_layFrom : ByteArray := prog_10_method_4_code
def yX8_layFrom : MethodName := ⟨RX8, "layFrom", "(LPressedPad$Pad;III)V"⟩
abbrev cX8_mayLie : ByteArray := prog_10_method_5_code
def yX8_mayLie : MethodName := ⟨RX8, "mayLie", "(LPressedPad$Pad;III)Z"⟩
def RX9 : String := "PressedPad$Stylus"
def TX9 : u_T := fun k => match k with
  | _ => ("", "", "", false)
def tyX9 : Nat → FieldType := fun k => match k with
  | _ => .int
abbrev wsX90 : List Cond := u_ws RX9 TX9 0
theorem nmX9 : ∀ a, a < 0 → ∀ b, b < 0 → a ≠ b → (TX9 a).2.1 ≠ (TX9 b).2.1 := by decide +kernel
theorem tyX9_ok : ∀ k, k < 0 → parseFieldDescriptor (TX9 k).2.2.1 = some (tyX9 k) := by decide +kernel
abbrev cX9_init : ByteArray := prog_11_method_1_code
def yX9_init : MethodName := ⟨RX9, "<init>", "()V"⟩
abbrev cX9_leavesInk : ByteArray := prog_11_method_2_code
def yX9_leavesInk : MethodName := ⟨RX9, "leavesInk", "()Z"⟩
def RX10 : String := "PressedPad$Tool"
def TX10 : u_T := fun k => match k with
  | _ => ("", "", "", false)
def tyX10 : Nat → FieldType := fun k => match k with
  | _ => .int
abbrev wsX100 : List Cond := u_ws RX10 TX10 0
theorem nmX10 : ∀ a, a < 0 → ∀ b, b < 0 → a ≠ b → (TX10 a).2.1 ≠ (TX10 b).2.1 := by decide +kernel
theorem tyX10_ok : ∀ k, k < 0 → parseFieldDescriptor (TX10 k).2.2.1 = some (tyX10 k) := by decide +kernel
abbrev cX10_init : ByteArray := prog_12_method_1_code
def yX10_init : MethodName := ⟨RX10, "<init>", "()V"⟩
abbrev cX10_forceAt : ByteArray := prog_12_method_2_code
def yX10_forceAt : MethodName := ⟨RX10, "forceAt", "(II)I"⟩
def RX11 : String := "PressedPad"
def TX11 : u_T := fun k => match k with
  | 0 => ("PressedPad", "box", "LPressedPad$PenBox;", true)
  | 1 => ("PressedPad", "now", "LPressedPad$Pad;", true)
  | 2 => ("PressedPad", "draft", "LPressedPad$Pad;", true)
  | 3 => ("PressedPad", "firstImage", "LPressedPad$Pad;", true)
  | 4 => ("PressedPad", "secondImage", "LPressedPad$Pad;", true)
  | 5 => ("PressedPad", "trace", "LPressedPad$Lost;", true)
  | 6 => ("PressedPad", "rows", "LPressedPad$Rows;", true)
  | 7 => ("PressedPad", "reader", "LPressedPad$Reader;", true)
  | 8 => ("PressedPad", "lastDents", "[I", true)
  | 9 => ("PressedPad", "keptImages", "I", false)
  | 10 => ("PressedPad", "above", "J", false)
  | 11 => ("PressedPad", "below", "J", false)
  | 12 => ("PressedPad", "badCalls", "I", false)
  | 13 => ("PressedPad", "noCalls", "I", false)
  | _ => ("PressedPad", "fullCalls", "I", false)
def tyX11 : Nat → FieldType := fun k => match k with
  | 0 => .object "PressedPad$PenBox"
  | 1 => .object "PressedPad$Pad"
  | 2 => .object "PressedPad$Pad"
  | 3 => .object "PressedPad$Pad"
  | 4 => .object "PressedPad$Pad"
  | 5 => .object "PressedPad$Lost"
  | 6 => .object "PressedPad$Rows"
  | 7 => .object "PressedPad$Reader"
  | 8 => .array .int
  | 9 => .int
  | 10 => .long
  | 11 => .long
  | 12 => .int
  | 13 => .int
  | _ => .int
abbrev wsX110 : List Cond := u_ws RX11 TX11 15
theorem nmX11 : ∀ a, a < 15 → ∀ b, b < 15 → a ≠ b → (TX11 a).2.1 ≠ (TX11 b).2.1 := by decide +kernel
theorem tyX11_ok : ∀ k, k < 15 → parseFieldDescriptor (TX11 k).2.2.1 = some (tyX11 k) := by decide +kernel
abbrev cX11_init : ByteArray := prog_1_method_1_code
def yX11_init : MethodName := ⟨RX11, "<init>", "()V"⟩
abbrev cX11_pad : ByteArray := prog_1_method_2_code
def yX11_pad : MethodName := ⟨RX11, "pad", "(I)I"⟩
abbrev cX11_carbons : ByteArray := prog_1_method_3_code
def yX11_carbons : MethodName := ⟨RX11, "carbons", "(I)I"⟩
abbrev cX11_write : ByteArray := prog_1_method_4_code
def yX11_write : MethodName := ⟨RX11, "write", "(III)I"⟩
abbrev cX11_tear : ByteArray := prog_1_method_5_code
def yX11_tear : MethodName := ⟨RX11, "tear", "()I"⟩
abbrev cX11_undo : ByteArray := prog_1_method_6_code
def yX11_undo : MethodName := ⟨RX11, "undo", "()I"⟩
abbrev cX11_word : ByteArray := prog_1_method_7_code
def yX11_word : MethodName := ⟨RX11, "word", "(I)I"⟩
abbrev cX11_forget : ByteArray := prog_1_method_8_code
def yX11_forget : MethodName := ⟨RX11, "forget", "()I"⟩
abbrev cX11_type : ByteArray := prog_1_method_9_code
def yX11_type : MethodName := ⟨RX11, "type", "(I)I"⟩
abbrev cX11_clear : ByteArray := prog_1_method_10_code
def yX11_clear : MethodName := ⟨RX11, "clear", "()I"⟩
abbrev cX11_read : ByteArray := prog_1_method_11_code
def yX11_read : MethodName := ⟨RX11, "read", "()I"⟩
abbrev cX11_of : ByteArray := prog_1_method_12_code
def yX11_of : MethodName := ⟨RX11, "of", "(II)I"⟩
abbrev cX11_dent : ByteArray := prog_1_method_13_code
def yX11_dent : MethodName := ⟨RX11, "dent", "(II)I"⟩
abbrev cX11_about : ByteArray := prog_1_method_14_code
def yX11_about : MethodName := ⟨RX11, "about", "(II)I"⟩
abbrev cX11_force : ByteArray := prog_1_method_15_code
def yX11_force : MethodName := ⟨RX11, "force", "(III)I"⟩
abbrev cX11_whose : ByteArray := prog_1_method_16_code
def yX11_whose : MethodName := ⟨RX11, "whose", "(I)I"⟩
abbrev cX11_own : ByteArray := prog_1_method_17_code
def yX11_own : MethodName := ⟨RX11, "own", "(II)I"⟩
abbrev cX11_shown : ByteArray := prog_1_method_18_code
def yX11_shown : MethodName := ⟨RX11, "shown", "(II)I"⟩
abbrev cX11_lost : ByteArray := prog_1_method_19_code
def yX11_lost : MethodName := ⟨RX11, "lost", "(IIIIII)I"⟩
abbrev cX11_pen : ByteArray := prog_1_method_20_code
def yX11_pen : MethodName := ⟨RX11, "pen", "(IIIII)I"⟩
abbrev cX11_orders : ByteArray := prog_1_method_21_code
def yX11_orders : MethodName := ⟨RX11, "orders", "(I)I"⟩
abbrev cX11_press : ByteArray := prog_1_method_22_code
def yX11_press : MethodName := ⟨RX11, "press", "(II)I"⟩
abbrev cX11_copies : ByteArray := prog_1_method_23_code
def yX11_copies : MethodName := ⟨RX11, "copies", "(IIII)I"⟩
abbrev cX11_rub : ByteArray := prog_1_method_24_code
def yX11_rub : MethodName := ⟨RX11, "rub", "(III)I"⟩
abbrev cX11_torn : ByteArray := prog_1_method_25_code
def yX11_torn : MethodName := ⟨RX11, "torn", "(I)I"⟩
abbrev cX11_drawn : ByteArray := prog_1_method_26_code
def yX11_drawn : MethodName := ⟨RX11, "drawn", "(II)I"⟩
abbrev cX11_part : ByteArray := prog_1_method_27_code
def yX11_part : MethodName := ⟨RX11, "part", "(I)J"⟩
abbrev cX11_image : ByteArray := prog_1_method_28_code
def yX11_image : MethodName := ⟨RX11, "image", "(I)I"⟩
abbrev cX11_from : ByteArray := prog_1_method_29_code
def yX11_from : MethodName := ⟨RX11, "from", "(I)I"⟩
abbrev cX11_status : ByteArray := prog_1_method_30_code
def yX11_status : MethodName := ⟨RX11, "status", "(I)I"⟩
abbrev cX11_count : ByteArray := prog_1_method_31_code
def yX11_count : MethodName := ⟨RX11, "count", "(I)I"⟩
abbrev cX11_digest : ByteArray := prog_1_method_32_code
def yX11_digest : MethodName := ⟨RX11, "digest", "()J"⟩
abbrev cX11_isPen : ByteArray := prog_1_method_33_code
def yX11_isPen : MethodName := ⟨RX11, "isPen", "(II)Z"⟩
abbrev cX11_isDepth : ByteArray := prog_1_method_34_code
def yX11_isDepth : MethodName := ⟨RX11, "isDepth", "(I)Z"⟩
abbrev cX11_isCells : ByteArray := prog_1_method_35_code
def yX11_isCells : MethodName := ⟨RX11, "isCells", "(I)Z"⟩
abbrev cX11_bad : ByteArray := prog_1_method_36_code
def yX11_bad : MethodName := ⟨RX11, "bad", "(I)I"⟩
abbrev cX11_no : ByteArray := prog_1_method_37_code
def yX11_no : MethodName := ⟨RX11, "no", "()I"⟩
abbrev cX11_full : ByteArray := prog_1_method_38_code
def yX11_full : MethodName := ⟨RX11, "full", "()I"⟩
abbrev cX11_amountOf : ByteArray := prog_1_method_39_code
def yX11_amountOf : MethodName := ⟨RX11, "amountOf", "(I)I"⟩
abbrev cX11_imageOf : ByteArray := prog_1_method_40_code
def yX11_imageOf : MethodName := ⟨RX11, "imageOf", "(I)LPressedPad$Pad;"⟩
abbrev cX11_wordsThatFit : ByteArray := prog_1_method_41_code
def yX11_wordsThatFit : MethodName := ⟨RX11, "wordsThatFit", "()I"⟩
abbrev cX11_keepFraction : ByteArray := prog_1_method_42_code
def yX11_keepFraction : MethodName := ⟨RX11, "keepFraction", "(JJ)V"⟩
abbrev cX11_nextDraw : ByteArray := prog_1_method_43_code
def yX11_nextDraw : MethodName := ⟨RX11, "nextDraw", "(J)J"⟩
abbrev cX11_drawOf : ByteArray := prog_1_method_44_code
def yX11_drawOf : MethodName := ⟨RX11, "drawOf", "(JI)I"⟩
abbrev cX11_dentInto : ByteArray := prog_1_method_45_code
def yX11_dentInto : MethodName := ⟨RX11, "dentInto", "([IIII)V"⟩
abbrev cX11_sumOfLast : ByteArray := prog_1_method_46_code
def yX11_sumOfLast : MethodName := ⟨RX11, "sumOfLast", "()I"⟩
def RX12 : String := "PressedPadModel"
def TX12 : u_T := fun k => match k with
  | 0 => ("PressedPadModel", "sheets", "I", false)
  | 1 => ("PressedPadModel", "carbons", "I", false)
  | 2 => ("PressedPadModel", "words", "[I", true)
  | 3 => ("PressedPadModel", "wordMany", "I", false)
  | 4 => ("PressedPadModel", "st", "[I", true)
  | 5 => ("PressedPadModel", "ahead", "[I", true)
  | 6 => ("PressedPadModel", "undoMany", "I", false)
  | 7 => ("PressedPadModel", "above", "J", false)
  | 8 => ("PressedPadModel", "below", "J", false)
  | 9 => ("PressedPadModel", "refused", "[I", true)
  | 10 => ("PressedPadModel", "text", "[I", true)
  | 11 => ("PressedPadModel", "bytes", "I", false)
  | 12 => ("PressedPadModel", "place", "I", false)
  | 13 => ("PressedPadModel", "token", "I", false)
  | 14 => ("PressedPadModel", "value", "I", false)
  | 15 => ("PressedPadModel", "begins", "I", false)
  | 16 => ("PressedPadModel", "read", "[I", true)
  | 17 => ("PressedPadModel", "items", "I", false)
  | 18 => ("PressedPadModel", "readSheets", "I", false)
  | 19 => ("PressedPadModel", "readTorn", "I", false)
  | 20 => ("PressedPadModel", "readNotes", "I", false)
  | 21 => ("PressedPadModel", "must", "I", false)
  | 22 => ("PressedPadModel", "may", "I", false)
  | 23 => ("PressedPadModel", "row", "[I", true)
  | 24 => ("PressedPadModel", "firstRow", "[I", true)
  | 25 => ("PressedPadModel", "aside", "[I", true)
  | 26 => ("PressedPadModel", "drawn", "J", false)
  | 27 => ("PressedPadModel", "isKept", "[Z", true)
  | 28 => ("PressedPadModel", "kept", "[I", true)
  | _ => ("PressedPadModel", "sum", "J", false)
def tyX12 : Nat → FieldType := fun k => match k with
  | 0 => .int
  | 1 => .int
  | 2 => .array .int
  | 3 => .int
  | 4 => .array .int
  | 5 => .array .int
  | 6 => .int
  | 7 => .long
  | 8 => .long
  | 9 => .array .int
  | 10 => .array .int
  | 11 => .int
  | 12 => .int
  | 13 => .int
  | 14 => .int
  | 15 => .int
  | 16 => .array .int
  | 17 => .int
  | 18 => .int
  | 19 => .int
  | 20 => .int
  | 21 => .int
  | 22 => .int
  | 23 => .array .int
  | 24 => .array .int
  | 25 => .array .int
  | 26 => .long
  | 27 => .array .boolean
  | 28 => .array .int
  | _ => .long
abbrev wsX120 : List Cond := u_ws RX12 TX12 30
theorem nmX12 : ∀ a, a < 30 → ∀ b, b < 30 → a ≠ b → (TX12 a).2.1 ≠ (TX12 b).2.1 := by decide +kernel
theorem tyX12_ok : ∀ k, k < 30 → parseFieldDescriptor (TX12 k).2.2.1 = some (tyX12 k) := by decide +kernel
abbrev cX12_init : ByteArray := prog_14_method_1_code
def yX12_init : MethodName := ⟨RX12, "<init>", "()V"⟩
abbrev cX12_in : ByteArray := prog_14_method_2_code
def yX12_in : MethodName := ⟨RX12, "in", "(JJJ)Z"⟩
abbrev cX12_has : ByteArray := prog_14_method_3_code
def yX12_has : MethodName := ⟨RX12, "has", "(II)Z"⟩
abbrev cX12_ones : ByteArray := prog_14_method_4_code
def yX12_ones : MethodName := ⟨RX12, "ones", "(I)I"⟩
abbrev cX12_refuse : ByteArray := prog_14_method_5_code
def yX12_refuse : MethodName := ⟨RX12, "refuse", "(II)I"⟩
abbrev cX12_bad : ByteArray := prog_14_method_6_code
def yX12_bad : MethodName := ⟨RX12, "bad", "()I"⟩
abbrev cX12_badLess : ByteArray := prog_14_method_7_code
def yX12_badLess : MethodName := ⟨RX12, "badLess", "()I"⟩
abbrev cX12_isSheet : ByteArray := prog_14_method_8_code
def yX12_isSheet : MethodName := ⟨RX12, "isSheet", "(I)Z"⟩
abbrev cX12_areNotes : ByteArray := prog_14_method_9_code
def yX12_areNotes : MethodName := ⟨RX12, "areNotes", "(I)Z"⟩
abbrev cX12_isPen : ByteArray := prog_14_method_10_code
def yX12_isPen : MethodName := ⟨RX12, "isPen", "(II)Z"⟩
abbrev cX12_pencil : ByteArray := prog_14_method_11_code
def yX12_pencil : MethodName := ⟨RX12, "pencil", "(II)I"⟩
abbrev cX12_forceOf : ByteArray := prog_14_method_12_code
def yX12_forceOf : MethodName := ⟨RX12, "forceOf", "(III)I"⟩
abbrev cX12_hasInk : ByteArray := prog_14_method_13_code
def yX12_hasInk : MethodName := ⟨RX12, "hasInk", "(I)Z"⟩
abbrev cX12_empty : ByteArray := prog_14_method_14_code
def yX12_empty : MethodName := ⟨RX12, "empty", "()V"⟩
abbrev cX12_pad : ByteArray := prog_14_method_15_code
def yX12_pad : MethodName := ⟨RX12, "pad", "(I)I"⟩
abbrev cX12_carbons : ByteArray := prog_14_method_16_code
def yX12_carbons : MethodName := ⟨RX12, "carbons", "(I)I"⟩
abbrev cX12_note : ByteArray := prog_14_method_17_code
def yX12_note : MethodName := ⟨RX12, "note", "()V"⟩
abbrev cX12_dentAll : ByteArray := prog_14_method_18_code
def yX12_dentAll : MethodName := ⟨RX12, "dentAll", "(III)V"⟩
abbrev cX12_writeNow : ByteArray := prog_14_method_19_code
def yX12_writeNow : MethodName := ⟨RX12, "writeNow", "(III)V"⟩
abbrev cX12_write : ByteArray := prog_14_method_20_code
def yX12_write : MethodName := ⟨RX12, "write", "(III)I"⟩
abbrev cX12_tear : ByteArray := prog_14_method_21_code
def yX12_tear : MethodName := ⟨RX12, "tear", "()I"⟩
abbrev cX12_undo : ByteArray := prog_14_method_22_code
def yX12_undo : MethodName := ⟨RX12, "undo", "()I"⟩
abbrev cX12_word : ByteArray := prog_14_method_23_code
def yX12_word : MethodName := ⟨RX12, "word", "(I)I"⟩
abbrev cX12_forget : ByteArray := prog_14_method_24_code
def yX12_forget : MethodName := ⟨RX12, "forget", "()I"⟩
abbrev cX12_type : ByteArray := prog_14_method_25_code
def yX12_type : MethodName := ⟨RX12, "type", "(I)I"⟩
abbrev cX12_clear : ByteArray := prog_14_method_26_code
def yX12_clear : MethodName := ⟨RX12, "clear", "()I"⟩
abbrev cX12_byteAt : ByteArray := prog_14_method_27_code
def yX12_byteAt : MethodName := ⟨RX12, "byteAt", "(I)I"⟩
abbrev cX12_isWord : ByteArray := prog_14_method_28_code
def yX12_isWord : MethodName := ⟨RX12, "isWord", "(IIIIII)Z"⟩
abbrev cX12_nextToken : ByteArray := prog_14_method_29_code
def yX12_nextToken : MethodName := ⟨RX12, "nextToken", "()V"⟩
abbrev cX12_number : ByteArray := prog_14_method_30_code
def yX12_number : MethodName := ⟨RX12, "number", "(II)Z"⟩
abbrev cX12_readNote : ByteArray := prog_14_method_31_code
def yX12_readNote : MethodName := ⟨RX12, "readNote", "(I)Z"⟩
abbrev cX12_readPad : ByteArray := prog_14_method_32_code
def yX12_readPad : MethodName := ⟨RX12, "readPad", "()Z"⟩
abbrev cX12_read : ByteArray := prog_14_method_33_code
def yX12_read : MethodName := ⟨RX12, "read", "()I"⟩
abbrev cX12_writtenOn : ByteArray := prog_14_method_34_code
def yX12_writtenOn : MethodName := ⟨RX12, "writtenOn", "(I)I"⟩
abbrev cX12_of : ByteArray := prog_14_method_35_code
def yX12_of : MethodName := ⟨RX12, "of", "(II)I"⟩
abbrev cX12_dentOf : ByteArray := prog_14_method_36_code
def yX12_dentOf : MethodName := ⟨RX12, "dentOf", "(II)I"⟩
abbrev cX12_dent : ByteArray := prog_14_method_37_code
def yX12_dent : MethodName := ⟨RX12, "dent", "(II)I"⟩
abbrev cX12_about : ByteArray := prog_14_method_38_code
def yX12_about : MethodName := ⟨RX12, "about", "(II)I"⟩
abbrev cX12_force : ByteArray := prog_14_method_39_code
def yX12_force : MethodName := ⟨RX12, "force", "(III)I"⟩
abbrev cX12_forceIn : ByteArray := prog_14_method_40_code
def yX12_forceIn : MethodName := ⟨RX12, "forceIn", "(III)I"⟩
abbrev cX12_whoseOf : ByteArray := prog_14_method_41_code
def yX12_whoseOf : MethodName := ⟨RX12, "whoseOf", "(I)I"⟩
abbrev cX12_whose : ByteArray := prog_14_method_42_code
def yX12_whose : MethodName := ⟨RX12, "whose", "(I)I"⟩
abbrev cX12_own : ByteArray := prog_14_method_43_code
def yX12_own : MethodName := ⟨RX12, "own", "(II)I"⟩
abbrev cX12_shown : ByteArray := prog_14_method_44_code
def yX12_shown : MethodName := ⟨RX12, "shown", "(II)I"⟩
abbrev cX12_explained : ByteArray := prog_14_method_45_code
def yX12_explained : MethodName := ⟨RX12, "explained", "(III)I"⟩
abbrev cX12_isLost : ByteArray := prog_14_method_46_code
def yX12_isLost : MethodName := ⟨RX12, "isLost", "(III)Z"⟩
abbrev cX12_fits : ByteArray := prog_14_method_47_code
def yX12_fits : MethodName := ⟨RX12, "fits", "(I)Z"⟩
abbrev cX12_lost : ByteArray := prog_14_method_48_code
def yX12_lost : MethodName := ⟨RX12, "lost", "(IIIIII)I"⟩
abbrev cX12_pen : ByteArray := prog_14_method_49_code
def yX12_pen : MethodName := ⟨RX12, "pen", "(IIIII)I"⟩
abbrev cX12_nextRow : ByteArray := prog_14_method_50_code
def yX12_nextRow : MethodName := ⟨RX12, "nextRow", "()Z"⟩
abbrev cX12_exchange : ByteArray := prog_14_method_51_code
def yX12_exchange : MethodName := ⟨RX12, "exchange", "(II)V"⟩
abbrev cX12_placeOf : ByteArray := prog_14_method_52_code
def yX12_placeOf : MethodName := ⟨RX12, "placeOf", "(I)I"⟩
abbrev cX12_isRow : ByteArray := prog_14_method_53_code
def yX12_isRow : MethodName := ⟨RX12, "isRow", "()Z"⟩
abbrev cX12_orders : ByteArray := prog_14_method_54_code
def yX12_orders : MethodName := ⟨RX12, "orders", "(I)I"⟩
abbrev cX12_press : ByteArray := prog_14_method_55_code
def yX12_press : MethodName := ⟨RX12, "press", "(II)I"⟩
abbrev cX12_copies : ByteArray := prog_14_method_56_code
def yX12_copies : MethodName := ⟨RX12, "copies", "(IIII)I"⟩
abbrev cX12_common : ByteArray := prog_14_method_57_code
def yX12_common : MethodName := ⟨RX12, "common", "(JJ)J"⟩
abbrev cX12_rub : ByteArray := prog_14_method_58_code
def yX12_rub : MethodName := ⟨RX12, "rub", "(III)I"⟩
abbrev cX12_torn : ByteArray := prog_14_method_59_code
def yX12_torn : MethodName := ⟨RX12, "torn", "(I)I"⟩
abbrev cX12_draw : ByteArray := prog_14_method_60_code
def yX12_draw : MethodName := ⟨RX12, "draw", "(I)I"⟩
abbrev cX12_drawn : ByteArray := prog_14_method_61_code
def yX12_drawn : MethodName := ⟨RX12, "drawn", "(II)I"⟩
abbrev cX12_part : ByteArray := prog_14_method_62_code
def yX12_part : MethodName := ⟨RX12, "part", "(I)J"⟩
abbrev cX12_carry : ByteArray := prog_14_method_63_code
def yX12_carry : MethodName := ⟨RX12, "carry", "([II[III)V"⟩
abbrev cX12_image : ByteArray := prog_14_method_64_code
def yX12_image : MethodName := ⟨RX12, "image", "(I)I"⟩
abbrev cX12_from : ByteArray := prog_14_method_65_code
def yX12_from : MethodName := ⟨RX12, "from", "(I)I"⟩
abbrev cX12_status : ByteArray := prog_14_method_66_code
def yX12_status : MethodName := ⟨RX12, "status", "(I)I"⟩
abbrev cX12_countOf : ByteArray := prog_14_method_67_code
def yX12_countOf : MethodName := ⟨RX12, "countOf", "(I)I"⟩
abbrev cX12_count : ByteArray := prog_14_method_68_code
def yX12_count : MethodName := ⟨RX12, "count", "(I)I"⟩
abbrev cX12_mix : ByteArray := prog_14_method_69_code
def yX12_mix : MethodName := ⟨RX12, "mix", "(J)V"⟩
abbrev cX12_digest : ByteArray := prog_14_method_70_code
def yX12_digest : MethodName := ⟨RX12, "digest", "()J"⟩
def RJ6 : String := "java/lang/Integer"
def TJ6 : u_T := fun k => match k with
  | _ => ("", "", "", false)
def tyJ6 : Nat → FieldType := fun k => match k with
  | _ => .int
abbrev wsJ60 : List Cond := u_ws RJ6 TJ6 0
theorem nmJ6 : ∀ a, a < 0 → ∀ b, b < 0 → a ≠ b → (TJ6 a).2.1 ≠ (TJ6 b).2.1 := by decide +kernel
theorem tyJ6_ok : ∀ k, k < 0 → parseFieldDescriptor (TJ6 k).2.2.1 = some (tyJ6 k) := by decide +kernel
abbrev cJ6_bitCount_0f7a4 : ByteArray := prog_15_method_49_code
def yJ6_bitCount_0f7a4 : MethodName := ⟨RJ6, "bitCount", "(I)I"⟩
def RJ0 : String := "java/lang/String"
def TJ0 : u_T := fun k => match k with
  | _ => ("", "", "", false)
def tyJ0 : Nat → FieldType := fun k => match k with
  | _ => .int
abbrev wsJ00 : List Cond := u_ws RJ0 TJ0 0
theorem nmJ0 : ∀ a, a < 0 → ∀ b, b < 0 → a ≠ b → (TJ0 a).2.1 ≠ (TJ0 b).2.1 := by decide +kernel
theorem tyJ0_ok : ∀ k, k < 0 → parseFieldDescriptor (TJ0 k).2.2.1 = some (tyJ0 k) := by decide +kernel
abbrev cJ0_length_8abf5 : ByteArray := prog_16_method_54_code
def yJ0_length_8abf5 : MethodName := ⟨RJ0, "length", "()I"⟩
abbrev cJ0_charAt_5068e : ByteArray := prog_16_method_56_code
def yJ0_charAt_5068e : MethodName := ⟨RJ0, "charAt", "(I)C"⟩
abbrev cJ0_coder_7d493 : ByteArray := prog_16_method_152_code
def yJ0_coder_7d493 : MethodName := ⟨RJ0, "coder", "()B"⟩
abbrev cJ0_isLatin1_aae02 : ByteArray := prog_16_method_154_code
def yJ0_isLatin1_aae02 : MethodName := ⟨RJ0, "isLatin1", "()Z"⟩
abbrev cJ0_checkIndex_df160 : ByteArray := prog_16_method_155_code
def yJ0_checkIndex_df160 : MethodName := ⟨RJ0, "checkIndex", "(II)V"⟩
def RJ1 : String := "java/lang/StringLatin1"
def TJ1 : u_T := fun k => match k with
  | _ => ("", "", "", false)
def tyJ1 : Nat → FieldType := fun k => match k with
  | _ => .int
abbrev wsJ10 : List Cond := u_ws RJ1 TJ1 0
theorem nmJ1 : ∀ a, a < 0 → ∀ b, b < 0 → a ≠ b → (TJ1 a).2.1 ≠ (TJ1 b).2.1 := by decide +kernel
theorem tyJ1_ok : ∀ k, k < 0 → parseFieldDescriptor (TJ1 k).2.2.1 = some (tyJ1 k) := by decide +kernel
abbrev cJ1_charAt_3b067 : ByteArray := prog_17_method_2_code
def yJ1_charAt_3b067 : MethodName := ⟨RJ1, "charAt", "([BI)C"⟩
def RJ2 : String := "java/lang/StringUTF16"
def TJ2 : u_T := fun k => match k with
  | _ => ("", "", "", false)
def tyJ2 : Nat → FieldType := fun k => match k with
  | _ => .int
abbrev wsJ20 : List Cond := u_ws RJ2 TJ2 0
theorem nmJ2 : ∀ a, a < 0 → ∀ b, b < 0 → a ≠ b → (TJ2 a).2.1 ≠ (TJ2 b).2.1 := by decide +kernel
theorem tyJ2_ok : ∀ k, k < 0 → parseFieldDescriptor (TJ2 k).2.2.1 = some (tyJ2 k) := by decide +kernel
abbrev cJ2_getChar_3b067 : ByteArray := prog_18_method_5_code
def yJ2_getChar_3b067 : MethodName := ⟨RJ2, "getChar", "([BI)C"⟩
abbrev cJ2_length_9d52b : ByteArray := prog_18_method_6_code
def yJ2_length_9d52b : MethodName := ⟨RJ2, "length", "([B)I"⟩
abbrev cJ2_charAt_3b067 : ByteArray := prog_18_method_83_code
def yJ2_charAt_3b067 : MethodName := ⟨RJ2, "charAt", "([BI)C"⟩
abbrev cJ2_checkIndex_2214a : ByteArray := prog_18_method_91_code
def yJ2_checkIndex_2214a : MethodName := ⟨RJ2, "checkIndex", "(I[B)V"⟩
def RJ10 : String := "java/lang/System"
def TJ10 : u_T := fun k => match k with
  | _ => ("", "", "", false)
def tyJ10 : Nat → FieldType := fun k => match k with
  | _ => .int
abbrev wsJ100 : List Cond := u_ws RJ10 TJ10 0
theorem nmJ10 : ∀ a, a < 0 → ∀ b, b < 0 → a ≠ b → (TJ10 a).2.1 ≠ (TJ10 b).2.1 := by decide +kernel
theorem tyJ10_ok : ∀ k, k < 0 → parseFieldDescriptor (TJ10 k).2.2.1 = some (tyJ10 k) := by decide +kernel
def RJ3 : String := "jdk/internal/util/Preconditions"
def TJ3 : u_T := fun k => match k with
  | _ => ("", "", "", false)
def tyJ3 : Nat → FieldType := fun k => match k with
  | _ => .int
abbrev wsJ30 : List Cond := u_ws RJ3 TJ3 0
theorem nmJ3 : ∀ a, a < 0 → ∀ b, b < 0 → a ≠ b → (TJ3 a).2.1 ≠ (TJ3 b).2.1 := by decide +kernel
theorem tyJ3_ok : ∀ k, k < 0 → parseFieldDescriptor (TJ3 k).2.2.1 = some (tyJ3 k) := by decide +kernel
abbrev cJ3_checkIndex_8e157 : ByteArray := prog_20_method_11_code
def yJ3_checkIndex_8e157 : MethodName := ⟨RJ3, "checkIndex", "(IILjava/util/function/BiFunction;)I"⟩
def RL : String := "PressedPadLaw"
abbrev cL_law : ByteArray := code
def yL_law : MethodName := ⟨RL, "law", "([I)Z"⟩
abbrev vwCl : List vw_C := [(RX0, TX0, 0), (RX1, TX1, 0), (RX2, TX2, 4), (RX3, TX3, 0), (RX4, TX4, 12), (RX5, TX5, 1), (RX6, TX6, 0), (RX7, TX7, 8), (RX8, TX8, 5), (RX9, TX9, 0), (RX10, TX10, 0), (RX11, TX11, 15), (RX12, TX12, 30)]
end
section
/-! the words that every method is given, and those that a nest needs -/
def gG : List Cond := lw_tbl.filter goodWord
def nst : Cond → Bool
  | .fieldLinkNest .. => true
  | .methodLinkNest .. => true
  | .castable .. => true
  | _ => false
def nW : List Cond := lw_tbl.filter nst
theorem gG_in {w : Cond} (h : w ∈ lw_tbl) (g : goodWord w = true) : w ∈ gG := List.mem_filter.mpr ⟨h, g⟩
theorem nW_in {w : Cond} (h : w ∈ lw_tbl) (g : nst w = true) : w ∈ nW := List.mem_filter.mpr ⟨h, g⟩
theorem nst_tab {w : Cond} (g : nst w = true) : w.onTables = true := by
  cases w <;> first | rfl | (simp [nst] at g; done)
theorem nst_warm {w : Cond} (g : nst w = true) {s U : State} (hW : s.WarmedH U.vm) (h : va_Nw w s) : va_Nw w U := by
  cases w <;> first | exact va_Nw.warmF hW h | exact va_Nw.warmM hW h | exact va_Nw.warmC hW h | (simp [nst] at g; done)
def mW (y : MethodName) (cc : ByteArray) (n : Nat) (ret : Option FieldType) : List Cond := Cond.code y cc n ret :: gG
theorem mW_good {Ts : List Cond} (hT : ∀ w ∈ gG, w ∈ Ts) {y : MethodName} {cc : ByteArray} {n : Nat} {ret : Option FieldType} (hc : Cond.code y cc n ret ∈ gG) : GoodIn Ts (mW y cc n ret) := by
  intro w hw
  rcases List.mem_cons.mp hw with h | h
  · subst h
    exact ⟨hT _ hc, good_of_word (List.mem_filter.mp hc).2⟩
  · exact ⟨hT _ h, good_of_word (List.mem_filter.mp h).2⟩
/-! the pure state of an object: its int fields, its long fields, its arrays, by the places of the fields -/
def St : Type := (Nat → Int32) × (Nat → Int64) × (Nat → Nat → Int32)
def St.I (x : St) (k : Nat) : Int32 := x.1 k
def St.L (x : St) (k : Nat) : Int64 := x.2.1 k
def St.A (x : St) (k : Nat) : Nat → Int32 := x.2.2 k
def St.sI (x : St) (k : Nat) (v : Int32) : St := (fun j => if j = k then v else x.1 j, x.2)
def St.sL (x : St) (k : Nat) (v : Int64) : St := (x.1, fun j => if j = k then v else x.2.1 j, x.2.2)
def St.sA (x : St) (k : Nat) (v : Nat → Int32) : St := (x.1, x.2.1, fun j => if j = k then v else x.2.2 j)
def upS (t : Nat → St) (k : Nat) (x : St) : Nat → St := fun j => if j = k then x else t j
/-! the loop's iterator -/
def itN {α : Type} (F : (α → Prop) → α → Prop) : Nat → α → Prop
  | 0 => fun _ => False
  | n + 1 => F (itN F n)
/-! the environment: numbers of the classes, of int[], boolean[], Pencil[] -/
abbrev VE : Type := va_G × ClassId × ClassId × ClassId × (Nat → Nat) × (Nat → Nat)
def tysG (E : VE) : List (ClassId × FieldType) := [(E.2.1, .int), (E.2.2.1, .boolean), (E.2.2.2.1, .object "PressedPad$Pencil")]
/-! the text's literals, and the flag that the JDK's strings ask for -/
def lenS : List Nat := [3, 6, 4, 4]
def bytS : List (List Int32) := [[112, 97, 100], [99, 97, 114, 98, 111, 110], [116, 101, 97, 114], [110, 111, 116, 101]]
def sF (E : VE) (A : Nat → Prop) (U : State) (H : Heap) : Prop :=
  vk_R RX7 48 "pad" (E.2.2.2.2.1 0) U ∧ vk_R RX7 68 "carbon" (E.2.2.2.2.1 1) U ∧ vk_R RX7 73 "tear" (E.2.2.2.2.1 2) U ∧ vk_R RX7 75 "note" (E.2.2.2.2.1 3) U ∧ vk_S 4 lenS bytS E.2.2.2.2.1 E.2.2.2.2.2 A U H ∧ va_Z "java/lang/String" "COMPACT_STRINGS" "Z" (.int 1) A U H
theorem sF_same {E : VE} {A : Nat → Prop} {u U : State} {H : Heap} (hv : U.vm = u.vm) (h : sF E A u H) : sF E A U H := by
  obtain ⟨h1, h2, h3, h4, h5, h6⟩ := h
  have ha : u.vm.Alike U.vm := by rw [hv]; exact Vm.Alike.refl _
  exact ⟨vk_R.same hv h1, vk_R.same hv h2, vk_R.same hv h3, vk_R.same hv h4, vk_S.moved ha h5, va_Z.moved ha h6⟩
theorem sF_go {E : VE} {A B : Nat → Prop} {s U : State} {H : Heap} {locs : List Loc} (h : sF E A s s.heap) (hS : va_S A s.heap H locs) (hAB : ∀ q, B q → A q) (hW : s.WarmedH U.vm) (hU : U.heap = H) : sF E B U U.heap := by
  obtain ⟨h1, h2, h3, h4, h5, h6⟩ := h
  rw [hU]
  exact ⟨vk_R.warm hW h1, vk_R.warm hW h2, vk_R.warm hW h3, vk_R.warm hW h4, vk_S.narrow (vk_S.kept (vk_S.moved hW.alike h5) hS.2.1) hAB, va_Z.narrow (va_Z.kept (va_Z.moved hW.alike h6) hS.2.1) hAB⟩
def CPre (E : VE) (av : List Value) (sz : Nat) (w : va_W) : Array Value → State → Prop := va_Pc av (fun U => U.heap.size = sz ∧ va_P E.1 vwCl w U.heap ∧ va_K E.1 vwCl (tysG E) U ∧ va_D (fun _ => True) w ∧ (∀ x ∈ nW, va_Nw x U) ∧ sF E (va_A w sz) U U.heap)
def CQi {S : Type} (E : VE) (Post : Int32 → S → Prop) (wf : S → va_W) (w : va_W) (sz : Nat) : Array Value → State → Outcome → State → Prop := va_Qi Post (fun u t => va_P E.1 vwCl (wf u) t.heap) (va_A w sz)
def CQl {S : Type} (E : VE) (Post : Int64 → S → Prop) (wf : S → va_W) (w : va_W) (sz : Nat) : Array Value → State → Outcome → State → Prop := va_Ql Post (fun u t => va_P E.1 vwCl (wf u) t.heap) (va_A w sz)
def CQv {S : Type} (E : VE) (Post : S → Prop) (wf : S → va_W) (w : va_W) (sz : Nat) : Array Value → State → Outcome → State → Prop := va_Qv Post (fun u t => va_P E.1 vwCl (wf u) t.heap) (va_A w sz)
theorem CPre_blind {E : VE} {av : List Value} {sz : Nat} {w : va_W} : FrameBlind (CPre E av sz w) := by
  intro a U g mk q
  obtain ⟨q0, q1, qP, qK, qD, qN, qF⟩ := q
  exact ⟨q0, q1, qP, va_K.moved (u := U) (U := U.calling g mk a) (Vm.Alike.refl U.vm) qK, qD, fun x hx => va_Nw.same (u := U) (U := U.calling g mk a) (nst_tab (List.mem_filter.mp hx).2) rfl (qN x hx), sF_same (u := U) (U := U.calling g mk a) rfl qF⟩
/-- what holds all through a method's body -/
def VC (p : Program) (s : State) (m : MethodId) (args : Array Value) (meth : Method) (c : Code) (E : VE) (A : Nat → Prop) (cc : ByteArray) (nL : Nat) (ret : Option FieldType) (own : String) : Prop :=
  p.tables.exec = Jvm.exec ∧ c.code = cc ∧ c.maxLocals = nL ∧ meth.sig.returnType = ret ∧ s.vm.findClass own = some m.cls ∧ (∀ w ∈ gG, w.before args s = true) ∧ va_K E.1 vwCl (tysG E) s ∧ (∀ q : Nat, s.heap.size ≤ q → A q) ∧ meth.locks = false ∧ (∀ x ∈ nW, va_Nw x s) ∧ sF E A s s.heap
/-- the machine at a place of the body, with a world, locals and a stack -/
def V (p : Program) (l : Launch) (e : Env) (R : Room) (s : State) (m : MethodId) (args : Array Value) (below : List Frame) (meth : Method) (c : Code) (E : VE) (A : Nat → Prop) (nL cells slots : Nat) (Q : State → Prop) (w : va_W) (pc : Nat) (lv : List (Nat × Value)) (st : List Value) : Prop :=
  ∀ (H : Heap) (locs : List Loc) (ls : Array Slot), va_P E.1 vwCl w H → va_D A w → va_S A s.heap H locs → lv_has ls nL lv → W p l e R s m args below meth c H locs cells slots Q (F0 m pc ls st)
theorem va_D_adr {A : Nat → Prop} {w w' : va_W} (h : va_D A w) (e : w'.map Prod.fst = w.map Prod.fst) : va_D A w' := by
  have key : ∀ (k : Nat) (q : Nat × va_E), w'[k]? = some q → ∃ q0, w[k]? = some q0 ∧ q0.1 = q.1 := by
    intro k q hq
    have h1 : (w'.map Prod.fst)[k]? = some q.1 := by rw [List.getElem?_map, hq]; rfl
    rw [e, List.getElem?_map] at h1
    cases hw : w[k]? with
    | none => rw [hw] at h1; cases h1
    | some q0 => rw [hw] at h1; exact ⟨q0, rfl, Option.some.inj h1⟩
  refine ⟨fun i j p q hp hq hpq => ?_, fun k q hq => ?_⟩
  · obtain ⟨p0, h1, h2⟩ := key i p hp
    obtain ⟨q0, h3, h4⟩ := key j q hq
    exact h.1 i j p0 q0 h1 h3 (by rw [h2, h4, hpq])
  · obtain ⟨q0, h1, h2⟩ := key k q hq
    rw [← h2]
    exact h.2 k q0 h1
/-- cells put at places -/
def putc : va_W → List Nat → va_W → va_W
  | w, i :: is, x :: xs => putc (w.set i x) is xs
  | w, _, _ => w
theorem putc_mem : ∀ (is : List Nat) (xs : va_W) (w : va_W) (k : Nat) (q : Nat × va_E), (putc w is xs)[k]? = some q → (q ∈ xs) ∨ (w[k]? = some q ∧ (xs.length = is.length → k ∉ is))
  | [], xs, w, k, q, h => by
    have h' : w[k]? = some q := by cases xs <;> exact h
    exact Or.inr ⟨h', fun _ => List.not_mem_nil⟩
  | i :: is, [], w, k, q, h => Or.inr ⟨h, fun e => by simp at e⟩
  | i :: is, x :: xs, w, k, q, h => by
    have h1 : (putc (w.set i x) is xs)[k]? = some q := h
    rcases putc_mem is xs (w.set i x) k q h1 with h2 | ⟨h2, h3⟩
    · exact Or.inl (List.mem_cons_of_mem _ h2)
    · by_cases hk : i = k
      · subst hk
        by_cases hl : i < w.length
        · rw [List.getElem?_set_self hl] at h2
          exact Or.inl (by rw [← Option.some.inj h2]; exact List.mem_cons_self)
        · rw [List.getElem?_eq_none (by rw [List.length_set]; omega)] at h2
          cases h2
      · rw [List.getElem?_set_ne hk] at h2
        refine Or.inr ⟨h2, fun e => ?_⟩
        have e' : xs.length = is.length := by simpa using e
        intro hm
        rcases List.mem_cons.mp hm with h4 | h4
        · exact hk h4.symm
        · exact h3 e' h4
theorem putc_adr : ∀ (is : List Nat) (xs : va_W) (w : va_W), is.map (fun i => (w.map Prod.fst)[i]?) = (xs.map Prod.fst).map some → (putc w is xs).map Prod.fst = w.map Prod.fst
  | [], xs, w, _ => by cases xs <;> rfl
  | i :: is, [], w, h => by simp at h
  | i :: is, x :: xs, w, h => by
    have h1 : (w.map Prod.fst)[i]? = some x.1 := by
      have := congrArg List.head? h
      simpa using this
    have h2 : is.map (fun i => (w.map Prod.fst)[i]?) = (xs.map Prod.fst).map some := by
      have := congrArg List.tail h
      simpa using this
    have e : (w.set i x).map Prod.fst = w.map Prod.fst := by
      rw [List.map_set]
      apply List.ext_getElem?
      intro k
      by_cases hk : i = k
      · subst hk
        rw [h1, List.getElem?_set_self (List.getElem?_eq_some_iff.mp h1).1]
      · rw [List.getElem?_set_ne hk]
    show (putc (w.set i x) is xs).map Prod.fst = _
    rw [putc_adr is xs (w.set i x) (by rw [e]; exact h2), e]
/-- behind a call: the callee's new cells, and the others as they were -/
theorem put_join {A : Nat → Prop} {D : va_G} {w wc wc' : va_W} {H H1 : Heap} (hP : va_P D vwCl w H) (hD : va_D A w) (is : List Nat) (hC : is.map (fun i => w[i]?) = wc.map some) (hadr : wc'.map Prod.fst = wc.map Prod.fst)
    (hk : ∀ q : Nat, q < H.size → ¬ va_A wc H.size q → H1[q]? = H[q]?) (hP1 : va_P D vwCl wc' H1) : va_P D vwCl (putc w is wc') H1 ∧ va_D A (putc w is wc') := by
  have hlen : wc'.length = is.length := by
    have h1 := congrArg List.length hC
    have h2 := congrArg List.length hadr
    simp at h1 h2
    omega
  refine ⟨fun k q hq => ?_, va_D_adr hD (putc_adr is wc' w ?_)⟩
  · rcases putc_mem is wc' w k q hq with h | ⟨h, h2⟩
    · obtain ⟨i, hi⟩ := List.getElem?_of_mem h
      exact hP1 i q hi
    · have hni := h2 hlen
      have hat := hP k q h
      refine hat.kept (hk q.1 hat.lt (fun hA => ?_))
      rcases hA with ⟨k2, e, h3⟩ | h3
      · have h4 : (is.map (fun i => w[i]?))[k2]? = some (some (q.1, e)) := by rw [hC, List.getElem?_map, h3]; rfl
        rw [List.getElem?_map] at h4
        cases hi : is[k2]? with
        | none => rw [hi] at h4; cases h4
        | some i =>
          rw [hi] at h4
          have h5 : w[i]? = some (q.1, e) := Option.some.inj h4
          have h6 := hD.1 k i q (q.1, e) h h5 rfl
          subst h6
          exact hni (List.mem_of_getElem? hi)
      · exact absurd hat.lt (Nat.not_lt.mpr h3)
  · rw [hadr]
    have h1 : is.map (fun i => (w.map Prod.fst)[i]?) = (is.map (fun i => w[i]?)).map (Option.map Prod.fst) := by
      rw [List.map_map]
      apply List.map_congr_left
      intro i _
      simp [List.getElem?_map]
    rw [h1, hC, List.map_map, List.map_map]
    rfl
theorem pick_P {D : va_G} {w wc : va_W} {H : Heap} (hP : va_P D vwCl w H) (is : List Nat) (hC : is.map (fun i => w[i]?) = wc.map some) : va_P D vwCl wc H := by
  intro k q hq
  have h4 : (is.map (fun i => w[i]?))[k]? = some (some q) := by rw [hC, List.getElem?_map, hq]; rfl
  rw [List.getElem?_map] at h4
  cases hi : is[k]? with
  | none => rw [hi] at h4; cases h4
  | some i =>
    rw [hi] at h4
    exact hP i q (Option.some.inj h4)
end
section
section
variable {p : Program} {l : Launch} {e : Env} {R : Room} {s : State} {m : MethodId} {args : Array Value} {below : List Frame} {meth : Method} {c : Code} {E : VE} {A : Nat → Prop} {cc : ByteArray} {nL cells slots : Nat} {ret : Option FieldType} {own : String} {Q : State → Prop} {w : va_W} {pc : Nat} {lv : List (Nat × Value)} {st : List Value}
theorem v_iconst (C : VC p s m args meth c E A cc nL ret own) {n : Int} (v : Int32) (hv : Int32.ofInt n = v) (hd : decode cc pc = .ok (.iconst n, 1)) (k : V p l e R s m args below meth c E A nL cells slots Q w (pc + 1) lv (.int v :: st)) : V p l e R s m args below meth c E A nL cells slots Q w pc lv (st) := fun H locs ls hP hD hS hl => lv_iconst C.1 C.2.1 hd hv (k H locs ls hP hD hS hl)
theorem v_bipush (C : VC p s m args meth c E A cc nL ret own) {n : Int} (v : Int32) (hv : (Int8.ofInt n).toInt32 = v) (hd : decode cc pc = .ok (.bipush n, 2)) (k : V p l e R s m args below meth c E A nL cells slots Q w (pc + 2) lv (.int v :: st)) : V p l e R s m args below meth c E A nL cells slots Q w pc lv (st) := fun H locs ls hP hD hS hl => lv_bipush C.1 C.2.1 hd hv (k H locs ls hP hD hS hl)
theorem v_sipush (C : VC p s m args meth c E A cc nL ret own) {n : Int} (v : Int32) (hv : (Int16.ofInt n).toInt32 = v) (hd : decode cc pc = .ok (.sipush n, 3)) (k : V p l e R s m args below meth c E A nL cells slots Q w (pc + 3) lv (.int v :: st)) : V p l e R s m args below meth c E A nL cells slots Q w pc lv (st) := fun H locs ls hP hD hS hl => lv_sipush C.1 C.2.1 hd hv (k H locs ls hP hD hS hl)
theorem v_lconst (C : VC p s m args meth c E A cc nL ret own) {n : Fin 2} (v : Int64) (hv : Int64.ofNat (n : Nat) = v) (hd : decode cc pc = .ok (.lconst n, 1)) (k : V p l e R s m args below meth c E A nL cells slots Q w (pc + 1) lv (.long v :: st)) : V p l e R s m args below meth c E A nL cells slots Q w pc lv (st) := fun H locs ls hP hD hS hl => lv_lconst C.1 C.2.1 hd hv (k H locs ls hP hD hS hl)
theorem v_ldc (C : VC p s m args meth c E A cc nL ret own) {index : Nat} (v : Int32) (hw : Cond.constant own index v ∈ gG) (hd : decode cc pc = .ok (.ldc index, 2)) (k : V p l e R s m args below meth c E A nL cells slots Q w (pc + 2) lv (.int v :: st)) : V p l e R s m args below meth c E A nL cells slots Q w pc lv (st) := fun H locs ls hP hD hS hl => lv_ldc C.1 C.2.1 C.2.2.2.2.1 (C.2.2.2.2.2.1 _ hw) hd (k H locs ls hP hD hS hl)
theorem v_ldcw (C : VC p s m args meth c E A cc nL ret own) {index : Nat} (v : Int32) (hw : Cond.constant own index v ∈ gG) (hd : decode cc pc = .ok (.ldc_w index, 3)) (k : V p l e R s m args below meth c E A nL cells slots Q w (pc + 3) lv (.int v :: st)) : V p l e R s m args below meth c E A nL cells slots Q w pc lv (st) := fun H locs ls hP hD hS hl => lv_ldcw C.1 C.2.1 C.2.2.2.2.1 (C.2.2.2.2.2.1 _ hw) hd (k H locs ls hP hD hS hl)
theorem v_ldc2 (C : VC p s m args meth c E A cc nL ret own) {index : Nat} (v : Int64) (hw : Cond.constantLong own index v ∈ gG) (hd : decode cc pc = .ok (.ldc2_w index, 3)) (k : V p l e R s m args below meth c E A nL cells slots Q w (pc + 3) lv (.long v :: st)) : V p l e R s m args below meth c E A nL cells slots Q w pc lv (st) := fun H locs ls hP hD hS hl => lv_ldc2 C.1 C.2.1 C.2.2.2.2.1 (C.2.2.2.2.2.1 _ hw) hd (k H locs ls hP hD hS hl)
theorem v_iload_n (C : VC p s m args meth c E A cc nL ret own) {k0 : Fin 4} {i : Nat} {x : Int32} (j : Nat) (hj : lv[j]? = some (i, .int x)) (hi : (k0 : Nat) = i) (hd : decode cc pc = .ok (.iload_n k0, 1)) (k : V p l e R s m args below meth c E A nL cells slots Q w (pc + 1) lv (.int x :: st)) : V p l e R s m args below meth c E A nL cells slots Q w pc lv (st) := fun H locs ls hP hD hS hl => lv_iload_n C.1 C.2.1 hd hi (lv_at hl j hj) (k H locs ls hP hD hS hl)
theorem v_iload (C : VC p s m args meth c E A cc nL ret own) {i : Nat} {x : Int32} (j : Nat) (hj : lv[j]? = some (i, .int x)) (hd : decode cc pc = .ok (.iload i, 2)) (k : V p l e R s m args below meth c E A nL cells slots Q w (pc + 2) lv (.int x :: st)) : V p l e R s m args below meth c E A nL cells slots Q w pc lv (st) := fun H locs ls hP hD hS hl => lv_iload C.1 C.2.1 hd (lv_at hl j hj) (k H locs ls hP hD hS hl)
theorem v_istore_n (C : VC p s m args meth c E A cc nL ret own) {k0 : Fin 4} {i : Nat} {x : Int32} (lv' : List (Nat × Value)) (hl' : (i, Value.int x) :: lv.filter (fun q => !(q.1 == i) && !(q.1 + 1 == i && q.2.category == 2)) = lv') (hi : (k0 : Nat) = i) (hn : i < nL) (hd : decode cc pc = .ok (.istore_n k0, 1)) (k : V p l e R s m args below meth c E A nL cells slots Q w (pc + 1) lv' st) : V p l e R s m args below meth c E A nL cells slots Q w pc lv (.int x :: st) := fun H locs ls hP hD hS hl => lv_istore_n C.1 C.2.1 hd hi hl hn hl' (fun ls' h' => k H locs ls' hP hD hS h')
theorem v_istore (C : VC p s m args meth c E A cc nL ret own) {i : Nat} {x : Int32} (lv' : List (Nat × Value)) (hl' : (i, Value.int x) :: lv.filter (fun q => !(q.1 == i) && !(q.1 + 1 == i && q.2.category == 2)) = lv') (hn : i < nL) (hd : decode cc pc = .ok (.istore i, 2)) (k : V p l e R s m args below meth c E A nL cells slots Q w (pc + 2) lv' st) : V p l e R s m args below meth c E A nL cells slots Q w pc lv (.int x :: st) := fun H locs ls hP hD hS hl => lv_istore C.1 C.2.1 hd hl hn hl' (fun ls' h' => k H locs ls' hP hD hS h')
theorem v_lload_n (C : VC p s m args meth c E A cc nL ret own) {k0 : Fin 4} {i : Nat} {x : Int64} (j : Nat) (hj : lv[j]? = some (i, .long x)) (hi : (k0 : Nat) = i) (hd : decode cc pc = .ok (.lload_n k0, 1)) (k : V p l e R s m args below meth c E A nL cells slots Q w (pc + 1) lv (.long x :: st)) : V p l e R s m args below meth c E A nL cells slots Q w pc lv (st) := fun H locs ls hP hD hS hl => lv_lload_n C.1 C.2.1 hd hi (lv_at hl j hj) (k H locs ls hP hD hS hl)
theorem v_lload (C : VC p s m args meth c E A cc nL ret own) {i : Nat} {x : Int64} (j : Nat) (hj : lv[j]? = some (i, .long x)) (hd : decode cc pc = .ok (.lload i, 2)) (k : V p l e R s m args below meth c E A nL cells slots Q w (pc + 2) lv (.long x :: st)) : V p l e R s m args below meth c E A nL cells slots Q w pc lv (st) := fun H locs ls hP hD hS hl => lv_lload C.1 C.2.1 hd (lv_at hl j hj) (k H locs ls hP hD hS hl)
theorem v_lstore_n (C : VC p s m args meth c E A cc nL ret own) {k0 : Fin 4} {i : Nat} {x : Int64} (lv' : List (Nat × Value)) (hl' : (i, Value.long x) :: lv.filter (fun q => !(q.1 == i) && (!(q.1 == i + 1) && !(q.1 + 1 == i && q.2.category == 2))) = lv') (hi : (k0 : Nat) = i) (hn : i + 1 < nL) (hd : decode cc pc = .ok (.lstore_n k0, 1)) (k : V p l e R s m args below meth c E A nL cells slots Q w (pc + 1) lv' st) : V p l e R s m args below meth c E A nL cells slots Q w pc lv (.long x :: st) := fun H locs ls hP hD hS hl => lv_lstore_n C.1 C.2.1 hd hi hl hn hl' (fun ls' h' => k H locs ls' hP hD hS h')
theorem v_lstore (C : VC p s m args meth c E A cc nL ret own) {i : Nat} {x : Int64} (lv' : List (Nat × Value)) (hl' : (i, Value.long x) :: lv.filter (fun q => !(q.1 == i) && (!(q.1 == i + 1) && !(q.1 + 1 == i && q.2.category == 2))) = lv') (hn : i + 1 < nL) (hd : decode cc pc = .ok (.lstore i, 2)) (k : V p l e R s m args below meth c E A nL cells slots Q w (pc + 2) lv' st) : V p l e R s m args below meth c E A nL cells slots Q w pc lv (.long x :: st) := fun H locs ls hP hD hS hl => lv_lstore C.1 C.2.1 hd hl hn hl' (fun ls' h' => k H locs ls' hP hD hS h')
theorem v_aload_n (C : VC p s m args meth c E A cc nL ret own) {k0 : Fin 4} {i : Nat} {x : Nat} (j : Nat) (hj : lv[j]? = some (i, .ref x)) (hi : (k0 : Nat) = i) (hd : decode cc pc = .ok (.aload_n k0, 1)) (k : V p l e R s m args below meth c E A nL cells slots Q w (pc + 1) lv (.ref x :: st)) : V p l e R s m args below meth c E A nL cells slots Q w pc lv (st) := fun H locs ls hP hD hS hl => lv_aload_n C.1 C.2.1 hd hi (lv_at hl j hj) (k H locs ls hP hD hS hl)
theorem v_aload (C : VC p s m args meth c E A cc nL ret own) {i : Nat} {x : Nat} (j : Nat) (hj : lv[j]? = some (i, .ref x)) (hd : decode cc pc = .ok (.aload i, 2)) (k : V p l e R s m args below meth c E A nL cells slots Q w (pc + 2) lv (.ref x :: st)) : V p l e R s m args below meth c E A nL cells slots Q w pc lv (st) := fun H locs ls hP hD hS hl => lv_aload C.1 C.2.1 hd (lv_at hl j hj) (k H locs ls hP hD hS hl)
theorem v_astore_n (C : VC p s m args meth c E A cc nL ret own) {k0 : Fin 4} {i : Nat} {x : Nat} (lv' : List (Nat × Value)) (hl' : (i, Value.ref x) :: lv.filter (fun q => !(q.1 == i) && !(q.1 + 1 == i && q.2.category == 2)) = lv') (hi : (k0 : Nat) = i) (hn : i < nL) (hd : decode cc pc = .ok (.astore_n k0, 1)) (k : V p l e R s m args below meth c E A nL cells slots Q w (pc + 1) lv' st) : V p l e R s m args below meth c E A nL cells slots Q w pc lv (.ref x :: st) := fun H locs ls hP hD hS hl => lv_astore_n C.1 C.2.1 hd hi hl hn hl' (fun ls' h' => k H locs ls' hP hD hS h')
theorem v_astore (C : VC p s m args meth c E A cc nL ret own) {i : Nat} {x : Nat} (lv' : List (Nat × Value)) (hl' : (i, Value.ref x) :: lv.filter (fun q => !(q.1 == i) && !(q.1 + 1 == i && q.2.category == 2)) = lv') (hn : i < nL) (hd : decode cc pc = .ok (.astore i, 2)) (k : V p l e R s m args below meth c E A nL cells slots Q w (pc + 2) lv' st) : V p l e R s m args below meth c E A nL cells slots Q w pc lv (.ref x :: st) := fun H locs ls hP hD hS hl => lv_astore C.1 C.2.1 hd hl hn hl' (fun ls' h' => k H locs ls' hP hD hS h')
theorem v_iinc (C : VC p s m args meth c E A cc nL ret own) {i : Nat} {n : Int} {x v : Int32} (j : Nat) (hj : lv[j]? = some (i, .int x)) (hv : x + Int32.ofInt n = v) (lv' : List (Nat × Value)) (hl' : (i, Value.int v) :: lv.filter (fun q => !(q.1 == i) && !(q.1 + 1 == i && q.2.category == 2)) = lv') (hn : i < nL) (hd : decode cc pc = .ok (.iinc i n, 3)) (k : V p l e R s m args below meth c E A nL cells slots Q w (pc + 3) lv' st) : V p l e R s m args below meth c E A nL cells slots Q w pc lv st := fun H locs ls hP hD hS hl => lv_iinc C.1 C.2.1 hd hl hj hv hn hl' (fun ls' h' => k H locs ls' hP hD hS h')
theorem v_iadd (C : VC p s m args meth c E A cc nL ret own) {x y : Int32} (hd : decode cc pc = .ok (.iadd, 1)) (k : V p l e R s m args below meth c E A nL cells slots Q w (pc + 1) lv (.int (x + y) :: st)) : V p l e R s m args below meth c E A nL cells slots Q w pc lv (.int y :: .int x :: st) := fun H locs ls hP hD hS hl => lv_iadd C.1 C.2.1 hd (k H locs ls hP hD hS hl)
theorem v_isub (C : VC p s m args meth c E A cc nL ret own) {x y : Int32} (hd : decode cc pc = .ok (.isub, 1)) (k : V p l e R s m args below meth c E A nL cells slots Q w (pc + 1) lv (.int (x - y) :: st)) : V p l e R s m args below meth c E A nL cells slots Q w pc lv (.int y :: .int x :: st) := fun H locs ls hP hD hS hl => lv_isub C.1 C.2.1 hd (k H locs ls hP hD hS hl)
theorem v_imul (C : VC p s m args meth c E A cc nL ret own) {x y : Int32} (hd : decode cc pc = .ok (.imul, 1)) (k : V p l e R s m args below meth c E A nL cells slots Q w (pc + 1) lv (.int (x * y) :: st)) : V p l e R s m args below meth c E A nL cells slots Q w pc lv (.int y :: .int x :: st) := fun H locs ls hP hD hS hl => lv_imul C.1 C.2.1 hd (k H locs ls hP hD hS hl)
theorem v_iand (C : VC p s m args meth c E A cc nL ret own) {x y : Int32} (hd : decode cc pc = .ok (.iand, 1)) (k : V p l e R s m args below meth c E A nL cells slots Q w (pc + 1) lv (.int (x &&& y) :: st)) : V p l e R s m args below meth c E A nL cells slots Q w pc lv (.int y :: .int x :: st) := fun H locs ls hP hD hS hl => lv_iand C.1 C.2.1 hd (k H locs ls hP hD hS hl)
theorem v_ior (C : VC p s m args meth c E A cc nL ret own) {x y : Int32} (hd : decode cc pc = .ok (.ior, 1)) (k : V p l e R s m args below meth c E A nL cells slots Q w (pc + 1) lv (.int (x ||| y) :: st)) : V p l e R s m args below meth c E A nL cells slots Q w pc lv (.int y :: .int x :: st) := fun H locs ls hP hD hS hl => lv_ior C.1 C.2.1 hd (k H locs ls hP hD hS hl)
theorem v_ixor (C : VC p s m args meth c E A cc nL ret own) {x y : Int32} (hd : decode cc pc = .ok (.ixor, 1)) (k : V p l e R s m args below meth c E A nL cells slots Q w (pc + 1) lv (.int (x ^^^ y) :: st)) : V p l e R s m args below meth c E A nL cells slots Q w pc lv (.int y :: .int x :: st) := fun H locs ls hP hD hS hl => lv_ixor C.1 C.2.1 hd (k H locs ls hP hD hS hl)
theorem v_ishl (C : VC p s m args meth c E A cc nL ret own) {x y : Int32} (hd : decode cc pc = .ok (.ishl, 1)) (k : V p l e R s m args below meth c E A nL cells slots Q w (pc + 1) lv (.int (x <<< (y &&& 31)) :: st)) : V p l e R s m args below meth c E A nL cells slots Q w pc lv (.int y :: .int x :: st) := fun H locs ls hP hD hS hl => lv_ishl C.1 C.2.1 hd (k H locs ls hP hD hS hl)
theorem v_ishr (C : VC p s m args meth c E A cc nL ret own) {x y : Int32} (hd : decode cc pc = .ok (.ishr, 1)) (k : V p l e R s m args below meth c E A nL cells slots Q w (pc + 1) lv (.int (x >>> (y &&& 31)) :: st)) : V p l e R s m args below meth c E A nL cells slots Q w pc lv (.int y :: .int x :: st) := fun H locs ls hP hD hS hl => lv_ishr C.1 C.2.1 hd (k H locs ls hP hD hS hl)
theorem v_idiv (C : VC p s m args meth c E A cc nL ret own) {x y : Int32} (hne : ¬ y = 0) (hd : decode cc pc = .ok (.idiv, 1)) (k : V p l e R s m args below meth c E A nL cells slots Q w (pc + 1) lv (.int (x / y) :: st)) : V p l e R s m args below meth c E A nL cells slots Q w pc lv (.int y :: .int x :: st) := fun H locs ls hP hD hS hl => lv_idiv C.1 C.2.1 hd hne (k H locs ls hP hD hS hl)
theorem v_irem (C : VC p s m args meth c E A cc nL ret own) {x y : Int32} (hne : ¬ y = 0) (hd : decode cc pc = .ok (.irem, 1)) (k : V p l e R s m args below meth c E A nL cells slots Q w (pc + 1) lv (.int (x - x / y * y) :: st)) : V p l e R s m args below meth c E A nL cells slots Q w pc lv (.int y :: .int x :: st) := fun H locs ls hP hD hS hl => lv_irem C.1 C.2.1 hd hne (k H locs ls hP hD hS hl)
theorem v_iushr (C : VC p s m args meth c E A cc nL ret own) {x y : Int32} (hd : decode cc pc = .ok (.iushr, 1)) (k : V p l e R s m args below meth c E A nL cells slots Q w (pc + 1) lv (.int ((x.toUInt32 >>> (y.toUInt32 &&& Int32.toUInt32 31)).toInt32) :: st)) : V p l e R s m args below meth c E A nL cells slots Q w pc lv (.int y :: .int x :: st) := fun H locs ls hP hD hS hl => lv_iushr C.1 C.2.1 hd rfl (k H locs ls hP hD hS hl)
theorem v_ladd (C : VC p s m args meth c E A cc nL ret own) {x y : Int64} (hd : decode cc pc = .ok (.ladd, 1)) (k : V p l e R s m args below meth c E A nL cells slots Q w (pc + 1) lv (.long (x + y) :: st)) : V p l e R s m args below meth c E A nL cells slots Q w pc lv (.long y :: .long x :: st) := fun H locs ls hP hD hS hl => lv_ladd C.1 C.2.1 hd (k H locs ls hP hD hS hl)
theorem v_lsub (C : VC p s m args meth c E A cc nL ret own) {x y : Int64} (hd : decode cc pc = .ok (.lsub, 1)) (k : V p l e R s m args below meth c E A nL cells slots Q w (pc + 1) lv (.long (x - y) :: st)) : V p l e R s m args below meth c E A nL cells slots Q w pc lv (.long y :: .long x :: st) := fun H locs ls hP hD hS hl => lv_lsub C.1 C.2.1 hd (k H locs ls hP hD hS hl)
theorem v_lmul (C : VC p s m args meth c E A cc nL ret own) {x y : Int64} (hd : decode cc pc = .ok (.lmul, 1)) (k : V p l e R s m args below meth c E A nL cells slots Q w (pc + 1) lv (.long (x * y) :: st)) : V p l e R s m args below meth c E A nL cells slots Q w pc lv (.long y :: .long x :: st) := fun H locs ls hP hD hS hl => lv_lmul C.1 C.2.1 hd (k H locs ls hP hD hS hl)
theorem v_ldiv (C : VC p s m args meth c E A cc nL ret own) {x y : Int64} (hne : ¬ y = 0) (hd : decode cc pc = .ok (.ldiv, 1)) (k : V p l e R s m args below meth c E A nL cells slots Q w (pc + 1) lv (.long (x / y) :: st)) : V p l e R s m args below meth c E A nL cells slots Q w pc lv (.long y :: .long x :: st) := fun H locs ls hP hD hS hl => lv_ldiv C.1 C.2.1 hd hne (k H locs ls hP hD hS hl)
theorem v_lrem (C : VC p s m args meth c E A cc nL ret own) {x y : Int64} (hne : ¬ y = 0) (hd : decode cc pc = .ok (.lrem, 1)) (k : V p l e R s m args below meth c E A nL cells slots Q w (pc + 1) lv (.long (x - x / y * y) :: st)) : V p l e R s m args below meth c E A nL cells slots Q w pc lv (.long y :: .long x :: st) := fun H locs ls hP hD hS hl => lv_lrem C.1 C.2.1 hd hne (k H locs ls hP hD hS hl)
theorem v_lcmp (C : VC p s m args meth c E A cc nL ret own) {x y : Int64} (hd : decode cc pc = .ok (.lcmp, 1)) (k : V p l e R s m args below meth c E A nL cells slots Q w (pc + 1) lv (.int (lg_cmp x y) :: st)) : V p l e R s m args below meth c E A nL cells slots Q w pc lv (.long y :: .long x :: st) := fun H locs ls hP hD hS hl => W.lcmp C.1 C.2.1 hd (k H locs ls hP hD hS hl)
theorem v_i2l (C : VC p s m args meth c E A cc nL ret own) {x : Int32} (hd : decode cc pc = .ok (.i2l, 1)) (k : V p l e R s m args below meth c E A nL cells slots Q w (pc + 1) lv (.long x.toInt64 :: st)) : V p l e R s m args below meth c E A nL cells slots Q w pc lv (.int x :: st) := fun H locs ls hP hD hS hl => lv_i2l C.1 C.2.1 hd rfl (k H locs ls hP hD hS hl)
theorem v_l2i (C : VC p s m args meth c E A cc nL ret own) {x : Int64} (hd : decode cc pc = .ok (.l2i, 1)) (k : V p l e R s m args below meth c E A nL cells slots Q w (pc + 1) lv (.int x.toInt32 :: st)) : V p l e R s m args below meth c E A nL cells slots Q w pc lv (.long x :: st) := fun H locs ls hP hD hS hl => lv_l2i C.1 C.2.1 hd rfl (k H locs ls hP hD hS hl)
theorem v_i2c (C : VC p s m args meth c E A cc nL ret own) {x : Int32} (hd : decode cc pc = .ok (.i2c, 1)) (k : V p l e R s m args below meth c E A nL cells slots Q w (pc + 1) lv (.int (x.toUInt32 % 65536).toInt32 :: st)) : V p l e R s m args below meth c E A nL cells slots Q w pc lv (.int x :: st) := fun H locs ls hP hD hS hl => lv_i2c C.1 C.2.1 hd rfl (k H locs ls hP hD hS hl)
theorem v_dup (C : VC p s m args meth c E A cc nL ret own) {va : Value} (hc : va.category = 1) (hd : decode cc pc = .ok (.dup, 1)) (k : V p l e R s m args below meth c E A nL cells slots Q w (pc + 1) lv (va :: va :: st)) : V p l e R s m args below meth c E A nL cells slots Q w pc lv (va :: st) := fun H locs ls hP hD hS hl => lv_dup C.1 C.2.1 hd hc (k H locs ls hP hD hS hl)
theorem v_pop (C : VC p s m args meth c E A cc nL ret own) {va : Value} (hc : va.category = 1) (hd : decode cc pc = .ok (.pop, 1)) (k : V p l e R s m args below meth c E A nL cells slots Q w (pc + 1) lv (st)) : V p l e R s m args below meth c E A nL cells slots Q w pc lv (va :: st) := fun H locs ls hP hD hS hl => lv_pop C.1 C.2.1 hd hc (k H locs ls hP hD hS hl)
theorem v_dup2 (C : VC p s m args meth c E A cc nL ret own) {va vb : Value} (hc : va.category = 1) (hb : vb.category = 1) (hd : decode cc pc = .ok (.dup2, 1)) (k : V p l e R s m args below meth c E A nL cells slots Q w (pc + 1) lv (va :: vb :: va :: vb :: st)) : V p l e R s m args below meth c E A nL cells slots Q w pc lv (va :: vb :: st) := fun H locs ls hP hD hS hl => lv_dup2_11 C.1 C.2.1 hd hc hb (k H locs ls hP hD hS hl)
theorem v_if_eq (C : VC p s m args meth c E A cc nL ret own) {x : Int32} {off : Int} (tgt : Nat) (ht : (pc : Int) + off = (tgt : Int)) (hd : decode cc pc = .ok (.ifCond .eq off, 3)) (kt : x = 0 → V p l e R s m args below meth c E A nL cells slots Q w tgt lv st) (kf : ¬ x = 0 → V p l e R s m args below meth c E A nL cells slots Q w (pc + 3) lv st) : V p l e R s m args below meth c E A nL cells slots Q w pc lv (.int x :: st) := fun H locs ls hP hD hS hl => lv_if_eq C.1 C.2.1 hd ht (fun h => kt h H locs ls hP hD hS hl) (fun h => kf h H locs ls hP hD hS hl)
theorem v_if_ne (C : VC p s m args meth c E A cc nL ret own) {x : Int32} {off : Int} (tgt : Nat) (ht : (pc : Int) + off = (tgt : Int)) (hd : decode cc pc = .ok (.ifCond .ne off, 3)) (kt : ¬ x = 0 → V p l e R s m args below meth c E A nL cells slots Q w tgt lv st) (kf : x = 0 → V p l e R s m args below meth c E A nL cells slots Q w (pc + 3) lv st) : V p l e R s m args below meth c E A nL cells slots Q w pc lv (.int x :: st) := fun H locs ls hP hD hS hl => lv_if_ne C.1 C.2.1 hd ht (fun h => kt h H locs ls hP hD hS hl) (fun h => kf h H locs ls hP hD hS hl)
theorem v_if_lt (C : VC p s m args meth c E A cc nL ret own) {x : Int32} {off : Int} (tgt : Nat) (ht : (pc : Int) + off = (tgt : Int)) (hd : decode cc pc = .ok (.ifCond .lt off, 3)) (kt : x < 0 → V p l e R s m args below meth c E A nL cells slots Q w tgt lv st) (kf : ¬ x < 0 → V p l e R s m args below meth c E A nL cells slots Q w (pc + 3) lv st) : V p l e R s m args below meth c E A nL cells slots Q w pc lv (.int x :: st) := fun H locs ls hP hD hS hl => lv_if_lt C.1 C.2.1 hd ht (fun h => kt h H locs ls hP hD hS hl) (fun h => kf h H locs ls hP hD hS hl)
theorem v_if_ge (C : VC p s m args meth c E A cc nL ret own) {x : Int32} {off : Int} (tgt : Nat) (ht : (pc : Int) + off = (tgt : Int)) (hd : decode cc pc = .ok (.ifCond .ge off, 3)) (kt : 0 ≤ x → V p l e R s m args below meth c E A nL cells slots Q w tgt lv st) (kf : ¬ 0 ≤ x → V p l e R s m args below meth c E A nL cells slots Q w (pc + 3) lv st) : V p l e R s m args below meth c E A nL cells slots Q w pc lv (.int x :: st) := fun H locs ls hP hD hS hl => lv_if_ge C.1 C.2.1 hd ht (fun h => kt h H locs ls hP hD hS hl) (fun h => kf h H locs ls hP hD hS hl)
theorem v_if_gt (C : VC p s m args meth c E A cc nL ret own) {x : Int32} {off : Int} (tgt : Nat) (ht : (pc : Int) + off = (tgt : Int)) (hd : decode cc pc = .ok (.ifCond .gt off, 3)) (kt : 0 < x → V p l e R s m args below meth c E A nL cells slots Q w tgt lv st) (kf : ¬ 0 < x → V p l e R s m args below meth c E A nL cells slots Q w (pc + 3) lv st) : V p l e R s m args below meth c E A nL cells slots Q w pc lv (.int x :: st) := fun H locs ls hP hD hS hl => lv_if_gt C.1 C.2.1 hd ht (fun h => kt h H locs ls hP hD hS hl) (fun h => kf h H locs ls hP hD hS hl)
theorem v_if_le (C : VC p s m args meth c E A cc nL ret own) {x : Int32} {off : Int} (tgt : Nat) (ht : (pc : Int) + off = (tgt : Int)) (hd : decode cc pc = .ok (.ifCond .le off, 3)) (kt : x ≤ 0 → V p l e R s m args below meth c E A nL cells slots Q w tgt lv st) (kf : ¬ x ≤ 0 → V p l e R s m args below meth c E A nL cells slots Q w (pc + 3) lv st) : V p l e R s m args below meth c E A nL cells slots Q w pc lv (.int x :: st) := fun H locs ls hP hD hS hl => lv_if_le C.1 C.2.1 hd ht (fun h => kt h H locs ls hP hD hS hl) (fun h => kf h H locs ls hP hD hS hl)
theorem v_icmp_eq (C : VC p s m args meth c E A cc nL ret own) {x y : Int32} {off : Int} (tgt : Nat) (ht : (pc : Int) + off = (tgt : Int)) (hd : decode cc pc = .ok (.if_icmp .eq off, 3)) (kt : x = y → V p l e R s m args below meth c E A nL cells slots Q w tgt lv st) (kf : ¬ x = y → V p l e R s m args below meth c E A nL cells slots Q w (pc + 3) lv st) : V p l e R s m args below meth c E A nL cells slots Q w pc lv (.int y :: .int x :: st) := fun H locs ls hP hD hS hl => lv_icmp_eq C.1 C.2.1 hd ht (fun h => kt h H locs ls hP hD hS hl) (fun h => kf h H locs ls hP hD hS hl)
theorem v_icmp_ne (C : VC p s m args meth c E A cc nL ret own) {x y : Int32} {off : Int} (tgt : Nat) (ht : (pc : Int) + off = (tgt : Int)) (hd : decode cc pc = .ok (.if_icmp .ne off, 3)) (kt : ¬ x = y → V p l e R s m args below meth c E A nL cells slots Q w tgt lv st) (kf : x = y → V p l e R s m args below meth c E A nL cells slots Q w (pc + 3) lv st) : V p l e R s m args below meth c E A nL cells slots Q w pc lv (.int y :: .int x :: st) := fun H locs ls hP hD hS hl => lv_icmp_ne C.1 C.2.1 hd ht (fun h => kt h H locs ls hP hD hS hl) (fun h => kf h H locs ls hP hD hS hl)
theorem v_icmp_lt (C : VC p s m args meth c E A cc nL ret own) {x y : Int32} {off : Int} (tgt : Nat) (ht : (pc : Int) + off = (tgt : Int)) (hd : decode cc pc = .ok (.if_icmp .lt off, 3)) (kt : x < y → V p l e R s m args below meth c E A nL cells slots Q w tgt lv st) (kf : ¬ x < y → V p l e R s m args below meth c E A nL cells slots Q w (pc + 3) lv st) : V p l e R s m args below meth c E A nL cells slots Q w pc lv (.int y :: .int x :: st) := fun H locs ls hP hD hS hl => lv_icmp_lt C.1 C.2.1 hd ht (fun h => kt h H locs ls hP hD hS hl) (fun h => kf h H locs ls hP hD hS hl)
theorem v_icmp_ge (C : VC p s m args meth c E A cc nL ret own) {x y : Int32} {off : Int} (tgt : Nat) (ht : (pc : Int) + off = (tgt : Int)) (hd : decode cc pc = .ok (.if_icmp .ge off, 3)) (kt : y ≤ x → V p l e R s m args below meth c E A nL cells slots Q w tgt lv st) (kf : ¬ y ≤ x → V p l e R s m args below meth c E A nL cells slots Q w (pc + 3) lv st) : V p l e R s m args below meth c E A nL cells slots Q w pc lv (.int y :: .int x :: st) := fun H locs ls hP hD hS hl => lv_icmp_ge C.1 C.2.1 hd ht (fun h => kt h H locs ls hP hD hS hl) (fun h => kf h H locs ls hP hD hS hl)
theorem v_icmp_gt (C : VC p s m args meth c E A cc nL ret own) {x y : Int32} {off : Int} (tgt : Nat) (ht : (pc : Int) + off = (tgt : Int)) (hd : decode cc pc = .ok (.if_icmp .gt off, 3)) (kt : y < x → V p l e R s m args below meth c E A nL cells slots Q w tgt lv st) (kf : ¬ y < x → V p l e R s m args below meth c E A nL cells slots Q w (pc + 3) lv st) : V p l e R s m args below meth c E A nL cells slots Q w pc lv (.int y :: .int x :: st) := fun H locs ls hP hD hS hl => lv_icmp_gt C.1 C.2.1 hd ht (fun h => kt h H locs ls hP hD hS hl) (fun h => kf h H locs ls hP hD hS hl)
theorem v_icmp_le (C : VC p s m args meth c E A cc nL ret own) {x y : Int32} {off : Int} (tgt : Nat) (ht : (pc : Int) + off = (tgt : Int)) (hd : decode cc pc = .ok (.if_icmp .le off, 3)) (kt : x ≤ y → V p l e R s m args below meth c E A nL cells slots Q w tgt lv st) (kf : ¬ x ≤ y → V p l e R s m args below meth c E A nL cells slots Q w (pc + 3) lv st) : V p l e R s m args below meth c E A nL cells slots Q w pc lv (.int y :: .int x :: st) := fun H locs ls hP hD hS hl => lv_icmp_le C.1 C.2.1 hd ht (fun h => kt h H locs ls hP hD hS hl) (fun h => kf h H locs ls hP hD hS hl)
theorem v_goto (C : VC p s m args meth c E A cc nL ret own) {off : Int} (tgt : Nat) (ht : (pc : Int) + off = (tgt : Int)) (hd : decode cc pc = .ok (.goto off, 3)) (k : V p l e R s m args below meth c E A nL cells slots Q w tgt lv st) : V p l e R s m args below meth c E A nL cells slots Q w pc lv st := fun H locs ls hP hD hS hl => lv_goto C.1 C.2.1 hd ht (k H locs ls hP hD hS hl)
theorem v_tblOut (C : VC p s m args meth c E A cc nL ret own) {dflt lo hi : Int} {offs : Array Int} {len : Nat} {x : Int32} (tgt : Nat) (ht : (pc : Int) + dflt = (tgt : Int)) (hd : decode cc pc = .ok (.tableswitch dflt lo hi offs, len)) (h : x.toInt < lo ∨ hi < x.toInt) (k : V p l e R s m args below meth c E A nL cells slots Q w tgt lv st) : V p l e R s m args below meth c E A nL cells slots Q w pc lv (.int x :: st) := fun H locs ls hP hD hS hl => lv_tableOut C.1 C.2.1 hd h ht (k H locs ls hP hD hS hl)
theorem v_tblIn (C : VC p s m args meth c E A cc nL ret own) {dflt lo hi off : Int} {offs : Array Int} {len : Nat} {x : Int32} (tgt : Nat) (hd : decode cc pc = .ok (.tableswitch dflt lo hi offs, len)) (h1 : ¬ x.toInt < lo) (h2 : ¬ hi < x.toInt) (ho : offs[(x.toInt - lo).toNat]? = some off) (ht : (pc : Int) + off = (tgt : Int)) (k : V p l e R s m args below meth c E A nL cells slots Q w tgt lv st) : V p l e R s m args below meth c E A nL cells slots Q w pc lv (.int x :: st) := fun H locs ls hP hD hS hl => lv_tableIn C.1 C.2.1 hd h1 h2 ho ht (k H locs ls hP hD hS hl)
theorem v_topi {x : Int32} (k : ∀ y : Int32, y = x → V p l e R s m args below meth c E A nL cells slots Q w pc lv (.int y :: st)) : V p l e R s m args below meth c E A nL cells slots Q w pc lv (.int x :: st) := k x rfl
theorem v_topl {x : Int64} (k : ∀ y : Int64, y = x → V p l e R s m args below meth c E A nL cells slots Q w pc lv (.long y :: st)) : V p l e R s m args below meth c E A nL cells slots Q w pc lv (.long x :: st) := k x rfl
theorem v_sub {lv' : List (Nat × Value)} (ks : List Nat) (hl' : lv_pick lv ks = lv') (k : V p l e R s m args below meth c E A nL cells slots Q w pc lv' st) : V p l e R s m args below meth c E A nL cells slots Q w pc lv st := fun H locs ls hP hD hS hl => k H locs ls hP hD hS (lv_sub hl ks hl')
theorem v_w {w' : va_W} (h : w = w') (k : V p l e R s m args below meth c E A nL cells slots Q w' pc lv st) : V p l e R s m args below meth c E A nL cells slots Q w pc lv st := h ▸ k
/-- what is known of a made class -/
def CF (K : String) (T : u_T) (N : Nat) (ty0 : Nat → FieldType) : Prop := (∀ x ∈ u_ws K T N, x ∈ gG) ∧ (∀ k, k < N → parseFieldDescriptor (T k).2.2.1 = some (ty0 k)) ∧ (∀ a, a < N → ∀ b, b < N → a ≠ b → (T a).2.1 ≠ (T b).2.1)
theorem v_get (C : VC p s m args meth c E A cc nL ret own) {K : String} {T : u_T} {N ci index : Nat} {ty0 : Nat → FieldType} (cf : CF K T N ty0) (hc : vwCl[ci]? = some (K, T, N)) (q0 k : Nat) {a : Nat} {fs : List Value} {v : Value} (he : w[q0]? = some (a, .inr (ci, fs))) (hk : k < N) (hlk : Cond.fieldLink own index (T k).1 (T k).2.1 (T k).2.2.1 ∈ gG) (hv : fs[k]? = some v) (hd : decode cc pc = .ok (.getfield index, 3)) (kk : V p l e R s m args below meth c E A nL cells slots Q w (pc + 3) lv (v :: st)) : V p l e R s m args below meth c E A nL cells slots Q w pc lv (.ref a :: st) := fun H locs ls hP hD hS hl => va_get C.1 C.2.1 C.2.2.2.2.2.1 cf.1 C.2.2.2.2.1 C.2.2.2.2.2.2.1 hP q0 he hc k hk (C.2.2.2.2.2.1 _ hlk) (fun _ h => h) hv hd (kk H locs ls hP hD hS hl)
theorem v_put (C : VC p s m args meth c E A cc nL ret own) {K : String} {T : u_T} {N ci index : Nat} {ty0 : Nat → FieldType} (cf : CF K T N ty0) (hc : vwCl[ci]? = some (K, T, N)) (q0 k : Nat) {a : Nat} {fs : List Value} {v : Value} {ty : FieldType} {w' : va_W} (he : w[q0]? = some (a, .inr (ci, fs))) (hw : w.set q0 (a, .inr (ci, fs.set k v)) = w') (hk : k < N) (hlk : Cond.fieldLink own index (T k).1 (T k).2.1 (T k).2.2.1 ∈ gG) (hfin : (T k).2.2.2 = false) (ht : ty0 k = ty) (hn : narrow ty v = v) (hfit : fits ty v = true) (hlf : k < fs.length) (hd : decode cc pc = .ok (.putfield index, 3)) (kk : V p l e R s m args below meth c E A nL cells slots Q w' (pc + 3) lv st) : V p l e R s m args below meth c E A nL cells slots Q w pc lv (v :: .ref a :: st) := fun H locs ls hP hD hS hl => va_put C.1 C.2.1 C.2.2.2.2.2.1 cf.1 ty0 cf.2.1 cf.2.2 C.2.2.2.2.1 C.2.2.2.2.2.2.1 hP hD hS q0 he hc k hk (C.2.2.2.2.2.1 _ hlk) (fun _ h => h) hfin (ht ▸ cf.2.1 k hk) hn hfit hlf hd (fun H1 locs1 hP1 hD1 hS1 => kk H1 locs1 ls (hw ▸ hP1) (hw ▸ hD1) hS1 hl)
theorem v_getN (C : VC p s m args meth c E A cc nL ret own) {host : String} {K : String} {T : u_T} {N ci index : Nat} {ty0 : Nat → FieldType} (cf : CF K T N ty0) (hc : vwCl[ci]? = some (K, T, N)) (q0 k : Nat) {a : Nat} {fs : List Value} {v : Value} (he : w[q0]? = some (a, .inr (ci, fs))) (hk : k < N) (hlk : Cond.fieldLinkNest own index (T k).1 (T k).2.1 (T k).2.2.1 host ∈ nW) (hv : fs[k]? = some v) (hd : decode cc pc = .ok (.getfield index, 3)) (kk : V p l e R s m args below meth c E A nL cells slots Q w (pc + 3) lv (v :: st)) : V p l e R s m args below meth c E A nL cells slots Q w pc lv (.ref a :: st) := fun H locs ls hP hD hS hl => va_getN C.1 C.2.1 C.2.2.2.2.2.1 cf.1 C.2.2.2.2.1 C.2.2.2.2.2.2.1 hP q0 he hc k hk (va_Nw.use (nst_tab (List.mem_filter.mp hlk).2) (C.2.2.2.2.2.2.2.2.2.1 _ hlk)) (fun _ h => h) hv hd (kk H locs ls hP hD hS hl)
theorem v_putN (C : VC p s m args meth c E A cc nL ret own) {host : String} {K : String} {T : u_T} {N ci index : Nat} {ty0 : Nat → FieldType} (cf : CF K T N ty0) (hc : vwCl[ci]? = some (K, T, N)) (q0 k : Nat) {a : Nat} {fs : List Value} {v : Value} {ty : FieldType} {w' : va_W} (he : w[q0]? = some (a, .inr (ci, fs))) (hw : w.set q0 (a, .inr (ci, fs.set k v)) = w') (hk : k < N) (hlk : Cond.fieldLinkNest own index (T k).1 (T k).2.1 (T k).2.2.1 host ∈ nW) (hfin : (T k).2.2.2 = false) (ht : ty0 k = ty) (hn : narrow ty v = v) (hfit : fits ty v = true) (hlf : k < fs.length) (hd : decode cc pc = .ok (.putfield index, 3)) (kk : V p l e R s m args below meth c E A nL cells slots Q w' (pc + 3) lv st) : V p l e R s m args below meth c E A nL cells slots Q w pc lv (v :: .ref a :: st) := fun H locs ls hP hD hS hl => va_putN C.1 C.2.1 C.2.2.2.2.2.1 cf.1 ty0 cf.2.1 cf.2.2 C.2.2.2.2.1 C.2.2.2.2.2.2.1 hP hD hS q0 he hc k hk (va_Nw.use (nst_tab (List.mem_filter.mp hlk).2) (C.2.2.2.2.2.2.2.2.2.1 _ hlk)) (fun _ h => h) hfin (ht ▸ cf.2.1 k hk) hn hfit hlf hd (fun H1 locs1 hP1 hD1 hS1 => kk H1 locs1 ls (hw ▸ hP1) (hw ▸ hD1) hS1 hl)
theorem v_iald (C : VC p s m args meth c E A cc nL ret own) (q0 : Nat) {a n : Nat} {f : Nat → Int32} {i : Int32} (ha : w[q0]? = some (a, .inl (E.2.1, n, .inl f))) (hin : vp_in i n) {j : Nat} (hj : i.toNatClampNeg = j) (hd : decode cc pc = .ok (.iaload, 1)) (kk : V p l e R s m args below meth c E A nL cells slots Q w (pc + 1) lv (.int (f j) :: st)) : V p l e R s m args below meth c E A nL cells slots Q w pc lv (.int i :: .ref a :: st) := fun H locs ls hP hD hS hl => va_iald C.1 C.2.1 C.2.2.2.2.2.2.1 hP q0 0 ha rfl hin hd (hj ▸ kk H locs ls hP hD hS hl)
theorem v_zald (C : VC p s m args meth c E A cc nL ret own) (q0 : Nat) {a n : Nat} {f : Nat → Int32} {i : Int32} (ha : w[q0]? = some (a, .inl (E.2.2.1, n, .inl f))) (hin : vp_in i n) {j : Nat} (hj : i.toNatClampNeg = j) (hd : decode cc pc = .ok (.baload, 1)) (kk : V p l e R s m args below meth c E A nL cells slots Q w (pc + 1) lv (.int (f j) :: st)) : V p l e R s m args below meth c E A nL cells slots Q w pc lv (.int i :: .ref a :: st) := fun H locs ls hP hD hS hl => va_zald C.1 C.2.1 C.2.2.2.2.2.2.1 hP q0 1 ha rfl hin hd (hj ▸ kk H locs ls hP hD hS hl)
theorem v_iast (C : VC p s m args meth c E A cc nL ret own) (q0 : Nat) {a n : Nat} {f : Nat → Int32} {i x : Int32} {w' : va_W} (ha : w[q0]? = some (a, .inl (E.2.1, n, .inl f))) {j : Nat} (hj : i.toNatClampNeg = j) (hw : w.set q0 (a, .inl (E.2.1, n, .inl (upd f j x))) = w') (hin : vp_in i n) (hd : decode cc pc = .ok (.iastore, 1)) (kk : V p l e R s m args below meth c E A nL cells slots Q w' (pc + 1) lv st) : V p l e R s m args below meth c E A nL cells slots Q w pc lv (.int x :: .int i :: .ref a :: st) := fun H locs ls hP hD hS hl => va_iast C.1 C.2.1 C.2.2.2.2.2.2.1 hP hD hS q0 0 ha rfl hin hd (fun H1 locs1 hP1 hD1 hS1 => kk H1 locs1 ls (hw ▸ hj ▸ hP1) (hw ▸ hj ▸ hD1) hS1 hl)
theorem v_zast (C : VC p s m args meth c E A cc nL ret own) (q0 : Nat) {a n : Nat} {f : Nat → Int32} {i x : Int32} {w' : va_W} (ha : w[q0]? = some (a, .inl (E.2.2.1, n, .inl f))) {j : Nat} (hj : i.toNatClampNeg = j) (hw : w.set q0 (a, .inl (E.2.2.1, n, .inl (upd f j (vp_nar .boolean x)))) = w') (hin : vp_in i n) (hd : decode cc pc = .ok (.bastore, 1)) (kk : V p l e R s m args below meth c E A nL cells slots Q w' (pc + 1) lv st) : V p l e R s m args below meth c E A nL cells slots Q w pc lv (.int x :: .int i :: .ref a :: st) := fun H locs ls hP hD hS hl => va_zast C.1 C.2.1 C.2.2.2.2.2.2.1 hP hD hS q0 1 ha rfl hin hd (fun H1 locs1 hP1 hD1 hS1 => kk H1 locs1 ls (hw ▸ hj ▸ hP1) (hw ▸ hj ▸ hD1) hS1 hl)
theorem v_alen (C : VC p s m args meth c E A cc nL ret own) (q0 : Nat) {a : Nat} {x : vp_A} {v : Int32} (ha : w[q0]? = some (a, .inl (E.2.1, x))) (hv : Int32.ofNat x.1 = v) (hd : decode cc pc = .ok (.arraylength, 1)) (kk : V p l e R s m args below meth c E A nL cells slots Q w (pc + 1) lv (.int v :: st)) : V p l e R s m args below meth c E A nL cells slots Q w pc lv (.ref a :: st) := fun H locs ls hP hD hS hl => va_alen C.1 C.2.1 C.2.2.2.2.2.2.1 hP q0 0 ha rfl hv hd (kk H locs ls hP hD hS hl)
end
end
section
def MF (y : MethodName) (cy : ByteArray) (ny : Nat) (ry : Option FieldType) (n : Nat) : Prop := Cond.code y cy ny ry ∈ gG ∧ Cond.initialized y.cls ∈ gG ∧ (y.cls ≠ "java/lang/invoke/MethodHandle" ∧ y.cls ≠ "java/lang/invoke/VarHandle" ∧ (parseMethodDescriptor y.desc).map (fun d => d.parameters.length) = some n)
def MFv (y : MethodName) (K : String) : Prop := Cond.instanceMethod y ∈ gG ∧ Cond.selects K y y ∈ gG
section
variable {p : Program} {l : Launch} {e : Env} {R : Room} {s : State} {m : MethodId} {args : Array Value} {below : List Frame} {meth : Method} {c : Code} {E : VE} {A : Nat → Prop} {cc : ByteArray} {nL cells slots : Nat} {ret : Option FieldType} {own : String} {Q : State → Prop} {w : va_W} {pc : Nat} {lv : List (Nat × Value)} {st : List Value}
variable {y : MethodName} {cy : ByteArray} {ny n idx : Nat} {ry : Option FieldType} {rm : Room} {S : Type} {b : Nat} {K : String}
theorem v_freeA (C : VC p s m args meth c E A cc nL ret own) {H : Heap} {locs : List Loc} (hD : va_D A w) (hS : va_S A s.heap H locs) : ∀ q, va_A w H.size q → A q := by
  intro q h
  rcases h with ⟨k, x, h⟩ | h
  · exact hD.2 k (q, x) h
  · exact C.2.2.2.2.2.2.2.1 q (Nat.le_trans hS.1 h)
theorem v_goi (C : VC p s m args meth c E A cc nL ret own) {Post : Int32 → S → Prop} {wc : va_W} {wc' w' : S → va_W} {rest : List Value} {a : Array Value} (is : List Nat)
    (hC : is.map (fun i => w[i]?) = wc.map some) (hadr : ∀ u, (wc' u).map Prod.fst = wc.map Prod.fst) (hw' : ∀ u, putc w is (wc' u) = w' u)
    (run : ∀ (H : Heap) (locs : List Loc) (ls : Array Slot), va_P E.1 vwCl w H → va_D A w → va_S A s.heap H locs → lv_has ls nL lv → va_Run p l e R s m args below meth c H locs cells slots 0 0 (F0 m pc ls st) rest (CQi E Post wc' wc H.size a) (va_A wc H.size))
    (kk : ∀ (r : Int32) (u : S), Post r u → V p l e R s m args below meth c E A nL cells slots Q (w' u) (pc + 3) lv (.int r :: rest)) : V p l e R s m args below meth c E A nL cells slots Q w pc lv st := by
  intro H locs ls hP hD hS hl
  have hF := va_free hD hS C.2.2.2.2.2.2.2.1 is hC
  refine va_calli (run H locs ls hP hD hS hl) hS (fun q _ h => hF q h) hF (fun r u t H1 locs1 ht hvm hp hB hz hk hS1 => ?_)
  have hP1 : va_P E.1 vwCl (wc' u) H1 := ht ▸ hB
  obtain ⟨h1, h2⟩ := put_join hP hD is hC (hadr u) hk hP1
  exact kk r u hp H1 locs1 ls (hw' u ▸ h1) (hw' u ▸ h2) hS1 hl
theorem v_gol (C : VC p s m args meth c E A cc nL ret own) {Post : Int64 → S → Prop} {wc : va_W} {wc' w' : S → va_W} {rest : List Value} {a : Array Value} (is : List Nat)
    (hC : is.map (fun i => w[i]?) = wc.map some) (hadr : ∀ u, (wc' u).map Prod.fst = wc.map Prod.fst) (hw' : ∀ u, putc w is (wc' u) = w' u)
    (run : ∀ (H : Heap) (locs : List Loc) (ls : Array Slot), va_P E.1 vwCl w H → va_D A w → va_S A s.heap H locs → lv_has ls nL lv → va_Run p l e R s m args below meth c H locs cells slots 0 0 (F0 m pc ls st) rest (CQl E Post wc' wc H.size a) (va_A wc H.size))
    (kk : ∀ (r : Int64) (u : S), Post r u → V p l e R s m args below meth c E A nL cells slots Q (w' u) (pc + 3) lv (.long r :: rest)) : V p l e R s m args below meth c E A nL cells slots Q w pc lv st := by
  intro H locs ls hP hD hS hl
  have hF := va_free hD hS C.2.2.2.2.2.2.2.1 is hC
  refine va_calll (run H locs ls hP hD hS hl) hS (fun q _ h => hF q h) hF (fun r u t H1 locs1 ht hvm hp hB hz hk hS1 => ?_)
  have hP1 : va_P E.1 vwCl (wc' u) H1 := ht ▸ hB
  obtain ⟨h1, h2⟩ := put_join hP hD is hC (hadr u) hk hP1
  exact kk r u hp H1 locs1 ls (hw' u ▸ h1) (hw' u ▸ h2) hS1 hl
theorem v_gov (C : VC p s m args meth c E A cc nL ret own) {Post : S → Prop} {wc : va_W} {wc' w' : S → va_W} {rest : List Value} {a : Array Value} (is : List Nat)
    (hC : is.map (fun i => w[i]?) = wc.map some) (hadr : ∀ u, (wc' u).map Prod.fst = wc.map Prod.fst) (hw' : ∀ u, putc w is (wc' u) = w' u)
    (run : ∀ (H : Heap) (locs : List Loc) (ls : Array Slot), va_P E.1 vwCl w H → va_D A w → va_S A s.heap H locs → lv_has ls nL lv → va_Run p l e R s m args below meth c H locs cells slots 0 0 (F0 m pc ls st) rest (CQv E Post wc' wc H.size a) (va_A wc H.size))
    (kk : ∀ (u : S), Post u → V p l e R s m args below meth c E A nL cells slots Q (w' u) (pc + 3) lv rest) : V p l e R s m args below meth c E A nL cells slots Q w pc lv st := by
  intro H locs ls hP hD hS hl
  have hF := va_free hD hS C.2.2.2.2.2.2.2.1 is hC
  refine va_callv (run H locs ls hP hD hS hl) hS (fun q _ h => hF q h) hF (fun u t H1 locs1 ht hvm hp hB hz hk hS1 => ?_)
  have hP1 : va_P E.1 vwCl (wc' u) H1 := ht ▸ hB
  obtain ⟨h1, h2⟩ := put_join hP hD is hC (hadr u) hk hP1
  exact kk u hp H1 locs1 ls (hw' u ▸ h1) (hw' u ▸ h2) hS1 hl
/-- the start of a callee's contract -/
theorem v_pre (C : VC p s m args meth c E A cc nL ret own) {wc : va_W} {H : Heap} (is : List Nat) (hC : is.map (fun i => w[i]?) = wc.map some) (hnd : va_nd is = true) {locs : List Loc} (hP : va_P E.1 vwCl w H) (hD : va_D A w) (hS : va_S A s.heap H locs) (av : List Value) : ∀ U : State, U.heap = H → s.WarmedH U.vm → CPre E av H.size wc av.toArray U := by
  intro U hU hW
  exact ⟨rfl, by rw [hU], by rw [hU]; exact pick_P hP is hC, va_K.moved hW.alike C.2.2.2.2.2.2.1, (hD.sub is hnd hC).weaken (fun _ _ _ _ => trivial), fun x hx => nst_warm (List.mem_filter.mp hx).2 hW (C.2.2.2.2.2.2.2.2.2.1 x hx), sF_go C.2.2.2.2.2.2.2.2.2.2 hS (va_free hD hS C.2.2.2.2.2.2.2.1 is hC) hW hU⟩
/-- a virtual call -/
theorem v_runV (C : VC p s m args meth c E A cc nL ret own) {Qc : Nat → Array Value → State → Outcome → State → Prop} {wc : va_W} (As rest : List Value) (hM : ∀ sz, Met l y (mW y cy ny ry) rm (CPre E (.ref b :: As) sz wc) (Qc sz) 0 0 (va_A wc sz)) (is : List Nat) (hC : is.map (fun i => w[i]?) = wc.map some) (hnd : va_nd is = true)
    (mf : MF y cy ny ry n) (mv : MFv y K) (hlk : Cond.methodLink own idx y ∈ gG) (hn : As.length = n) (hR : rm.frames + 1 ≤ R.frames ∧ 8 + (ny + 11) + rm.locals ≤ R.locals) (hz : rm.cells = 0 ∧ rm.slots = 0)
    (qr : Nat) {ci : Nat} {fs : List Value} {qc : vw_C} (hcr : vwCl[ci]? = some qc) (hK : qc.1 = K) (her : w[qr]? = some (b, .inr (ci, fs))) (hst : st = As.reverse ++ .ref b :: rest) (hroom : (rest.map fun v => v.category).sum ≤ 8) (hf : cells ≤ R.cells ∧ slots ≤ R.slots) (hd : decode cc pc = .ok (.invokevirtual idx, 3)) :
    ∀ (H : Heap) (locs : List Loc) (ls : Array Slot), va_P E.1 vwCl w H → va_D A w → va_S A s.heap H locs → lv_has ls nL lv → va_Run p l e R s m args below meth c H locs cells slots 0 0 (F0 m pc ls st) rest (Qc H.size (Value.ref b :: As).toArray) (va_A wc H.size) := by
  intro H locs ls hP hD hS hl
  subst hst
  subst hK
  have cb : CallB R s args own idx y cy ny ry (mW y cy ny ry) rm 0 0 n := callB_of n C.2.2.2.2.2.1 (mW_good (fun _ h => h) mf.1) rfl hz.1 hz.2 (C.2.2.2.2.2.1 _ mf.2.1) (C.2.2.2.2.2.1 _ hlk) mf.2.2 hR
  exact va_runV ⟨C.1, C.2.1, C.2.2.1, C.2.2.2.2.1, C.2.2.2.2.2.1⟩ (hM H.size) ⟨cb, C.2.2.2.2.2.1 _ mv.1, C.2.2.2.2.2.1 _ mv.2⟩ ⟨CPre_blind, va_recv C.2.2.2.2.2.2.1 hP hcr her, v_pre C is hC hnd hP hD hS (.ref b :: As)⟩ rfl hn hl.1 rfl (lv_room hroom) hd hf
theorem v_runS (C : VC p s m args meth c E A cc nL ret own) {Qc : Nat → Array Value → State → Outcome → State → Prop} {wc : va_W} (As rest : List Value) (hM : ∀ sz, Met l y (mW y cy ny ry) rm (CPre E As sz wc) (Qc sz) 0 0 (va_A wc sz)) (is : List Nat) (hC : is.map (fun i => w[i]?) = wc.map some) (hnd : va_nd is = true)
    (mf : MF y cy ny ry n) (ms : Cond.static y ∈ gG) (hlk : Cond.methodLink own idx y ∈ gG) (hn : As.length = n) (hR : rm.frames + 1 ≤ R.frames ∧ 8 + (ny + 11) + rm.locals ≤ R.locals) (hz : rm.cells = 0 ∧ rm.slots = 0)
    (hst : st = As.reverse ++ rest) (hroom : (rest.map fun v => v.category).sum ≤ 8) (hf : cells ≤ R.cells ∧ slots ≤ R.slots) (hd : decode cc pc = .ok (.invokestatic idx, 3)) :
    ∀ (H : Heap) (locs : List Loc) (ls : Array Slot), va_P E.1 vwCl w H → va_D A w → va_S A s.heap H locs → lv_has ls nL lv → va_Run p l e R s m args below meth c H locs cells slots 0 0 (F0 m pc ls st) rest (Qc H.size As.toArray) (va_A wc H.size) := by
  intro H locs ls hP hD hS hl
  subst hst
  have cb : CallB R s args own idx y cy ny ry (mW y cy ny ry) rm 0 0 n := callB_of n C.2.2.2.2.2.1 (mW_good (fun _ h => h) mf.1) rfl hz.1 hz.2 (C.2.2.2.2.2.1 _ mf.2.1) (C.2.2.2.2.2.1 _ hlk) mf.2.2 hR
  exact va_runS ⟨C.1, C.2.1, C.2.2.1, C.2.2.2.2.1, C.2.2.2.2.2.1⟩ (hM H.size) ⟨cb, C.2.2.2.2.2.1 _ ms⟩ ⟨CPre_blind, v_pre C is hC hnd hP hD hS As⟩ rfl hn hl.1 rfl (lv_room hroom) hd hf
theorem v_runSN (C : VC p s m args meth c E A cc nL ret own) {Qc : Nat → Array Value → State → Outcome → State → Prop} {wc : va_W} {host : String} (As rest : List Value) (hM : ∀ sz, Met l y (mW y cy ny ry) rm (CPre E As sz wc) (Qc sz) 0 0 (va_A wc sz)) (is : List Nat) (hC : is.map (fun i => w[i]?) = wc.map some) (hnd : va_nd is = true)
    (mf : MF y cy ny ry n) (ms : Cond.static y ∈ gG) (hlk : Cond.methodLinkNest own idx y host ∈ nW) (hn : As.length = n) (hR : rm.frames + 1 ≤ R.frames ∧ 8 + (ny + 11) + rm.locals ≤ R.locals) (hz : rm.cells = 0 ∧ rm.slots = 0)
    (hst : st = As.reverse ++ rest) (hroom : (rest.map fun v => v.category).sum ≤ 8) (hf : cells ≤ R.cells ∧ slots ≤ R.slots) (hd : decode cc pc = .ok (.invokestatic idx, 3)) :
    ∀ (H : Heap) (locs : List Loc) (ls : Array Slot), va_P E.1 vwCl w H → va_D A w → va_S A s.heap H locs → lv_has ls nL lv → va_Run p l e R s m args below meth c H locs cells slots 0 0 (F0 m pc ls st) rest (Qc H.size As.toArray) (va_A wc H.size) := by
  intro H locs ls hP hD hS hl
  subst hst
  exact va_runSN ⟨C.1, C.2.1, C.2.2.1, C.2.2.2.2.1, C.2.2.2.2.2.1⟩ (hM H.size) ⟨va_cnB n C.2.2.2.2.2.1 (mW_good (fun _ h => h) mf.1) rfl hz.1 hz.2 (C.2.2.2.2.2.2.2.2.2.1 _ hlk) (C.2.2.2.2.2.1 _ mf.2.1) mf.2.2 hR, C.2.2.2.2.2.1 _ ms, trivial⟩ ⟨CPre_blind, v_pre C is hC hnd hP hD hS As⟩ rfl hn hl.1 rfl (lv_room hroom) hd hf
/-- a call whose callee has the whole world -/
theorem v_preA (C : VC p s m args meth c E A cc nL ret own) {H : Heap} {locs : List Loc} (hP : va_P E.1 vwCl w H) (hD : va_D A w) (hS : va_S A s.heap H locs) (av : List Value) : ∀ U : State, U.heap = H → s.WarmedH U.vm → CPre E av H.size w av.toArray U := by
  intro U hU hW
  exact ⟨rfl, by rw [hU], by rw [hU]; exact hP, va_K.moved hW.alike C.2.2.2.2.2.2.1, hD.weaken (fun _ _ _ _ => trivial), fun x hx => nst_warm (List.mem_filter.mp hx).2 hW (C.2.2.2.2.2.2.2.2.2.1 x hx), sF_go C.2.2.2.2.2.2.2.2.2.2 hS (v_freeA C hD hS) hW hU⟩
theorem v_runVA (C : VC p s m args meth c E A cc nL ret own) {Qc : Nat → Array Value → State → Outcome → State → Prop} (As rest : List Value) (hM : ∀ sz, Met l y (mW y cy ny ry) rm (CPre E (.ref b :: As) sz w) (Qc sz) 0 0 (va_A w sz))
    (mf : MF y cy ny ry n) (mv : MFv y K) (hlk : Cond.methodLink own idx y ∈ gG) (hn : As.length = n) (hR : rm.frames + 1 ≤ R.frames ∧ 8 + (ny + 11) + rm.locals ≤ R.locals) (hz : rm.cells = 0 ∧ rm.slots = 0)
    (qr : Nat) {ci : Nat} {fs : List Value} {qc : vw_C} (hcr : vwCl[ci]? = some qc) (hK : qc.1 = K) (her : w[qr]? = some (b, .inr (ci, fs))) (hst : st = As.reverse ++ .ref b :: rest) (hroom : (rest.map fun v => v.category).sum ≤ 8) (hf : cells ≤ R.cells ∧ slots ≤ R.slots) (hd : decode cc pc = .ok (.invokevirtual idx, 3)) :
    ∀ (H : Heap) (locs : List Loc) (ls : Array Slot), va_P E.1 vwCl w H → va_D A w → va_S A s.heap H locs → lv_has ls nL lv → va_Run p l e R s m args below meth c H locs cells slots 0 0 (F0 m pc ls st) rest (Qc H.size (Value.ref b :: As).toArray) (va_A w H.size) := by
  intro H locs ls hP hD hS hl
  subst hst
  subst hK
  have cb : CallB R s args own idx y cy ny ry (mW y cy ny ry) rm 0 0 n := callB_of n C.2.2.2.2.2.1 (mW_good (fun _ h => h) mf.1) rfl hz.1 hz.2 (C.2.2.2.2.2.1 _ mf.2.1) (C.2.2.2.2.2.1 _ hlk) mf.2.2 hR
  exact va_runV ⟨C.1, C.2.1, C.2.2.1, C.2.2.2.2.1, C.2.2.2.2.2.1⟩ (hM H.size) ⟨cb, C.2.2.2.2.2.1 _ mv.1, C.2.2.2.2.2.1 _ mv.2⟩ ⟨CPre_blind, va_recv C.2.2.2.2.2.2.1 hP hcr her, v_preA C hP hD hS (.ref b :: As)⟩ rfl hn hl.1 rfl (lv_room hroom) hd hf
theorem v_goAi (C : VC p s m args meth c E A cc nL ret own) {Post : Int32 → S → Prop} {wc' : S → va_W} {rest : List Value} {a : Array Value} (hadr : ∀ u, (wc' u).map Prod.fst = w.map Prod.fst)
    (run : ∀ (H : Heap) (locs : List Loc) (ls : Array Slot), va_P E.1 vwCl w H → va_D A w → va_S A s.heap H locs → lv_has ls nL lv → va_Run p l e R s m args below meth c H locs cells slots 0 0 (F0 m pc ls st) rest (CQi E Post wc' w H.size a) (va_A w H.size))
    (kk : ∀ (r : Int32) (u : S), Post r u → V p l e R s m args below meth c E A nL cells slots Q (wc' u) (pc + 3) lv (.int r :: rest)) : V p l e R s m args below meth c E A nL cells slots Q w pc lv st := by
  intro H locs ls hP hD hS hl
  have hF := v_freeA C hD hS
  refine va_calli (run H locs ls hP hD hS hl) hS (fun q _ h => hF q h) hF (fun r u t H1 locs1 ht hvm hp hB hz hk hS1 => ?_)
  exact kk r u hp H1 locs1 ls (ht ▸ hB) (va_D_adr hD (hadr u)) hS1 hl
theorem v_goAl (C : VC p s m args meth c E A cc nL ret own) {Post : Int64 → S → Prop} {wc' : S → va_W} {rest : List Value} {a : Array Value} (hadr : ∀ u, (wc' u).map Prod.fst = w.map Prod.fst)
    (run : ∀ (H : Heap) (locs : List Loc) (ls : Array Slot), va_P E.1 vwCl w H → va_D A w → va_S A s.heap H locs → lv_has ls nL lv → va_Run p l e R s m args below meth c H locs cells slots 0 0 (F0 m pc ls st) rest (CQl E Post wc' w H.size a) (va_A w H.size))
    (kk : ∀ (r : Int64) (u : S), Post r u → V p l e R s m args below meth c E A nL cells slots Q (wc' u) (pc + 3) lv (.long r :: rest)) : V p l e R s m args below meth c E A nL cells slots Q w pc lv st := by
  intro H locs ls hP hD hS hl
  have hF := v_freeA C hD hS
  refine va_calll (run H locs ls hP hD hS hl) hS (fun q _ h => hF q h) hF (fun r u t H1 locs1 ht hvm hp hB hz hk hS1 => ?_)
  exact kk r u hp H1 locs1 ls (ht ▸ hB) (va_D_adr hD (hadr u)) hS1 hl
theorem v_goAv (C : VC p s m args meth c E A cc nL ret own) {Post : S → Prop} {wc' : S → va_W} {rest : List Value} {a : Array Value} (hadr : ∀ u, (wc' u).map Prod.fst = w.map Prod.fst)
    (run : ∀ (H : Heap) (locs : List Loc) (ls : Array Slot), va_P E.1 vwCl w H → va_D A w → va_S A s.heap H locs → lv_has ls nL lv → va_Run p l e R s m args below meth c H locs cells slots 0 0 (F0 m pc ls st) rest (CQv E Post wc' w H.size a) (va_A w H.size))
    (kk : ∀ (u : S), Post u → V p l e R s m args below meth c E A nL cells slots Q (wc' u) (pc + 3) lv rest) : V p l e R s m args below meth c E A nL cells slots Q w pc lv st := by
  intro H locs ls hP hD hS hl
  have hF := v_freeA C hD hS
  refine va_callv (run H locs ls hP hD hS hl) hS (fun q _ h => hF q h) hF (fun u t H1 locs1 ht hvm hp hB hz hk hS1 => ?_)
  exact kk u hp H1 locs1 ls (ht ▸ hB) (va_D_adr hD (hadr u)) hS1 hl
/-- returns -/
theorem v_ireti (C : VC p s m args meth c E A cc nL (some .int) own) {Post : Int32 → S → Prop} {wf : S → va_W} {w0 : va_W} {x : Int32} (u : S) (hA : va_A w0 s.heap.size = A) (hw : w = wf u) (h : Post x u) (hd : decode cc pc = .ok (.ireturn, 1)) : V p l e R s m args below meth c E A nL cells slots (MQ below (CQi E Post wf w0 s.heap.size) args s cells slots A) w pc lv [.int x] := by
  intro H locs ls hP hD hS hl
  subst hw
  exact W.iret C.1 C.2.1 C.2.2.2.1 (fun t ht hW => ⟨⟨x, u, rfl, h, by show va_P _ _ _ t.heap; rw [ht]; exact hP⟩, hA ▸ hS.F ht⟩) hS.2.2 hd C.2.2.2.2.2.2.2.2.1
theorem v_iretz (C : VC p s m args meth c E A cc nL (some .boolean) own) {Post : Int32 → S → Prop} {wf : S → va_W} {w0 : va_W} {x : Int32} (hz : narrow .boolean (.int x) = .int x) (u : S) (hA : va_A w0 s.heap.size = A) (hw : w = wf u) (h : Post x u) (hd : decode cc pc = .ok (.ireturn, 1)) : V p l e R s m args below meth c E A nL cells slots (MQ below (CQi E Post wf w0 s.heap.size) args s cells slots A) w pc lv [.int x] := by
  intro H locs ls hP hD hS hl
  subst hw
  exact W.zret C.1 C.2.1 C.2.2.2.1 hz (fun t ht hW => ⟨⟨x, u, rfl, h, by show va_P _ _ _ t.heap; rw [ht]; exact hP⟩, hA ▸ hS.F ht⟩) hS.2.2 hd C.2.2.2.2.2.2.2.2.1
theorem v_lret (C : VC p s m args meth c E A cc nL (some .long) own) {Post : Int64 → S → Prop} {wf : S → va_W} {w0 : va_W} {x : Int64} (u : S) (hA : va_A w0 s.heap.size = A) (hw : w = wf u) (h : Post x u) (hd : decode cc pc = .ok (.lreturn, 1)) : V p l e R s m args below meth c E A nL cells slots (MQ below (CQl E Post wf w0 s.heap.size) args s cells slots A) w pc lv [.long x] := by
  intro H locs ls hP hD hS hl
  subst hw
  exact W.lret C.1 C.2.1 C.2.2.2.1 (fun t ht hW => ⟨⟨x, u, rfl, h, by show va_P _ _ _ t.heap; rw [ht]; exact hP⟩, hA ▸ hS.F ht⟩) hS.2.2 hd C.2.2.2.2.2.2.2.2.1
theorem v_vret (C : VC p s m args meth c E A cc nL none own) {Post : S → Prop} {wf : S → va_W} {w0 : va_W} (u : S) (hA : va_A w0 s.heap.size = A) (hw : w = wf u) (h : Post u) (hd : decode cc pc = .ok (.return_, 1)) : V p l e R s m args below meth c E A nL cells slots (MQ below (CQv E Post wf w0 s.heap.size) args s cells slots A) w pc lv [] := by
  intro H locs ls hP hD hS hl
  subst hw
  exact W.vret C.1 C.2.1 C.2.2.2.1 (fun t ht hW => ⟨⟨u, rfl, h, by show va_P _ _ _ t.heap; rw [ht]; exact hP⟩, hA ▸ hS.F ht⟩) hS.2.2 hd C.2.2.2.2.2.2.2.2.1
/-- System.arraycopy of ints -/
theorem v_copy (C : VC p s m args meth c E A cc nL ret own) (q0 q1 : Nat) {a a0 n0 n1 : Nat} {f g : Nat → Int32} {w' : va_W} {sp dp cn : Int32} (ha0 : w[q0]? = some (a0, .inl (E.2.1, n0, .inl f))) (ha1 : w[q1]? = some (a, .inl (E.2.1, n1, .inl g)))
    (hw : w.set q1 (a, .inl (E.2.1, n1, .inl (va_cpy f g sp.toNatClampNeg dp.toNatClampNeg cn.toNatClampNeg))) = w') (h1 : ¬ sp < 0) (h2 : ¬ dp < 0) (h3 : ¬ cn < 0) (h4 : sp.toNatClampNeg + cn.toNatClampNeg ≤ n0) (h5 : dp.toNatClampNeg + cn.toNatClampNeg ≤ n1)
    (hlk : Cond.methodLink own idx arraycopyName ∈ gG) (hnat : Cond.native arraycopyName ∈ gG) (hsta : Cond.static arraycopyName ∈ gG) (hini : Cond.initialized "java/lang/System" ∈ gG) (hfr : 1 ≤ R.frames) (hlo : (st.map fun v => v.category).sum + (nativeFrameWords "java/lang/System" "arraycopy" 5 + 11) ≤ R.locals) (hd : decode cc pc = .ok (.invokestatic idx, 3))
    (kk : V p l e R s m args below meth c E A nL cells slots Q w' (pc + 3) lv st) : V p l e R s m args below meth c E A nL cells slots Q w pc lv (.int cn :: .int dp :: .ref a :: .int sp :: .ref a0 :: st) := fun H locs ls hP hD hS hl =>
  va_copyi C.1 C.2.1 (C.2.2.1.trans hl.1.symm) C.2.2.2.2.1 (C.2.2.2.2.2.1 _ hlk) (C.2.2.2.2.2.1 _ hnat) (C.2.2.2.2.2.1 _ hsta) (C.2.2.2.2.2.1 _ hini) C.2.2.2.2.2.2.1 hP hD hS q0 q1 0 0 ha0 ha1 rfl rfl rfl h1 h2 h3 h4 h5 (fun i _ => rfl) hfr hlo hd (fun H1 locs1 hP1 hD1 hS1 => kk H1 locs1 ls (hw ▸ hP1) (hw ▸ hD1) hS1 hl)
end
/-- a contract out of the walk of the body -/
theorem v_met {l : Launch} {E : VE} {y : MethodName} {cc : ByteArray} {nL : Nat} {ret : Option FieldType} {rm : Room} {Qc : Array Value → State → Outcome → State → Prop} {av : List Value} {sz : Nat} {w : va_W} (hy : plainName y.cls = true) (hlen : (lg_sl av).length ≤ nL)
    (body : ∀ (p : Program) (e : Env) (s : State) (m : MethodId) (below : List Frame) (meth : Method) (c : Code) (A : Nat → Prop), s.heap.size = sz → va_A w sz = A → VC p s m av.toArray meth c E A cc nL ret y.cls → V p l e rm s m av.toArray below meth c E A nL 0 0 (MQ below Qc av.toArray s 0 0 A) w 0 (lv_args 0 av) []) :
    Met l y (mW y cc nL ret) rm (CPre E av sz w) Qc 0 0 (va_A w sz) := by
  refine Met.ofW (cc := cc) (maxL := nL) (ret := ret) hy rfl ?_
  intro p e s m args below meth c s₁ B hml hv
  obtain ⟨rfl, hsz, hP, hK, hD0, hN, hF⟩ := hv
  have hts := atoms_spec (ws := mW y cc nL ret) B.pre
  have hA : ∀ q : Nat, s.heap.size ≤ q → va_A w sz q := fun q h => Or.inr (hsz ▸ h)
  have hl := lv_entry av (n := nL) hlen
  rw [lg_entry_eq]
  exact body p e s m below meth c _ hsz rfl ⟨B.exec, B.bytes, hml, B.returns, findClass_of_methodNamed B.named, fun x hx => hts x (List.mem_cons_of_mem _ hx), hK, hA, B.notSynchronized, hN, hF⟩ s.heap [] _ hP (hD0.self) va_S.rf hl
/-- the way out of a table of jumps -/
theorem tblo {x : Int32} {k : Nat} (hk : k < 2 ^ 31) (h : ∀ j, j ≤ k → ¬ x = nI j) : x.toInt < 0 ∨ (k : Int) < x.toInt := by
  by_cases hx : x < 0
  · exact Or.inl (by have := Int32.lt_iff_toInt_lt.mp hx; simpa using this)
  · obtain ⟨j, hj, rfl⟩ := nI_of hx
    by_cases hjk : j ≤ k
    · exact absurd rfl (h j hjk)
    · exact Or.inr (by rw [nI_toInt hj]; omega)
end
section
theorem zz_last : True := trivial
end

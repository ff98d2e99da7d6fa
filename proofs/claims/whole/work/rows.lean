section
-- ===== PART A: goes FIRST, ahead of the names: the tables' words, and 'selects' of the private methods out of them =====
/-- a private method of a class that the tables say can be made, by its rows of tables_1 -/
def lw_okq (q : MethodName × Nat) : Prop := (q.1.cls ≠ "java/lang/invoke/MethodHandle" ∧ q.1.cls ≠ "java/lang/invoke/VarHandle") ∧ Cond.instantiable q.1.cls q.2 ∈ tables_1 ∧ Cond.privateMethod q.1 ∈ tables_1 ∧ Cond.instanceMethod q.1 ∈ tables_1
theorem lw_p0 : lw_okq (⟨"PressedPad", "bad", "(I)I"⟩, 15) := ⟨⟨by decide +kernel, by decide +kernel⟩, List.mem_of_getElem? (i := 21) (by decide +kernel), List.mem_of_getElem? (i := 267) (by decide +kernel), List.mem_of_getElem? (i := 268) (by decide +kernel)⟩
theorem lw_p1 : lw_okq (⟨"PressedPad", "no", "()I"⟩, 15) := ⟨⟨by decide +kernel, by decide +kernel⟩, List.mem_of_getElem? (i := 21) (by decide +kernel), List.mem_of_getElem? (i := 297) (by decide +kernel), List.mem_of_getElem? (i := 298) (by decide +kernel)⟩
theorem lw_p2 : lw_okq (⟨"PressedPad", "full", "()I"⟩, 15) := ⟨⟨by decide +kernel, by decide +kernel⟩, List.mem_of_getElem? (i := 21) (by decide +kernel), List.mem_of_getElem? (i := 305) (by decide +kernel), List.mem_of_getElem? (i := 306) (by decide +kernel)⟩
theorem lw_p3 : lw_okq (⟨"PressedPad$PenBox", "penOf", "(I)LPressedPad$Pencil;"⟩, 1) := ⟨⟨by decide +kernel, by decide +kernel⟩, List.mem_of_getElem? (i := 29) (by decide +kernel), List.mem_of_getElem? (i := 324) (by decide +kernel), List.mem_of_getElem? (i := 325) (by decide +kernel)⟩
theorem lw_p4 : lw_okq (⟨"PressedPad$Pad", "pressInto", "(III)V"⟩, 12) := ⟨⟨by decide +kernel, by decide +kernel⟩, List.mem_of_getElem? (i := 82) (by decide +kernel), List.mem_of_getElem? (i := 379) (by decide +kernel), List.mem_of_getElem? (i := 380) (by decide +kernel)⟩
theorem lw_p5 : lw_okq (⟨"PressedPad$Reader", "step", "()V"⟩, 8) := ⟨⟨by decide +kernel, by decide +kernel⟩, List.mem_of_getElem? (i := 184) (by decide +kernel), List.mem_of_getElem? (i := 426) (by decide +kernel), List.mem_of_getElem? (i := 427) (by decide +kernel)⟩
theorem lw_p6 : lw_okq (⟨"PressedPad$Reader", "isWithin", "(III)Z"⟩, 8) := ⟨⟨by decide +kernel, by decide +kernel⟩, List.mem_of_getElem? (i := 184) (by decide +kernel), List.mem_of_getElem? (i := 430) (by decide +kernel), List.mem_of_getElem? (i := 431) (by decide +kernel)⟩
theorem lw_p7 : lw_okq (⟨"PressedPad$Reader", "passWord", "()V"⟩, 8) := ⟨⟨by decide +kernel, by decide +kernel⟩, List.mem_of_getElem? (i := 184) (by decide +kernel), List.mem_of_getElem? (i := 434) (by decide +kernel), List.mem_of_getElem? (i := 435) (by decide +kernel)⟩
theorem lw_p8 : lw_okq (⟨"PressedPad$Reader", "passFigures", "()V"⟩, 8) := ⟨⟨by decide +kernel, by decide +kernel⟩, List.mem_of_getElem? (i := 184) (by decide +kernel), List.mem_of_getElem? (i := 438) (by decide +kernel), List.mem_of_getElem? (i := 439) (by decide +kernel)⟩
theorem lw_p9 : lw_okq (⟨"PressedPad$Reader", "readFirst", "(LPressedPad$Pad;)Z"⟩, 8) := ⟨⟨by decide +kernel, by decide +kernel⟩, List.mem_of_getElem? (i := 184) (by decide +kernel), List.mem_of_getElem? (i := 442) (by decide +kernel), List.mem_of_getElem? (i := 443) (by decide +kernel)⟩
theorem lw_p10 : lw_okq (⟨"PressedPad$Reader", "isWord", "(Ljava/lang/String;)Z"⟩, 8) := ⟨⟨by decide +kernel, by decide +kernel⟩, List.mem_of_getElem? (i := 184) (by decide +kernel), List.mem_of_getElem? (i := 447) (by decide +kernel), List.mem_of_getElem? (i := 448) (by decide +kernel)⟩
theorem lw_p11 : lw_okq (⟨"PressedPad$Reader", "isNumber", "(II)Z"⟩, 8) := ⟨⟨by decide +kernel, by decide +kernel⟩, List.mem_of_getElem? (i := 184) (by decide +kernel), List.mem_of_getElem? (i := 499) (by decide +kernel), List.mem_of_getElem? (i := 500) (by decide +kernel)⟩
theorem lw_p12 : lw_okq (⟨"PressedPad$Reader", "passStop", "()Z"⟩, 8) := ⟨⟨by decide +kernel, by decide +kernel⟩, List.mem_of_getElem? (i := 184) (by decide +kernel), List.mem_of_getElem? (i := 504) (by decide +kernel), List.mem_of_getElem? (i := 505) (by decide +kernel)⟩
theorem lw_p13 : lw_okq (⟨"PressedPad$Reader", "readItem", "(LPressedPad$Pad;LPressedPad$PenBox;)Z"⟩, 8) := ⟨⟨by decide +kernel, by decide +kernel⟩, List.mem_of_getElem? (i := 184) (by decide +kernel), List.mem_of_getElem? (i := 508) (by decide +kernel), List.mem_of_getElem? (i := 509) (by decide +kernel)⟩
theorem lw_p14 : lw_okq (⟨"PressedPad$Reader", "readCarbon", "(LPressedPad$Pad;)Z"⟩, 8) := ⟨⟨by decide +kernel, by decide +kernel⟩, List.mem_of_getElem? (i := 184) (by decide +kernel), List.mem_of_getElem? (i := 513) (by decide +kernel), List.mem_of_getElem? (i := 514) (by decide +kernel)⟩
theorem lw_p15 : lw_okq (⟨"PressedPad$Reader", "readPen", "()Z"⟩, 8) := ⟨⟨by decide +kernel, by decide +kernel⟩, List.mem_of_getElem? (i := 184) (by decide +kernel), List.mem_of_getElem? (i := 522) (by decide +kernel), List.mem_of_getElem? (i := 523) (by decide +kernel)⟩
def lw_privs_1 : List (MethodName × Nat) := [(⟨"PressedPad", "bad", "(I)I"⟩, 15), (⟨"PressedPad", "no", "()I"⟩, 15), (⟨"PressedPad", "full", "()I"⟩, 15), (⟨"PressedPad$PenBox", "penOf", "(I)LPressedPad$Pencil;"⟩, 1), (⟨"PressedPad$Pad", "pressInto", "(III)V"⟩, 12), (⟨"PressedPad$Reader", "step", "()V"⟩, 8), (⟨"PressedPad$Reader", "isWithin", "(III)Z"⟩, 8), (⟨"PressedPad$Reader", "passWord", "()V"⟩, 8), (⟨"PressedPad$Reader", "passFigures", "()V"⟩, 8), (⟨"PressedPad$Reader", "readFirst", "(LPressedPad$Pad;)Z"⟩, 8), (⟨"PressedPad$Reader", "isWord", "(Ljava/lang/String;)Z"⟩, 8), (⟨"PressedPad$Reader", "isNumber", "(II)Z"⟩, 8), (⟨"PressedPad$Reader", "passStop", "()Z"⟩, 8), (⟨"PressedPad$Reader", "readItem", "(LPressedPad$Pad;LPressedPad$PenBox;)Z"⟩, 8), (⟨"PressedPad$Reader", "readCarbon", "(LPressedPad$Pad;)Z"⟩, 8), (⟨"PressedPad$Reader", "readPen", "()Z"⟩, 8)]
theorem lw_r1 : ∀ q ∈ lw_privs_1, lw_okq q := List.forall_mem_cons.mpr ⟨lw_p0, List.forall_mem_cons.mpr ⟨lw_p1, List.forall_mem_cons.mpr ⟨lw_p2, List.forall_mem_cons.mpr ⟨lw_p3, List.forall_mem_cons.mpr ⟨lw_p4, List.forall_mem_cons.mpr ⟨lw_p5, List.forall_mem_cons.mpr ⟨lw_p6, List.forall_mem_cons.mpr ⟨lw_p7, List.forall_mem_cons.mpr ⟨lw_p8, List.forall_mem_cons.mpr ⟨lw_p9, List.forall_mem_cons.mpr ⟨lw_p10, List.forall_mem_cons.mpr ⟨lw_p11, List.forall_mem_cons.mpr ⟨lw_p12, List.forall_mem_cons.mpr ⟨lw_p13, List.forall_mem_cons.mpr ⟨lw_p14, List.forall_mem_cons.mpr ⟨lw_p15, fun _ h => absurd h List.not_mem_nil⟩⟩⟩⟩⟩⟩⟩⟩⟩⟩⟩⟩⟩⟩⟩⟩
theorem lw_p16 : lw_okq (⟨"PressedPad$Reader", "readCells", "()I"⟩, 8) := ⟨⟨by decide +kernel, by decide +kernel⟩, List.mem_of_getElem? (i := 184) (by decide +kernel), List.mem_of_getElem? (i := 526) (by decide +kernel), List.mem_of_getElem? (i := 527) (by decide +kernel)⟩
theorem lw_p17 : lw_okq (⟨"PressedPad", "wordsThatFit", "()I"⟩, 15) := ⟨⟨by decide +kernel, by decide +kernel⟩, List.mem_of_getElem? (i := 21) (by decide +kernel), List.mem_of_getElem? (i := 642) (by decide +kernel), List.mem_of_getElem? (i := 643) (by decide +kernel)⟩
theorem lw_p18 : lw_okq (⟨"PressedPad$Rows", "layFrom", "(LPressedPad$Pad;III)V"⟩, 5) := ⟨⟨by decide +kernel, by decide +kernel⟩, List.mem_of_getElem? (i := 162) (by decide +kernel), List.mem_of_getElem? (i := 663) (by decide +kernel), List.mem_of_getElem? (i := 664) (by decide +kernel)⟩
theorem lw_p19 : lw_okq (⟨"PressedPad$Rows", "mayLie", "(LPressedPad$Pad;III)Z"⟩, 5) := ⟨⟨by decide +kernel, by decide +kernel⟩, List.mem_of_getElem? (i := 162) (by decide +kernel), List.mem_of_getElem? (i := 667) (by decide +kernel), List.mem_of_getElem? (i := 668) (by decide +kernel)⟩
theorem lw_p20 : lw_okq (⟨"PressedPad", "keepFraction", "(JJ)V"⟩, 15) := ⟨⟨by decide +kernel, by decide +kernel⟩, List.mem_of_getElem? (i := 21) (by decide +kernel), List.mem_of_getElem? (i := 690) (by decide +kernel), List.mem_of_getElem? (i := 691) (by decide +kernel)⟩
theorem lw_p21 : lw_okq (⟨"PressedPad", "sumOfLast", "()I"⟩, 15) := ⟨⟨by decide +kernel, by decide +kernel⟩, List.mem_of_getElem? (i := 21) (by decide +kernel), List.mem_of_getElem? (i := 714) (by decide +kernel), List.mem_of_getElem? (i := 715) (by decide +kernel)⟩
theorem lw_p22 : lw_okq (⟨"PressedPad", "imageOf", "(I)LPressedPad$Pad;"⟩, 15) := ⟨⟨by decide +kernel, by decide +kernel⟩, List.mem_of_getElem? (i := 21) (by decide +kernel), List.mem_of_getElem? (i := 726) (by decide +kernel), List.mem_of_getElem? (i := 727) (by decide +kernel)⟩
theorem lw_p23 : lw_okq (⟨"PressedPad", "amountOf", "(I)I"⟩, 15) := ⟨⟨by decide +kernel, by decide +kernel⟩, List.mem_of_getElem? (i := 21) (by decide +kernel), List.mem_of_getElem? (i := 742) (by decide +kernel), List.mem_of_getElem? (i := 743) (by decide +kernel)⟩
theorem lw_p24 : lw_okq (⟨"PressedPadModel", "bad", "()I"⟩, 30) := ⟨⟨by decide +kernel, by decide +kernel⟩, List.mem_of_getElem? (i := 757) (by decide +kernel), List.mem_of_getElem? (i := 863) (by decide +kernel), List.mem_of_getElem? (i := 864) (by decide +kernel)⟩
theorem lw_p25 : lw_okq (⟨"PressedPadModel", "refuse", "(II)I"⟩, 30) := ⟨⟨by decide +kernel, by decide +kernel⟩, List.mem_of_getElem? (i := 757) (by decide +kernel), List.mem_of_getElem? (i := 867) (by decide +kernel), List.mem_of_getElem? (i := 868) (by decide +kernel)⟩
theorem lw_p26 : lw_okq (⟨"PressedPadModel", "empty", "()V"⟩, 30) := ⟨⟨by decide +kernel, by decide +kernel⟩, List.mem_of_getElem? (i := 757) (by decide +kernel), List.mem_of_getElem? (i := 871) (by decide +kernel), List.mem_of_getElem? (i := 872) (by decide +kernel)⟩
theorem lw_p27 : lw_okq (⟨"PressedPadModel", "note", "()V"⟩, 30) := ⟨⟨by decide +kernel, by decide +kernel⟩, List.mem_of_getElem? (i := 757) (by decide +kernel), List.mem_of_getElem? (i := 889) (by decide +kernel), List.mem_of_getElem? (i := 890) (by decide +kernel)⟩
theorem lw_p28 : lw_okq (⟨"PressedPadModel", "writeNow", "(III)V"⟩, 30) := ⟨⟨by decide +kernel, by decide +kernel⟩, List.mem_of_getElem? (i := 757) (by decide +kernel), List.mem_of_getElem? (i := 893) (by decide +kernel), List.mem_of_getElem? (i := 894) (by decide +kernel)⟩
theorem lw_p29 : lw_okq (⟨"PressedPadModel", "dentAll", "(III)V"⟩, 30) := ⟨⟨by decide +kernel, by decide +kernel⟩, List.mem_of_getElem? (i := 757) (by decide +kernel), List.mem_of_getElem? (i := 897) (by decide +kernel), List.mem_of_getElem? (i := 898) (by decide +kernel)⟩
theorem lw_p30 : lw_okq (⟨"PressedPadModel", "readPad", "()Z"⟩, 30) := ⟨⟨by decide +kernel, by decide +kernel⟩, List.mem_of_getElem? (i := 757) (by decide +kernel), List.mem_of_getElem? (i := 942) (by decide +kernel), List.mem_of_getElem? (i := 943) (by decide +kernel)⟩
theorem lw_p31 : lw_okq (⟨"PressedPadModel", "nextToken", "()V"⟩, 30) := ⟨⟨by decide +kernel, by decide +kernel⟩, List.mem_of_getElem? (i := 757) (by decide +kernel), List.mem_of_getElem? (i := 946) (by decide +kernel), List.mem_of_getElem? (i := 947) (by decide +kernel)⟩
def lw_privs_2 : List (MethodName × Nat) := [(⟨"PressedPad$Reader", "readCells", "()I"⟩, 8), (⟨"PressedPad", "wordsThatFit", "()I"⟩, 15), (⟨"PressedPad$Rows", "layFrom", "(LPressedPad$Pad;III)V"⟩, 5), (⟨"PressedPad$Rows", "mayLie", "(LPressedPad$Pad;III)Z"⟩, 5), (⟨"PressedPad", "keepFraction", "(JJ)V"⟩, 15), (⟨"PressedPad", "sumOfLast", "()I"⟩, 15), (⟨"PressedPad", "imageOf", "(I)LPressedPad$Pad;"⟩, 15), (⟨"PressedPad", "amountOf", "(I)I"⟩, 15), (⟨"PressedPadModel", "bad", "()I"⟩, 30), (⟨"PressedPadModel", "refuse", "(II)I"⟩, 30), (⟨"PressedPadModel", "empty", "()V"⟩, 30), (⟨"PressedPadModel", "note", "()V"⟩, 30), (⟨"PressedPadModel", "writeNow", "(III)V"⟩, 30), (⟨"PressedPadModel", "dentAll", "(III)V"⟩, 30), (⟨"PressedPadModel", "readPad", "()Z"⟩, 30), (⟨"PressedPadModel", "nextToken", "()V"⟩, 30)]
theorem lw_r2 : ∀ q ∈ lw_privs_2, lw_okq q := List.forall_mem_cons.mpr ⟨lw_p16, List.forall_mem_cons.mpr ⟨lw_p17, List.forall_mem_cons.mpr ⟨lw_p18, List.forall_mem_cons.mpr ⟨lw_p19, List.forall_mem_cons.mpr ⟨lw_p20, List.forall_mem_cons.mpr ⟨lw_p21, List.forall_mem_cons.mpr ⟨lw_p22, List.forall_mem_cons.mpr ⟨lw_p23, List.forall_mem_cons.mpr ⟨lw_p24, List.forall_mem_cons.mpr ⟨lw_p25, List.forall_mem_cons.mpr ⟨lw_p26, List.forall_mem_cons.mpr ⟨lw_p27, List.forall_mem_cons.mpr ⟨lw_p28, List.forall_mem_cons.mpr ⟨lw_p29, List.forall_mem_cons.mpr ⟨lw_p30, List.forall_mem_cons.mpr ⟨lw_p31, fun _ h => absurd h List.not_mem_nil⟩⟩⟩⟩⟩⟩⟩⟩⟩⟩⟩⟩⟩⟩⟩⟩
theorem lw_p32 : lw_okq (⟨"PressedPadModel", "byteAt", "(I)I"⟩, 30) := ⟨⟨by decide +kernel, by decide +kernel⟩, List.mem_of_getElem? (i := 757) (by decide +kernel), List.mem_of_getElem? (i := 950) (by decide +kernel), List.mem_of_getElem? (i := 951) (by decide +kernel)⟩
theorem lw_p33 : lw_okq (⟨"PressedPadModel", "isWord", "(IIIIII)Z"⟩, 30) := ⟨⟨by decide +kernel, by decide +kernel⟩, List.mem_of_getElem? (i := 757) (by decide +kernel), List.mem_of_getElem? (i := 956) (by decide +kernel), List.mem_of_getElem? (i := 957) (by decide +kernel)⟩
theorem lw_p34 : lw_okq (⟨"PressedPadModel", "number", "(II)Z"⟩, 30) := ⟨⟨by decide +kernel, by decide +kernel⟩, List.mem_of_getElem? (i := 757) (by decide +kernel), List.mem_of_getElem? (i := 962) (by decide +kernel), List.mem_of_getElem? (i := 963) (by decide +kernel)⟩
theorem lw_p35 : lw_okq (⟨"PressedPadModel", "readNote", "(I)Z"⟩, 30) := ⟨⟨by decide +kernel, by decide +kernel⟩, List.mem_of_getElem? (i := 757) (by decide +kernel), List.mem_of_getElem? (i := 966) (by decide +kernel), List.mem_of_getElem? (i := 967) (by decide +kernel)⟩
theorem lw_p36 : lw_okq (⟨"PressedPadModel", "isSheet", "(I)Z"⟩, 30) := ⟨⟨by decide +kernel, by decide +kernel⟩, List.mem_of_getElem? (i := 757) (by decide +kernel), List.mem_of_getElem? (i := 975) (by decide +kernel), List.mem_of_getElem? (i := 976) (by decide +kernel)⟩
theorem lw_p37 : lw_okq (⟨"PressedPadModel", "badLess", "()I"⟩, 30) := ⟨⟨by decide +kernel, by decide +kernel⟩, List.mem_of_getElem? (i := 757) (by decide +kernel), List.mem_of_getElem? (i := 979) (by decide +kernel), List.mem_of_getElem? (i := 980) (by decide +kernel)⟩
theorem lw_p38 : lw_okq (⟨"PressedPadModel", "writtenOn", "(I)I"⟩, 30) := ⟨⟨by decide +kernel, by decide +kernel⟩, List.mem_of_getElem? (i := 757) (by decide +kernel), List.mem_of_getElem? (i := 983) (by decide +kernel), List.mem_of_getElem? (i := 984) (by decide +kernel)⟩
theorem lw_p39 : lw_okq (⟨"PressedPadModel", "dentOf", "(II)I"⟩, 30) := ⟨⟨by decide +kernel, by decide +kernel⟩, List.mem_of_getElem? (i := 757) (by decide +kernel), List.mem_of_getElem? (i := 991) (by decide +kernel), List.mem_of_getElem? (i := 992) (by decide +kernel)⟩
theorem lw_p40 : lw_okq (⟨"PressedPadModel", "whoseOf", "(I)I"⟩, 30) := ⟨⟨by decide +kernel, by decide +kernel⟩, List.mem_of_getElem? (i := 757) (by decide +kernel), List.mem_of_getElem? (i := 1007) (by decide +kernel), List.mem_of_getElem? (i := 1008) (by decide +kernel)⟩
theorem lw_p41 : lw_okq (⟨"PressedPadModel", "forceIn", "(III)I"⟩, 30) := ⟨⟨by decide +kernel, by decide +kernel⟩, List.mem_of_getElem? (i := 757) (by decide +kernel), List.mem_of_getElem? (i := 1011) (by decide +kernel), List.mem_of_getElem? (i := 1012) (by decide +kernel)⟩
theorem lw_p42 : lw_okq (⟨"PressedPadModel", "areNotes", "(I)Z"⟩, 30) := ⟨⟨by decide +kernel, by decide +kernel⟩, List.mem_of_getElem? (i := 757) (by decide +kernel), List.mem_of_getElem? (i := 1027) (by decide +kernel), List.mem_of_getElem? (i := 1028) (by decide +kernel)⟩
theorem lw_p43 : lw_okq (⟨"PressedPadModel", "isLost", "(III)Z"⟩, 30) := ⟨⟨by decide +kernel, by decide +kernel⟩, List.mem_of_getElem? (i := 757) (by decide +kernel), List.mem_of_getElem? (i := 1032) (by decide +kernel), List.mem_of_getElem? (i := 1033) (by decide +kernel)⟩
theorem lw_p44 : lw_okq (⟨"PressedPadModel", "explained", "(III)I"⟩, 30) := ⟨⟨by decide +kernel, by decide +kernel⟩, List.mem_of_getElem? (i := 757) (by decide +kernel), List.mem_of_getElem? (i := 1036) (by decide +kernel), List.mem_of_getElem? (i := 1037) (by decide +kernel)⟩
theorem lw_p45 : lw_okq (⟨"PressedPadModel", "fits", "(I)Z"⟩, 30) := ⟨⟨by decide +kernel, by decide +kernel⟩, List.mem_of_getElem? (i := 757) (by decide +kernel), List.mem_of_getElem? (i := 1040) (by decide +kernel), List.mem_of_getElem? (i := 1041) (by decide +kernel)⟩
theorem lw_p46 : lw_okq (⟨"PressedPadModel", "isRow", "()Z"⟩, 30) := ⟨⟨by decide +kernel, by decide +kernel⟩, List.mem_of_getElem? (i := 757) (by decide +kernel), List.mem_of_getElem? (i := 1055) (by decide +kernel), List.mem_of_getElem? (i := 1056) (by decide +kernel)⟩
theorem lw_p47 : lw_okq (⟨"PressedPadModel", "placeOf", "(I)I"⟩, 30) := ⟨⟨by decide +kernel, by decide +kernel⟩, List.mem_of_getElem? (i := 757) (by decide +kernel), List.mem_of_getElem? (i := 1059) (by decide +kernel), List.mem_of_getElem? (i := 1060) (by decide +kernel)⟩
def lw_privs_3 : List (MethodName × Nat) := [(⟨"PressedPadModel", "byteAt", "(I)I"⟩, 30), (⟨"PressedPadModel", "isWord", "(IIIIII)Z"⟩, 30), (⟨"PressedPadModel", "number", "(II)Z"⟩, 30), (⟨"PressedPadModel", "readNote", "(I)Z"⟩, 30), (⟨"PressedPadModel", "isSheet", "(I)Z"⟩, 30), (⟨"PressedPadModel", "badLess", "()I"⟩, 30), (⟨"PressedPadModel", "writtenOn", "(I)I"⟩, 30), (⟨"PressedPadModel", "dentOf", "(II)I"⟩, 30), (⟨"PressedPadModel", "whoseOf", "(I)I"⟩, 30), (⟨"PressedPadModel", "forceIn", "(III)I"⟩, 30), (⟨"PressedPadModel", "areNotes", "(I)Z"⟩, 30), (⟨"PressedPadModel", "isLost", "(III)Z"⟩, 30), (⟨"PressedPadModel", "explained", "(III)I"⟩, 30), (⟨"PressedPadModel", "fits", "(I)Z"⟩, 30), (⟨"PressedPadModel", "isRow", "()Z"⟩, 30), (⟨"PressedPadModel", "placeOf", "(I)I"⟩, 30)]
theorem lw_r3 : ∀ q ∈ lw_privs_3, lw_okq q := List.forall_mem_cons.mpr ⟨lw_p32, List.forall_mem_cons.mpr ⟨lw_p33, List.forall_mem_cons.mpr ⟨lw_p34, List.forall_mem_cons.mpr ⟨lw_p35, List.forall_mem_cons.mpr ⟨lw_p36, List.forall_mem_cons.mpr ⟨lw_p37, List.forall_mem_cons.mpr ⟨lw_p38, List.forall_mem_cons.mpr ⟨lw_p39, List.forall_mem_cons.mpr ⟨lw_p40, List.forall_mem_cons.mpr ⟨lw_p41, List.forall_mem_cons.mpr ⟨lw_p42, List.forall_mem_cons.mpr ⟨lw_p43, List.forall_mem_cons.mpr ⟨lw_p44, List.forall_mem_cons.mpr ⟨lw_p45, List.forall_mem_cons.mpr ⟨lw_p46, List.forall_mem_cons.mpr ⟨lw_p47, fun _ h => absurd h List.not_mem_nil⟩⟩⟩⟩⟩⟩⟩⟩⟩⟩⟩⟩⟩⟩⟩⟩
theorem lw_p48 : lw_okq (⟨"PressedPadModel", "nextRow", "()Z"⟩, 30) := ⟨⟨by decide +kernel, by decide +kernel⟩, List.mem_of_getElem? (i := 757) (by decide +kernel), List.mem_of_getElem? (i := 1063) (by decide +kernel), List.mem_of_getElem? (i := 1064) (by decide +kernel)⟩
theorem lw_p49 : lw_okq (⟨"PressedPadModel", "exchange", "(II)V"⟩, 30) := ⟨⟨by decide +kernel, by decide +kernel⟩, List.mem_of_getElem? (i := 757) (by decide +kernel), List.mem_of_getElem? (i := 1067) (by decide +kernel), List.mem_of_getElem? (i := 1068) (by decide +kernel)⟩
theorem lw_p50 : lw_okq (⟨"PressedPadModel", "draw", "(I)I"⟩, 30) := ⟨⟨by decide +kernel, by decide +kernel⟩, List.mem_of_getElem? (i := 757) (by decide +kernel), List.mem_of_getElem? (i := 1097) (by decide +kernel), List.mem_of_getElem? (i := 1098) (by decide +kernel)⟩
theorem lw_p51 : lw_okq (⟨"PressedPadModel", "carry", "([II[III)V"⟩, 30) := ⟨⟨by decide +kernel, by decide +kernel⟩, List.mem_of_getElem? (i := 757) (by decide +kernel), List.mem_of_getElem? (i := 1113) (by decide +kernel), List.mem_of_getElem? (i := 1114) (by decide +kernel)⟩
theorem lw_p52 : lw_okq (⟨"PressedPadModel", "countOf", "(I)I"⟩, 30) := ⟨⟨by decide +kernel, by decide +kernel⟩, List.mem_of_getElem? (i := 757) (by decide +kernel), List.mem_of_getElem? (i := 1130) (by decide +kernel), List.mem_of_getElem? (i := 1131) (by decide +kernel)⟩
theorem lw_p53 : lw_okq (⟨"PressedPadModel", "mix", "(J)V"⟩, 30) := ⟨⟨by decide +kernel, by decide +kernel⟩, List.mem_of_getElem? (i := 757) (by decide +kernel), List.mem_of_getElem? (i := 1139) (by decide +kernel), List.mem_of_getElem? (i := 1140) (by decide +kernel)⟩
def lw_privs_4 : List (MethodName × Nat) := [(⟨"PressedPadModel", "nextRow", "()Z"⟩, 30), (⟨"PressedPadModel", "exchange", "(II)V"⟩, 30), (⟨"PressedPadModel", "draw", "(I)I"⟩, 30), (⟨"PressedPadModel", "carry", "([II[III)V"⟩, 30), (⟨"PressedPadModel", "countOf", "(I)I"⟩, 30), (⟨"PressedPadModel", "mix", "(J)V"⟩, 30)]
theorem lw_r4 : ∀ q ∈ lw_privs_4, lw_okq q := List.forall_mem_cons.mpr ⟨lw_p48, List.forall_mem_cons.mpr ⟨lw_p49, List.forall_mem_cons.mpr ⟨lw_p50, List.forall_mem_cons.mpr ⟨lw_p51, List.forall_mem_cons.mpr ⟨lw_p52, List.forall_mem_cons.mpr ⟨lw_p53, fun _ h => absurd h List.not_mem_nil⟩⟩⟩⟩⟩⟩
def lw_privs : List (MethodName × Nat) := lw_privs_1 ++ (lw_privs_2 ++ (lw_privs_3 ++ (lw_privs_4)))
def lw_tbl : List Cond := k2_sels lw_privs ++ tables_1
theorem lw_privs_ok : ∀ q ∈ lw_privs, lw_okq q := by
  show ∀ q ∈ lw_privs_1 ++ (lw_privs_2 ++ (lw_privs_3 ++ (lw_privs_4))), lw_okq q
  exact List.forall_mem_append.mpr ⟨lw_r1, List.forall_mem_append.mpr ⟨lw_r2, List.forall_mem_append.mpr ⟨lw_r3, lw_r4⟩⟩⟩
end
section
def RX0 : String := "PressedPad$Ball"
def TX0 : u_T := fun k => match k with
  | _ => ("", "", "", false)
def tyX0 : Nat → FieldType := fun k => match k with
  | _ => .int
abbrev wsX00 : List Cond := u_ws RX0 TX0 0
theorem nmX0 : ∀ a, a < 0 → ∀ b, b < 0 → a ≠ b → (TX0 a).2.1 ≠ (TX0 b).2.1 := by decide +kernel
theorem tyX0_ok : ∀ k, k < 0 → parseFieldDescriptor (TX0 k).2.2.1 = some (tyX0 k) := by decide +kernel
abbrev cX0_init : ByteArray := prog_2_method_1_code
def yX0_init : MethodName := ⟨RX0, "<init>", "()V"⟩
abbrev cX0_forceAt : ByteArray := prog_2_method_2_code
def yX0_forceAt : MethodName := ⟨RX0, "forceAt", "(II)I"⟩
def RX1 : String := "PressedPad$Felt"
def TX1 : u_T := fun k => match k with
  | _ => ("", "", "", false)
def tyX1 : Nat → FieldType := fun k => match k with
  | _ => .int
abbrev wsX10 : List Cond := u_ws RX1 TX1 0
theorem nmX1 : ∀ a, a < 0 → ∀ b, b < 0 → a ≠ b → (TX1 a).2.1 ≠ (TX1 b).2.1 := by decide +kernel
theorem tyX1_ok : ∀ k, k < 0 → parseFieldDescriptor (TX1 k).2.2.1 = some (tyX1 k) := by decide +kernel
abbrev cX1_init : ByteArray := prog_3_method_1_code
def yX1_init : MethodName := ⟨RX1, "<init>", "()V"⟩
abbrev cX1_forceAt : ByteArray := prog_3_method_2_code
def yX1_forceAt : MethodName := ⟨RX1, "forceAt", "(II)I"⟩
def RX2 : String := "PressedPad$Lost"
def TX2 : u_T := fun k => match k with
  | 0 => ("PressedPad$Lost", "seen", "[I", true)
  | 1 => ("PressedPad$Lost", "explained", "[I", true)
  | 2 => ("PressedPad$Lost", "must", "I", false)
  | _ => ("PressedPad$Lost", "may", "I", false)
def tyX2 : Nat → FieldType := fun k => match k with
  | 0 => .array .int
  | 1 => .array .int
  | 2 => .int
  | _ => .int
abbrev wsX20 : List Cond := u_ws RX2 TX2 4
theorem nmX2 : ∀ a, a < 4 → ∀ b, b < 4 → a ≠ b → (TX2 a).2.1 ≠ (TX2 b).2.1 := by decide +kernel
theorem tyX2_ok : ∀ k, k < 4 → parseFieldDescriptor (TX2 k).2.2.1 = some (tyX2 k) := by decide +kernel
abbrev cX2_init : ByteArray := prog_4_method_1_code
def yX2_init : MethodName := ⟨RX2, "<init>", "()V"⟩
abbrev cX2_look : ByteArray := prog_4_method_2_code
def yX2_look : MethodName := ⟨RX2, "look", "(LPressedPad$Pad;II)V"⟩
abbrev cX2_guess : ByteArray := prog_4_method_3_code
def yX2_guess : MethodName := ⟨RX2, "guess", "(I)Z"⟩
abbrev cX2_isFit : ByteArray := prog_4_method_4_code
def yX2_isFit : MethodName := ⟨RX2, "isFit", "(I)Z"⟩
def RX3 : String := "PressedPad$Nib"
def TX3 : u_T := fun k => match k with
  | _ => ("", "", "", false)
def tyX3 : Nat → FieldType := fun k => match k with
  | _ => .int
abbrev wsX30 : List Cond := u_ws RX3 TX3 0
theorem nmX3 : ∀ a, a < 0 → ∀ b, b < 0 → a ≠ b → (TX3 a).2.1 ≠ (TX3 b).2.1 := by decide +kernel
theorem tyX3_ok : ∀ k, k < 0 → parseFieldDescriptor (TX3 k).2.2.1 = some (tyX3 k) := by decide +kernel
abbrev cX3_init : ByteArray := prog_5_method_1_code
def yX3_init : MethodName := ⟨RX3, "<init>", "()V"⟩
abbrev cX3_forceAt : ByteArray := prog_5_method_2_code
def yX3_forceAt : MethodName := ⟨RX3, "forceAt", "(II)I"⟩
def RX4 : String := "PressedPad$Pad"
def TX4 : u_T := fun k => match k with
  | 0 => ("PressedPad$Pad", "page", "[I", true)
  | 1 => ("PressedPad$Pad", "earlier", "[I", true)
  | 2 => ("PressedPad$Pad", "undoable", "I", false)
  | 3 => ("PressedPad$Pad", "sheets", "I", false)
  | 4 => ("PressedPad$Pad", "carbonBits", "I", false)
  | 5 => ("PressedPad$Pad", "noteKind", "[I", true)
  | 6 => ("PressedPad$Pad", "notePress", "[I", true)
  | 7 => ("PressedPad$Pad", "noteCells", "[I", true)
  | 8 => ("PressedPad$Pad", "noteSheet", "[I", true)
  | 9 => ("PressedPad$Pad", "noteForces", "[I", true)
  | 10 => ("PressedPad$Pad", "words", "[I", true)
  | _ => ("PressedPad$Pad", "wordCount", "I", false)
def tyX4 : Nat → FieldType := fun k => match k with
  | 0 => .array .int
  | 1 => .array .int
  | 2 => .int
  | 3 => .int
  | 4 => .int
  | 5 => .array .int
  | 6 => .array .int
  | 7 => .array .int
  | 8 => .array .int
  | 9 => .array .int
  | 10 => .array .int
  | _ => .int
abbrev wsX40 : List Cond := u_ws RX4 TX4 12
theorem nmX4 : ∀ a, a < 12 → ∀ b, b < 12 → a ≠ b → (TX4 a).2.1 ≠ (TX4 b).2.1 := by decide +kernel
theorem tyX4_ok : ∀ k, k < 12 → parseFieldDescriptor (TX4 k).2.2.1 = some (tyX4 k) := by decide +kernel
abbrev cX4_init : ByteArray := prog_6_method_1_code
def yX4_init : MethodName := ⟨RX4, "<init>", "()V"⟩
abbrev cX4_beginAnew : ByteArray := prog_6_method_2_code
def yX4_beginAnew : MethodName := ⟨RX4, "beginAnew", "(I)V"⟩
abbrev cX4_copyFrom : ByteArray := prog_6_method_3_code
def yX4_copyFrom : MethodName := ⟨RX4, "copyFrom", "(LPressedPad$Pad;)V"⟩
abbrev cX4_keepForUndo : ByteArray := prog_6_method_4_code
def yX4_keepForUndo : MethodName := ⟨RX4, "keepForUndo", "()V"⟩
abbrev cX4_goBack : ByteArray := prog_6_method_5_code
def yX4_goBack : MethodName := ⟨RX4, "goBack", "()V"⟩
abbrev cX4_top : ByteArray := prog_6_method_6_code
def yX4_top : MethodName := ⟨RX4, "top", "()I"⟩
abbrev cX4_noteCount : ByteArray := prog_6_method_7_code
def yX4_noteCount : MethodName := ⟨RX4, "noteCount", "()I"⟩
abbrev cX4_isUsedUp : ByteArray := prog_6_method_8_code
def yX4_isUsedUp : MethodName := ⟨RX4, "isUsedUp", "()Z"⟩
abbrev cX4_hasSheet : ByteArray := prog_6_method_9_code
def yX4_hasSheet : MethodName := ⟨RX4, "hasSheet", "(I)Z"⟩
abbrev cX4_hasSheets : ByteArray := prog_6_method_10_code
def yX4_hasSheets : MethodName := ⟨RX4, "hasSheets", "(I)Z"⟩
abbrev cX4_hasNote : ByteArray := prog_6_method_11_code
def yX4_hasNote : MethodName := ⟨RX4, "hasNote", "(I)Z"⟩
abbrev cX4_hasNotes : ByteArray := prog_6_method_12_code
def yX4_hasNotes : MethodName := ⟨RX4, "hasNotes", "(I)Z"⟩
abbrev cX4_placeOf : ByteArray := prog_6_method_13_code
def yX4_placeOf : MethodName := ⟨RX4, "placeOf", "(II)I"⟩
abbrev cX4_inkOf : ByteArray := prog_6_method_14_code
def yX4_inkOf : MethodName := ⟨RX4, "inkOf", "(I)I"⟩
abbrev cX4_copyOf : ByteArray := prog_6_method_15_code
def yX4_copyOf : MethodName := ⟨RX4, "copyOf", "(I)I"⟩
abbrev cX4_dentOf : ByteArray := prog_6_method_16_code
def yX4_dentOf : MethodName := ⟨RX4, "dentOf", "(II)I"⟩
abbrev cX4_tearTop : ByteArray := prog_6_method_17_code
def yX4_tearTop : MethodName := ⟨RX4, "tearTop", "()I"⟩
abbrev cX4_putNote : ByteArray := prog_6_method_18_code
def yX4_putNote : MethodName := ⟨RX4, "putNote", "(LPressedPad$PenBox;III)I"⟩
abbrev cX4_pressInto : ByteArray := prog_6_method_19_code
def yX4_pressInto : MethodName := ⟨RX4, "pressInto", "(III)V"⟩
abbrev cX4_writtenOn : ByteArray := prog_6_method_20_code
def yX4_writtenOn : MethodName := ⟨RX4, "writtenOn", "(I)I"⟩
abbrev cX4_forceOn : ByteArray := prog_6_method_21_code
def yX4_forceOn : MethodName := ⟨RX4, "forceOn", "(II)I"⟩
abbrev cX4_forceDown : ByteArray := prog_6_method_22_code
def yX4_forceDown : MethodName := ⟨RX4, "forceDown", "(II)I"⟩
abbrev cX4_cellsDented : ByteArray := prog_6_method_23_code
def yX4_cellsDented : MethodName := ⟨RX4, "cellsDented", "(II)I"⟩
abbrev cX4_dentedBy : ByteArray := prog_6_method_24_code
def yX4_dentedBy : MethodName := ⟨RX4, "dentedBy", "(I)I"⟩
abbrev cX4_dentedAtLeast : ByteArray := prog_6_method_25_code
def yX4_dentedAtLeast : MethodName := ⟨RX4, "dentedAtLeast", "(II)I"⟩
abbrev cX4_digestFrom : ByteArray := prog_6_method_26_code
def yX4_digestFrom : MethodName := ⟨RX4, "digestFrom", "(J)J"⟩
def RX5 : String := "PressedPad$PenBox"
def TX5 : u_T := fun k => match k with
  | _ => ("PressedPad$PenBox", "pens", "[LPressedPad$Pencil;", true)
def tyX5 : Nat → FieldType := fun k => match k with
  | _ => .array (.object "PressedPad$Pencil")
abbrev wsX50 : List Cond := u_ws RX5 TX5 1
theorem nmX5 : ∀ a, a < 1 → ∀ b, b < 1 → a ≠ b → (TX5 a).2.1 ≠ (TX5 b).2.1 := by decide +kernel
theorem tyX5_ok : ∀ k, k < 1 → parseFieldDescriptor (TX5 k).2.2.1 = some (tyX5 k) := by decide +kernel
abbrev cX5_init : ByteArray := prog_7_method_1_code
def yX5_init : MethodName := ⟨RX5, "<init>", "()V"⟩
abbrev cX5_penOf : ByteArray := prog_7_method_2_code
def yX5_penOf : MethodName := ⟨RX5, "penOf", "(I)LPressedPad$Pencil;"⟩
abbrev cX5_forceOf : ByteArray := prog_7_method_3_code
def yX5_forceOf : MethodName := ⟨RX5, "forceOf", "(III)I"⟩
abbrev cX5_hasInk : ByteArray := prog_7_method_4_code
def yX5_hasInk : MethodName := ⟨RX5, "hasInk", "(I)Z"⟩
def RX6 : String := "PressedPad$Pencil"
def TX6 : u_T := fun k => match k with
  | _ => ("", "", "", false)
def tyX6 : Nat → FieldType := fun k => match k with
  | _ => .int
abbrev wsX60 : List Cond := u_ws RX6 TX6 0
theorem nmX6 : ∀ a, a < 0 → ∀ b, b < 0 → a ≠ b → (TX6 a).2.1 ≠ (TX6 b).2.1 := by decide +kernel
theorem tyX6_ok : ∀ k, k < 0 → parseFieldDescriptor (TX6 k).2.2.1 = some (tyX6 k) := by decide +kernel
abbrev cX6_init : ByteArray := prog_8_method_1_code
def yX6_init : MethodName := ⟨RX6, "<init>", "()V"⟩
abbrev cX6_forceAt : ByteArray := prog_8_method_2_code
def yX6_forceAt : MethodName := ⟨RX6, "forceAt", "(II)I"⟩
abbrev cX6_leavesInk : ByteArray := prog_8_method_3_code
def yX6_leavesInk : MethodName := ⟨RX6, "leavesInk", "()Z"⟩
def RX7 : String := "PressedPad$Reader"
def TX7 : u_T := fun k => match k with
  | 0 => ("PressedPad$Reader", "text", "[I", true)
  | 1 => ("PressedPad$Reader", "length", "I", false)
  | 2 => ("PressedPad$Reader", "next", "I", false)
  | 3 => ("PressedPad$Reader", "token", "I", false)
  | 4 => ("PressedPad$Reader", "start", "I", false)
  | 5 => ("PressedPad$Reader", "value", "I", false)
  | 6 => ("PressedPad$Reader", "kind", "I", false)
  | _ => ("PressedPad$Reader", "press", "I", false)
def tyX7 : Nat → FieldType := fun k => match k with
  | 0 => .array .int
  | 1 => .int
  | 2 => .int
  | 3 => .int
  | 4 => .int
  | 5 => .int
  | 6 => .int
  | _ => .int
abbrev wsX70 : List Cond := u_ws RX7 TX7 8
theorem nmX7 : ∀ a, a < 8 → ∀ b, b < 8 → a ≠ b → (TX7 a).2.1 ≠ (TX7 b).2.1 := by decide +kernel
theorem tyX7_ok : ∀ k, k < 8 → parseFieldDescriptor (TX7 k).2.2.1 = some (tyX7 k) := by decide +kernel
abbrev cX7_init : ByteArray := prog_9_method_1_code
def yX7_init : MethodName := ⟨RX7, "<init>", "()V"⟩
abbrev cX7_fault : ByteArray := prog_9_method_2_code
def yX7_fault : MethodName := ⟨RX7, "fault", "()I"⟩
abbrev cX7_readInto : ByteArray := prog_9_method_3_code
def yX7_readInto : MethodName := ⟨RX7, "readInto", "(LPressedPad$Pad;LPressedPad$PenBox;)I"⟩
abbrev cX7_readFirst : ByteArray := prog_9_method_4_code
def yX7_readFirst : MethodName := ⟨RX7, "readFirst", "(LPressedPad$Pad;)Z"⟩
abbrev cX7_readItem : ByteArray := prog_9_method_5_code
def yX7_readItem : MethodName := ⟨RX7, "readItem", "(LPressedPad$Pad;LPressedPad$PenBox;)Z"⟩
abbrev cX7_readCarbon : ByteArray := prog_9_method_6_code
def yX7_readCarbon : MethodName := ⟨RX7, "readCarbon", "(LPressedPad$Pad;)Z"⟩
abbrev cX7_readPen : ByteArray := prog_9_method_7_code
def yX7_readPen : MethodName := ⟨RX7, "readPen", "()Z"⟩
abbrev cX7_readCells : ByteArray := prog_9_method_8_code
def yX7_readCells : MethodName := ⟨RX7, "readCells", "()I"⟩
abbrev cX7_passStop : ByteArray := prog_9_method_9_code
def yX7_passStop : MethodName := ⟨RX7, "passStop", "()Z"⟩
abbrev cX7_isNumber : ByteArray := prog_9_method_10_code
def yX7_isNumber : MethodName := ⟨RX7, "isNumber", "(II)Z"⟩
abbrev cX7_isWord : ByteArray := prog_9_method_11_code
def yX7_isWord : MethodName := ⟨RX7, "isWord", "(Ljava/lang/String;)Z"⟩
abbrev cX7_isWithin : ByteArray := prog_9_method_12_code
def yX7_isWithin : MethodName := ⟨RX7, "isWithin", "(III)Z"⟩
abbrev cX7_step : ByteArray := prog_9_method_13_code
def yX7_step : MethodName := ⟨RX7, "step", "()V"⟩
abbrev cX7_passWord : ByteArray := prog_9_method_14_code
def yX7_passWord : MethodName := ⟨RX7, "passWord", "()V"⟩
abbrev cX7_passFigures : ByteArray := prog_9_method_15_code
def yX7_passFigures : MethodName := ⟨RX7, "passFigures", "()V"⟩
def RX8 : String := "PressedPad$Rows"
def TX8 : u_T := fun k => match k with
  | 0 => ("PressedPad$Rows", "row", "[I", true)
  | 1 => ("PressedPad$Rows", "placeOf", "[I", true)
  | 2 => ("PressedPad$Rows", "shownAt", "[I", true)
  | 3 => ("PressedPad$Rows", "pressed", "[I", true)
  | _ => ("PressedPad$Rows", "found", "I", false)
def tyX8 : Nat → FieldType := fun k => match k with
  | 0 => .array .int
  | 1 => .array .int
  | 2 => .array .int
  | 3 => .array .int
  | _ => .int
abbrev wsX80 : List Cond := u_ws RX8 TX8 5
theorem nmX8 : ∀ a, a < 5 → ∀ b, b < 5 → a ≠ b → (TX8 a).2.1 ≠ (TX8 b).2.1 := by decide +kernel
theorem tyX8_ok : ∀ k, k < 5 → parseFieldDescriptor (TX8 k).2.2.1 = some (tyX8 k) := by decide +kernel
abbrev cX8_init : ByteArray := prog_10_method_1_code
def yX8_init : MethodName := ⟨RX8, "<init>", "()V"⟩
abbrev cX8_sheetAt : ByteArray := prog_10_method_2_code
def yX8_sheetAt : MethodName := ⟨RX8, "sheetAt", "(I)I"⟩
abbrev cX8_search : ByteArray := prog_10_method_3_code
def yX8_search : MethodName := ⟨RX8, "search", "(LPressedPad$Pad;I)I"⟩
abbrev cX8_layFrom : ByteArray := prog_10_method_4_code
def yX8_layFrom : MethodName := ⟨RX8, "layFrom", "(LPressedPad$Pad;III)V"⟩
abbrev cX8_mayLie : ByteArray := prog_10_method_5_code
def yX8_mayLie : MethodName := ⟨RX8, "mayLie", "(LPressedPad$Pad;III)Z"⟩
def RX9 : String := "PressedPad$Stylus"
def TX9 : u_T := fun k => match k with
  | _ => ("", "", "", false)
def tyX9 : Nat → FieldType := fun k => match k with
  | _ => .int
abbrev wsX90 : List Cond := u_ws RX9 TX9 0
theorem nmX9 : ∀ a, a < 0 → ∀ b, b < 0 → a ≠ b → (TX9 a).2.1 ≠ (TX9 b).2.1 := by decide +kernel
theorem tyX9_ok : ∀ k, k < 0 → parseFieldDescriptor (TX9 k).2.2.1 = some (tyX9 k) := by decide +kernel
abbrev cX9_init : ByteArray := prog_11_method_1_code
def yX9_init : MethodName := ⟨RX9, "<init>", "()V"⟩
abbrev cX9_leavesInk : ByteArray := prog_11_method_2_code
def yX9_leavesInk : MethodName := ⟨RX9, "leavesInk", "()Z"⟩
def RX10 : String := "PressedPad$Tool"
def TX10 : u_T := fun k => match k with
  | _ => ("", "", "", false)
def tyX10 : Nat → FieldType := fun k => match k with
  | _ => .int
abbrev wsX100 : List Cond := u_ws RX10 TX10 0
theorem nmX10 : ∀ a, a < 0 → ∀ b, b < 0 → a ≠ b → (TX10 a).2.1 ≠ (TX10 b).2.1 := by decide +kernel
theorem tyX10_ok : ∀ k, k < 0 → parseFieldDescriptor (TX10 k).2.2.1 = some (tyX10 k) := by decide +kernel
abbrev cX10_init : ByteArray := prog_12_method_1_code
def yX10_init : MethodName := ⟨RX10, "<init>", "()V"⟩
abbrev cX10_forceAt : ByteArray := prog_12_method_2_code
def yX10_forceAt : MethodName := ⟨RX10, "forceAt", "(II)I"⟩
def RX11 : String := "PressedPad"
def TX11 : u_T := fun k => match k with
  | 0 => ("PressedPad", "box", "LPressedPad$PenBox;", true)
  | 1 => ("PressedPad", "now", "LPressedPad$Pad;", true)
  | 2 => ("PressedPad", "draft", "LPressedPad$Pad;", true)
  | 3 => ("PressedPad", "firstImage", "LPressedPad$Pad;", true)
  | 4 => ("PressedPad", "secondImage", "LPressedPad$Pad;", true)
  | 5 => ("PressedPad", "trace", "LPressedPad$Lost;", true)
  | 6 => ("PressedPad", "rows", "LPressedPad$Rows;", true)
  | 7 => ("PressedPad", "reader", "LPressedPad$Reader;", true)
  | 8 => ("PressedPad", "lastDents", "[I", true)
  | 9 => ("PressedPad", "keptImages", "I", false)
  | 10 => ("PressedPad", "above", "J", false)
  | 11 => ("PressedPad", "below", "J", false)
  | 12 => ("PressedPad", "badCalls", "I", false)
  | 13 => ("PressedPad", "noCalls", "I", false)
  | _ => ("PressedPad", "fullCalls", "I", false)
def tyX11 : Nat → FieldType := fun k => match k with
  | 0 => .object "PressedPad$PenBox"
  | 1 => .object "PressedPad$Pad"
  | 2 => .object "PressedPad$Pad"
  | 3 => .object "PressedPad$Pad"
  | 4 => .object "PressedPad$Pad"
  | 5 => .object "PressedPad$Lost"
  | 6 => .object "PressedPad$Rows"
  | 7 => .object "PressedPad$Reader"
  | 8 => .array .int
  | 9 => .int
  | 10 => .long
  | 11 => .long
  | 12 => .int
  | 13 => .int
  | _ => .int
abbrev wsX110 : List Cond := u_ws RX11 TX11 15
theorem nmX11 : ∀ a, a < 15 → ∀ b, b < 15 → a ≠ b → (TX11 a).2.1 ≠ (TX11 b).2.1 := by decide +kernel
theorem tyX11_ok : ∀ k, k < 15 → parseFieldDescriptor (TX11 k).2.2.1 = some (tyX11 k) := by decide +kernel
abbrev cX11_init : ByteArray := prog_1_method_1_code
def yX11_init : MethodName := ⟨RX11, "<init>", "()V"⟩
abbrev cX11_pad : ByteArray := prog_1_method_2_code
def yX11_pad : MethodName := ⟨RX11, "pad", "(I)I"⟩
abbrev cX11_carbons : ByteArray := prog_1_method_3_code
def yX11_carbons : MethodName := ⟨RX11, "carbons", "(I)I"⟩
abbrev cX11_write : ByteArray := prog_1_method_4_code
def yX11_write : MethodName := ⟨RX11, "write", "(III)I"⟩
abbrev cX11_tear : ByteArray := prog_1_method_5_code
def yX11_tear : MethodName := ⟨RX11, "tear", "()I"⟩
abbrev cX11_undo : ByteArray := prog_1_method_6_code
def yX11_undo : MethodName := ⟨RX11, "undo", "()I"⟩
abbrev cX11_word : ByteArray := prog_1_method_7_code
def yX11_word : MethodName := ⟨RX11, "word", "(I)I"⟩
abbrev cX11_forget : ByteArray := prog_1_method_8_code
def yX11_forget : MethodName := ⟨RX11, "forget", "()I"⟩
abbrev cX11_type : ByteArray := prog_1_method_9_code
def yX11_type : MethodName := ⟨RX11, "type", "(I)I"⟩
abbrev cX11_clear : ByteArray := prog_1_method_10_code
def yX11_clear : MethodName := ⟨RX11, "clear", "()I"⟩
abbrev cX11_read : ByteArray := prog_1_method_11_code
def yX11_read : MethodName := ⟨RX11, "read", "()I"⟩
abbrev cX11_of : ByteArray := prog_1_method_12_code
def yX11_of : MethodName := ⟨RX11, "of", "(II)I"⟩
abbrev cX11_dent : ByteArray := prog_1_method_13_code
def yX11_dent : MethodName := ⟨RX11, "dent", "(II)I"⟩
abbrev cX11_about : ByteArray := prog_1_method_14_code
def yX11_about : MethodName := ⟨RX11, "about", "(II)I"⟩
abbrev cX11_force : ByteArray := prog_1_method_15_code
def yX11_force : MethodName := ⟨RX11, "force", "(III)I"⟩
abbrev cX11_whose : ByteArray := prog_1_method_16_code
def yX11_whose : MethodName := ⟨RX11, "whose", "(I)I"⟩
abbrev cX11_own : ByteArray := prog_1_method_17_code
def yX11_own : MethodName := ⟨RX11, "own", "(II)I"⟩
abbrev cX11_shown : ByteArray := prog_1_method_18_code
def yX11_shown : MethodName := ⟨RX11, "shown", "(II)I"⟩
abbrev cX11_lost : ByteArray := prog_1_method_19_code
def yX11_lost : MethodName := ⟨RX11, "lost", "(IIIIII)I"⟩
abbrev cX11_pen : ByteArray := prog_1_method_20_code
def yX11_pen : MethodName := ⟨RX11, "pen", "(IIIII)I"⟩
abbrev cX11_orders : ByteArray := prog_1_method_21_code
def yX11_orders : MethodName := ⟨RX11, "orders", "(I)I"⟩
abbrev cX11_press : ByteArray := prog_1_method_22_code
def yX11_press : MethodName := ⟨RX11, "press", "(II)I"⟩
abbrev cX11_copies : ByteArray := prog_1_method_23_code
def yX11_copies : MethodName := ⟨RX11, "copies", "(IIII)I"⟩
abbrev cX11_rub : ByteArray := prog_1_method_24_code
def yX11_rub : MethodName := ⟨RX11, "rub", "(III)I"⟩
abbrev cX11_torn : ByteArray := prog_1_method_25_code
def yX11_torn : MethodName := ⟨RX11, "torn", "(I)I"⟩
abbrev cX11_drawn : ByteArray := prog_1_method_26_code
def yX11_drawn : MethodName := ⟨RX11, "drawn", "(II)I"⟩
abbrev cX11_part : ByteArray := prog_1_method_27_code
def yX11_part : MethodName := ⟨RX11, "part", "(I)J"⟩
abbrev cX11_image : ByteArray := prog_1_method_28_code
def yX11_image : MethodName := ⟨RX11, "image", "(I)I"⟩
abbrev cX11_from : ByteArray := prog_1_method_29_code
def yX11_from : MethodName := ⟨RX11, "from", "(I)I"⟩
abbrev cX11_status : ByteArray := prog_1_method_30_code
def yX11_status : MethodName := ⟨RX11, "status", "(I)I"⟩
abbrev cX11_count : ByteArray := prog_1_method_31_code
def yX11_count : MethodName := ⟨RX11, "count", "(I)I"⟩
abbrev cX11_digest : ByteArray := prog_1_method_32_code
def yX11_digest : MethodName := ⟨RX11, "digest", "()J"⟩
abbrev cX11_isPen : ByteArray := prog_1_method_33_code
def yX11_isPen : MethodName := ⟨RX11, "isPen", "(II)Z"⟩
abbrev cX11_isDepth : ByteArray := prog_1_method_34_code
def yX11_isDepth : MethodName := ⟨RX11, "isDepth", "(I)Z"⟩
abbrev cX11_isCells : ByteArray := prog_1_method_35_code
def yX11_isCells : MethodName := ⟨RX11, "isCells", "(I)Z"⟩
abbrev cX11_bad : ByteArray := prog_1_method_36_code
def yX11_bad : MethodName := ⟨RX11, "bad", "(I)I"⟩
abbrev cX11_no : ByteArray := prog_1_method_37_code
def yX11_no : MethodName := ⟨RX11, "no", "()I"⟩
abbrev cX11_full : ByteArray := prog_1_method_38_code
def yX11_full : MethodName := ⟨RX11, "full", "()I"⟩
abbrev cX11_amountOf : ByteArray := prog_1_method_39_code
def yX11_amountOf : MethodName := ⟨RX11, "amountOf", "(I)I"⟩
abbrev cX11_imageOf : ByteArray := prog_1_method_40_code
def yX11_imageOf : MethodName := ⟨RX11, "imageOf", "(I)LPressedPad$Pad;"⟩
abbrev cX11_wordsThatFit : ByteArray := prog_1_method_41_code
def yX11_wordsThatFit : MethodName := ⟨RX11, "wordsThatFit", "()I"⟩
abbrev cX11_keepFraction : ByteArray := prog_1_method_42_code
def yX11_keepFraction : MethodName := ⟨RX11, "keepFraction", "(JJ)V"⟩
abbrev cX11_nextDraw : ByteArray := prog_1_method_43_code
def yX11_nextDraw : MethodName := ⟨RX11, "nextDraw", "(J)J"⟩
abbrev cX11_drawOf : ByteArray := prog_1_method_44_code
def yX11_drawOf : MethodName := ⟨RX11, "drawOf", "(JI)I"⟩
abbrev cX11_dentInto : ByteArray := prog_1_method_45_code
def yX11_dentInto : MethodName := ⟨RX11, "dentInto", "([IIII)V"⟩
abbrev cX11_sumOfLast : ByteArray := prog_1_method_46_code
def yX11_sumOfLast : MethodName := ⟨RX11, "sumOfLast", "()I"⟩
def RX12 : String := "PressedPadModel"
def TX12 : u_T := fun k => match k with
  | 0 => ("PressedPadModel", "sheets", "I", false)
  | 1 => ("PressedPadModel", "carbons", "I", false)
  | 2 => ("PressedPadModel", "words", "[I", true)
  | 3 => ("PressedPadModel", "wordMany", "I", false)
  | 4 => ("PressedPadModel", "st", "[I", true)
  | 5 => ("PressedPadModel", "ahead", "[I", true)
  | 6 => ("PressedPadModel", "undoMany", "I", false)
  | 7 => ("PressedPadModel", "above", "J", false)
  | 8 => ("PressedPadModel", "below", "J", false)
  | 9 => ("PressedPadModel", "refused", "[I", true)
  | 10 => ("PressedPadModel", "text", "[I", true)
  | 11 => ("PressedPadModel", "bytes", "I", false)
  | 12 => ("PressedPadModel", "place", "I", false)
  | 13 => ("PressedPadModel", "token", "I", false)
  | 14 => ("PressedPadModel", "value", "I", false)
  | 15 => ("PressedPadModel", "begins", "I", false)
  | 16 => ("PressedPadModel", "read", "[I", true)
  | 17 => ("PressedPadModel", "items", "I", false)
  | 18 => ("PressedPadModel", "readSheets", "I", false)
  | 19 => ("PressedPadModel", "readTorn", "I", false)
  | 20 => ("PressedPadModel", "readNotes", "I", false)
  | 21 => ("PressedPadModel", "must", "I", false)
  | 22 => ("PressedPadModel", "may", "I", false)
  | 23 => ("PressedPadModel", "row", "[I", true)
  | 24 => ("PressedPadModel", "firstRow", "[I", true)
  | 25 => ("PressedPadModel", "aside", "[I", true)
  | 26 => ("PressedPadModel", "drawn", "J", false)
  | 27 => ("PressedPadModel", "isKept", "[Z", true)
  | 28 => ("PressedPadModel", "kept", "[I", true)
  | _ => ("PressedPadModel", "sum", "J", false)
def tyX12 : Nat → FieldType := fun k => match k with
  | 0 => .int
  | 1 => .int
  | 2 => .array .int
  | 3 => .int
  | 4 => .array .int
  | 5 => .array .int
  | 6 => .int
  | 7 => .long
  | 8 => .long
  | 9 => .array .int
  | 10 => .array .int
  | 11 => .int
  | 12 => .int
  | 13 => .int
  | 14 => .int
  | 15 => .int
  | 16 => .array .int
  | 17 => .int
  | 18 => .int
  | 19 => .int
  | 20 => .int
  | 21 => .int
  | 22 => .int
  | 23 => .array .int
  | 24 => .array .int
  | 25 => .array .int
  | 26 => .long
  | 27 => .array .boolean
  | 28 => .array .int
  | _ => .long
abbrev wsX120 : List Cond := u_ws RX12 TX12 30
theorem nmX12 : ∀ a, a < 30 → ∀ b, b < 30 → a ≠ b → (TX12 a).2.1 ≠ (TX12 b).2.1 := by decide +kernel
theorem tyX12_ok : ∀ k, k < 30 → parseFieldDescriptor (TX12 k).2.2.1 = some (tyX12 k) := by decide +kernel
abbrev cX12_init : ByteArray := prog_14_method_1_code
def yX12_init : MethodName := ⟨RX12, "<init>", "()V"⟩
abbrev cX12_in : ByteArray := prog_14_method_2_code
def yX12_in : MethodName := ⟨RX12, "in", "(JJJ)Z"⟩
abbrev cX12_has : ByteArray := prog_14_method_3_code
def yX12_has : MethodName := ⟨RX12, "has", "(II)Z"⟩
abbrev cX12_ones : ByteArray := prog_14_method_4_code
def yX12_ones : MethodName := ⟨RX12, "ones", "(I)I"⟩
abbrev cX12_refuse : ByteArray := prog_14_method_5_code
def yX12_refuse : MethodName := ⟨RX12, "refuse", "(II)I"⟩
abbrev cX12_bad : ByteArray := prog_14_method_6_code
def yX12_bad : MethodName := ⟨RX12, "bad", "()I"⟩
abbrev cX12_badLess : ByteArray := prog_14_method_7_code
def yX12_badLess : MethodName := ⟨RX12, "badLess", "()I"⟩
abbrev cX12_isSheet : ByteArray := prog_14_method_8_code
def yX12_isSheet : MethodName := ⟨RX12, "isSheet", "(I)Z"⟩
abbrev cX12_areNotes : ByteArray := prog_14_method_9_code
def yX12_areNotes : MethodName := ⟨RX12, "areNotes", "(I)Z"⟩
abbrev cX12_isPen : ByteArray := prog_14_method_10_code
def yX12_isPen : MethodName := ⟨RX12, "isPen", "(II)Z"⟩
abbrev cX12_pencil : ByteArray := prog_14_method_11_code
def yX12_pencil : MethodName := ⟨RX12, "pencil", "(II)I"⟩
abbrev cX12_forceOf : ByteArray := prog_14_method_12_code
def yX12_forceOf : MethodName := ⟨RX12, "forceOf", "(III)I"⟩
abbrev cX12_hasInk : ByteArray := prog_14_method_13_code
def yX12_hasInk : MethodName := ⟨RX12, "hasInk", "(I)Z"⟩
abbrev cX12_empty : ByteArray := prog_14_method_14_code
def yX12_empty : MethodName := ⟨RX12, "empty", "()V"⟩
abbrev cX12_pad : ByteArray := prog_14_method_15_code
def yX12_pad : MethodName := ⟨RX12, "pad", "(I)I"⟩
abbrev cX12_carbons : ByteArray := prog_14_method_16_code
def yX12_carbons : MethodName := ⟨RX12, "carbons", "(I)I"⟩
abbrev cX12_note : ByteArray := prog_14_method_17_code
def yX12_note : MethodName := ⟨RX12, "note", "()V"⟩
abbrev cX12_dentAll : ByteArray := prog_14_method_18_code
def yX12_dentAll : MethodName := ⟨RX12, "dentAll", "(III)V"⟩
abbrev cX12_writeNow : ByteArray := prog_14_method_19_code
def yX12_writeNow : MethodName := ⟨RX12, "writeNow", "(III)V"⟩
abbrev cX12_write : ByteArray := prog_14_method_20_code
def yX12_write : MethodName := ⟨RX12, "write", "(III)I"⟩
abbrev cX12_tear : ByteArray := prog_14_method_21_code
def yX12_tear : MethodName := ⟨RX12, "tear", "()I"⟩
abbrev cX12_undo : ByteArray := prog_14_method_22_code
def yX12_undo : MethodName := ⟨RX12, "undo", "()I"⟩
abbrev cX12_word : ByteArray := prog_14_method_23_code
def yX12_word : MethodName := ⟨RX12, "word", "(I)I"⟩
abbrev cX12_forget : ByteArray := prog_14_method_24_code
def yX12_forget : MethodName := ⟨RX12, "forget", "()I"⟩
abbrev cX12_type : ByteArray := prog_14_method_25_code
def yX12_type : MethodName := ⟨RX12, "type", "(I)I"⟩
abbrev cX12_clear : ByteArray := prog_14_method_26_code
def yX12_clear : MethodName := ⟨RX12, "clear", "()I"⟩
abbrev cX12_byteAt : ByteArray := prog_14_method_27_code
def yX12_byteAt : MethodName := ⟨RX12, "byteAt", "(I)I"⟩
abbrev cX12_isWord : ByteArray := prog_14_method_28_code
def yX12_isWord : MethodName := ⟨RX12, "isWord", "(IIIIII)Z"⟩
abbrev cX12_nextToken : ByteArray := prog_14_method_29_code
def yX12_nextToken : MethodName := ⟨RX12, "nextToken", "()V"⟩
abbrev cX12_number : ByteArray := prog_14_method_30_code
def yX12_number : MethodName := ⟨RX12, "number", "(II)Z"⟩
abbrev cX12_readNote : ByteArray := prog_14_method_31_code
def yX12_readNote : MethodName := ⟨RX12, "readNote", "(I)Z"⟩
abbrev cX12_readPad : ByteArray := prog_14_method_32_code
def yX12_readPad : MethodName := ⟨RX12, "readPad", "()Z"⟩
abbrev cX12_read : ByteArray := prog_14_method_33_code
def yX12_read : MethodName := ⟨RX12, "read", "()I"⟩
abbrev cX12_writtenOn : ByteArray := prog_14_method_34_code
def yX12_writtenOn : MethodName := ⟨RX12, "writtenOn", "(I)I"⟩
abbrev cX12_of : ByteArray := prog_14_method_35_code
def yX12_of : MethodName := ⟨RX12, "of", "(II)I"⟩
abbrev cX12_dentOf : ByteArray := prog_14_method_36_code
def yX12_dentOf : MethodName := ⟨RX12, "dentOf", "(II)I"⟩
abbrev cX12_dent : ByteArray := prog_14_method_37_code
def yX12_dent : MethodName := ⟨RX12, "dent", "(II)I"⟩
abbrev cX12_about : ByteArray := prog_14_method_38_code
def yX12_about : MethodName := ⟨RX12, "about", "(II)I"⟩
abbrev cX12_force : ByteArray := prog_14_method_39_code
def yX12_force : MethodName := ⟨RX12, "force", "(III)I"⟩
abbrev cX12_forceIn : ByteArray := prog_14_method_40_code
def yX12_forceIn : MethodName := ⟨RX12, "forceIn", "(III)I"⟩
abbrev cX12_whoseOf : ByteArray := prog_14_method_41_code
def yX12_whoseOf : MethodName := ⟨RX12, "whoseOf", "(I)I"⟩
abbrev cX12_whose : ByteArray := prog_14_method_42_code
def yX12_whose : MethodName := ⟨RX12, "whose", "(I)I"⟩
abbrev cX12_own : ByteArray := prog_14_method_43_code
def yX12_own : MethodName := ⟨RX12, "own", "(II)I"⟩
abbrev cX12_shown : ByteArray := prog_14_method_44_code
def yX12_shown : MethodName := ⟨RX12, "shown", "(II)I"⟩
abbrev cX12_explained : ByteArray := prog_14_method_45_code
def yX12_explained : MethodName := ⟨RX12, "explained", "(III)I"⟩
abbrev cX12_isLost : ByteArray := prog_14_method_46_code
def yX12_isLost : MethodName := ⟨RX12, "isLost", "(III)Z"⟩
abbrev cX12_fits : ByteArray := prog_14_method_47_code
def yX12_fits : MethodName := ⟨RX12, "fits", "(I)Z"⟩
abbrev cX12_lost : ByteArray := prog_14_method_48_code
def yX12_lost : MethodName := ⟨RX12, "lost", "(IIIIII)I"⟩
abbrev cX12_pen : ByteArray := prog_14_method_49_code
def yX12_pen : MethodName := ⟨RX12, "pen", "(IIIII)I"⟩
abbrev cX12_nextRow : ByteArray := prog_14_method_50_code
def yX12_nextRow : MethodName := ⟨RX12, "nextRow", "()Z"⟩
abbrev cX12_exchange : ByteArray := prog_14_method_51_code
def yX12_exchange : MethodName := ⟨RX12, "exchange", "(II)V"⟩
abbrev cX12_placeOf : ByteArray := prog_14_method_52_code
def yX12_placeOf : MethodName := ⟨RX12, "placeOf", "(I)I"⟩
abbrev cX12_isRow : ByteArray := prog_14_method_53_code
def yX12_isRow : MethodName := ⟨RX12, "isRow", "()Z"⟩
abbrev cX12_orders : ByteArray := prog_14_method_54_code
def yX12_orders : MethodName := ⟨RX12, "orders", "(I)I"⟩
abbrev cX12_press : ByteArray := prog_14_method_55_code
def yX12_press : MethodName := ⟨RX12, "press", "(II)I"⟩
abbrev cX12_copies : ByteArray := prog_14_method_56_code
def yX12_copies : MethodName := ⟨RX12, "copies", "(IIII)I"⟩
abbrev cX12_common : ByteArray := prog_14_method_57_code
def yX12_common : MethodName := ⟨RX12, "common", "(JJ)J"⟩
abbrev cX12_rub : ByteArray := prog_14_method_58_code
def yX12_rub : MethodName := ⟨RX12, "rub", "(III)I"⟩
abbrev cX12_torn : ByteArray := prog_14_method_59_code
def yX12_torn : MethodName := ⟨RX12, "torn", "(I)I"⟩
abbrev cX12_draw : ByteArray := prog_14_method_60_code
def yX12_draw : MethodName := ⟨RX12, "draw", "(I)I"⟩
abbrev cX12_drawn : ByteArray := prog_14_method_61_code
def yX12_drawn : MethodName := ⟨RX12, "drawn", "(II)I"⟩
abbrev cX12_part : ByteArray := prog_14_method_62_code
def yX12_part : MethodName := ⟨RX12, "part", "(I)J"⟩
abbrev cX12_carry : ByteArray := prog_14_method_63_code
def yX12_carry : MethodName := ⟨RX12, "carry", "([II[III)V"⟩
abbrev cX12_image : ByteArray := prog_14_method_64_code
def yX12_image : MethodName := ⟨RX12, "image", "(I)I"⟩
abbrev cX12_from : ByteArray := prog_14_method_65_code
def yX12_from : MethodName := ⟨RX12, "from", "(I)I"⟩
abbrev cX12_status : ByteArray := prog_14_method_66_code
def yX12_status : MethodName := ⟨RX12, "status", "(I)I"⟩
abbrev cX12_countOf : ByteArray := prog_14_method_67_code
def yX12_countOf : MethodName := ⟨RX12, "countOf", "(I)I"⟩
abbrev cX12_count : ByteArray := prog_14_method_68_code
def yX12_count : MethodName := ⟨RX12, "count", "(I)I"⟩
abbrev cX12_mix : ByteArray := prog_14_method_69_code
def yX12_mix : MethodName := ⟨RX12, "mix", "(J)V"⟩
abbrev cX12_digest : ByteArray := prog_14_method_70_code
def yX12_digest : MethodName := ⟨RX12, "digest", "()J"⟩
def RJ6 : String := "java/lang/Integer"
def TJ6 : u_T := fun k => match k with
  | _ => ("", "", "", false)
def tyJ6 : Nat → FieldType := fun k => match k with
  | _ => .int
abbrev wsJ60 : List Cond := u_ws RJ6 TJ6 0
theorem nmJ6 : ∀ a, a < 0 → ∀ b, b < 0 → a ≠ b → (TJ6 a).2.1 ≠ (TJ6 b).2.1 := by decide +kernel
theorem tyJ6_ok : ∀ k, k < 0 → parseFieldDescriptor (TJ6 k).2.2.1 = some (tyJ6 k) := by decide +kernel
abbrev cJ6_bitCount_0f7a4 : ByteArray := prog_15_method_49_code
def yJ6_bitCount_0f7a4 : MethodName := ⟨RJ6, "bitCount", "(I)I"⟩
def RJ0 : String := "java/lang/String"
def TJ0 : u_T := fun k => match k with
  | _ => ("", "", "", false)
def tyJ0 : Nat → FieldType := fun k => match k with
  | _ => .int
abbrev wsJ00 : List Cond := u_ws RJ0 TJ0 0
theorem nmJ0 : ∀ a, a < 0 → ∀ b, b < 0 → a ≠ b → (TJ0 a).2.1 ≠ (TJ0 b).2.1 := by decide +kernel
theorem tyJ0_ok : ∀ k, k < 0 → parseFieldDescriptor (TJ0 k).2.2.1 = some (tyJ0 k) := by decide +kernel
abbrev cJ0_length_8abf5 : ByteArray := prog_16_method_54_code
def yJ0_length_8abf5 : MethodName := ⟨RJ0, "length", "()I"⟩
abbrev cJ0_charAt_5068e : ByteArray := prog_16_method_56_code
def yJ0_charAt_5068e : MethodName := ⟨RJ0, "charAt", "(I)C"⟩
abbrev cJ0_coder_7d493 : ByteArray := prog_16_method_152_code
def yJ0_coder_7d493 : MethodName := ⟨RJ0, "coder", "()B"⟩
abbrev cJ0_isLatin1_aae02 : ByteArray := prog_16_method_154_code
def yJ0_isLatin1_aae02 : MethodName := ⟨RJ0, "isLatin1", "()Z"⟩
abbrev cJ0_checkIndex_df160 : ByteArray := prog_16_method_155_code
def yJ0_checkIndex_df160 : MethodName := ⟨RJ0, "checkIndex", "(II)V"⟩
def RJ1 : String := "java/lang/StringLatin1"
def TJ1 : u_T := fun k => match k with
  | _ => ("", "", "", false)
def tyJ1 : Nat → FieldType := fun k => match k with
  | _ => .int
abbrev wsJ10 : List Cond := u_ws RJ1 TJ1 0
theorem nmJ1 : ∀ a, a < 0 → ∀ b, b < 0 → a ≠ b → (TJ1 a).2.1 ≠ (TJ1 b).2.1 := by decide +kernel
theorem tyJ1_ok : ∀ k, k < 0 → parseFieldDescriptor (TJ1 k).2.2.1 = some (tyJ1 k) := by decide +kernel
abbrev cJ1_charAt_3b067 : ByteArray := prog_17_method_2_code
def yJ1_charAt_3b067 : MethodName := ⟨RJ1, "charAt", "([BI)C"⟩
def RJ2 : String := "java/lang/StringUTF16"
def TJ2 : u_T := fun k => match k with
  | _ => ("", "", "", false)
def tyJ2 : Nat → FieldType := fun k => match k with
  | _ => .int
abbrev wsJ20 : List Cond := u_ws RJ2 TJ2 0
theorem nmJ2 : ∀ a, a < 0 → ∀ b, b < 0 → a ≠ b → (TJ2 a).2.1 ≠ (TJ2 b).2.1 := by decide +kernel
theorem tyJ2_ok : ∀ k, k < 0 → parseFieldDescriptor (TJ2 k).2.2.1 = some (tyJ2 k) := by decide +kernel
abbrev cJ2_getChar_3b067 : ByteArray := prog_18_method_5_code
def yJ2_getChar_3b067 : MethodName := ⟨RJ2, "getChar", "([BI)C"⟩
abbrev cJ2_length_9d52b : ByteArray := prog_18_method_6_code
def yJ2_length_9d52b : MethodName := ⟨RJ2, "length", "([B)I"⟩
abbrev cJ2_charAt_3b067 : ByteArray := prog_18_method_83_code
def yJ2_charAt_3b067 : MethodName := ⟨RJ2, "charAt", "([BI)C"⟩
abbrev cJ2_checkIndex_2214a : ByteArray := prog_18_method_91_code
def yJ2_checkIndex_2214a : MethodName := ⟨RJ2, "checkIndex", "(I[B)V"⟩
def RJ10 : String := "java/lang/System"
def TJ10 : u_T := fun k => match k with
  | _ => ("", "", "", false)
def tyJ10 : Nat → FieldType := fun k => match k with
  | _ => .int
abbrev wsJ100 : List Cond := u_ws RJ10 TJ10 0
theorem nmJ10 : ∀ a, a < 0 → ∀ b, b < 0 → a ≠ b → (TJ10 a).2.1 ≠ (TJ10 b).2.1 := by decide +kernel
theorem tyJ10_ok : ∀ k, k < 0 → parseFieldDescriptor (TJ10 k).2.2.1 = some (tyJ10 k) := by decide +kernel
def RJ3 : String := "jdk/internal/util/Preconditions"
def TJ3 : u_T := fun k => match k with
  | _ => ("", "", "", false)
def tyJ3 : Nat → FieldType := fun k => match k with
  | _ => .int
abbrev wsJ30 : List Cond := u_ws RJ3 TJ3 0
theorem nmJ3 : ∀ a, a < 0 → ∀ b, b < 0 → a ≠ b → (TJ3 a).2.1 ≠ (TJ3 b).2.1 := by decide +kernel
theorem tyJ3_ok : ∀ k, k < 0 → parseFieldDescriptor (TJ3 k).2.2.1 = some (tyJ3 k) := by decide +kernel
abbrev cJ3_checkIndex_8e157 : ByteArray := prog_20_method_11_code
def yJ3_checkIndex_8e157 : MethodName := ⟨RJ3, "checkIndex", "(IILjava/util/function/BiFunction;)I"⟩
def RL : String := "PressedPadLaw"
abbrev cL_law : ByteArray := code
def yL_law : MethodName := ⟨RL, "law", "([I)Z"⟩
abbrev vwCl : List vw_C := [(RX0, TX0, 0), (RX1, TX1, 0), (RX2, TX2, 4), (RX3, TX3, 0), (RX4, TX4, 12), (RX5, TX5, 1), (RX6, TX6, 0), (RX7, TX7, 8), (RX8, TX8, 5), (RX9, TX9, 0), (RX10, TX10, 0), (RX11, TX11, 15), (RX12, TX12, 30)]
end
section
/-! the words that every method is given, and those that a nest needs -/
def gG : List Cond := lw_tbl.filter goodWord
def nst : Cond → Bool
  | .fieldLinkNest .. => true
  | .methodLinkNest .. => true
  | .castable .. => true
  | _ => false
def nW : List Cond := lw_tbl.filter nst
theorem gG_in {w : Cond} (h : w ∈ lw_tbl) (g : goodWord w = true) : w ∈ gG := List.mem_filter.mpr ⟨h, g⟩
theorem nW_in {w : Cond} (h : w ∈ lw_tbl) (g : nst w = true) : w ∈ nW := List.mem_filter.mpr ⟨h, g⟩
theorem nst_tab {w : Cond} (g : nst w = true) : w.onTables = true := by
  cases w <;> first | rfl | (simp [nst] at g; done)
theorem nst_warm {w : Cond} (g : nst w = true) {s U : State} (hW : s.WarmedH U.vm) (h : va_Nw w s) : va_Nw w U := by
  cases w <;> first | exact va_Nw.warmF hW h | exact va_Nw.warmM hW h | exact va_Nw.warmC hW h | (simp [nst] at g; done)
def mW (y : MethodName) (cc : ByteArray) (n : Nat) (ret : Option FieldType) : List Cond := Cond.code y cc n ret :: gG
theorem mW_good {Ts : List Cond} (hT : ∀ w ∈ gG, w ∈ Ts) {y : MethodName} {cc : ByteArray} {n : Nat} {ret : Option FieldType} (hc : Cond.code y cc n ret ∈ gG) : GoodIn Ts (mW y cc n ret) := by
  intro w hw
  rcases List.mem_cons.mp hw with h | h
  · subst h
    exact ⟨hT _ hc, good_of_word (List.mem_filter.mp hc).2⟩
  · exact ⟨hT _ h, good_of_word (List.mem_filter.mp h).2⟩
/-! the pure state of an object: its int fields, its long fields, its arrays, by the places of the fields -/
def St : Type := (Nat → Int32) × (Nat → Int64) × (Nat → Nat → Int32)
def St.I (x : St) (k : Nat) : Int32 := x.1 k
def St.L (x : St) (k : Nat) : Int64 := x.2.1 k
def St.A (x : St) (k : Nat) : Nat → Int32 := x.2.2 k
def St.sI (x : St) (k : Nat) (v : Int32) : St := (fun j => if j = k then v else x.1 j, x.2)
def St.sL (x : St) (k : Nat) (v : Int64) : St := (x.1, fun j => if j = k then v else x.2.1 j, x.2.2)
def St.sA (x : St) (k : Nat) (v : Nat → Int32) : St := (x.1, x.2.1, fun j => if j = k then v else x.2.2 j)
def upS (t : Nat → St) (k : Nat) (x : St) : Nat → St := fun j => if j = k then x else t j
/-- a number that a boolean can be -/
def vb (x : Int32) : Prop := narrow .boolean (.int x) = .int x
/-! the loop's iterator -/
def itN {α : Type} (F : (α → Prop) → α → Prop) : Nat → α → Prop
  | 0 => fun _ => False
  | n + 1 => F (itN F n)
/-! the environment: numbers of the classes, of int[], boolean[], Pencil[] -/
abbrev VE : Type := va_G × ClassId × ClassId × ClassId × (Nat → Nat) × (Nat → Nat)
def tysG (E : VE) : List (ClassId × FieldType) := [(E.2.1, .int), (E.2.2.1, .boolean), (E.2.2.2.1, .object "PressedPad$Pencil")]
/-! the text's literals, and the flag that the JDK's strings ask for -/
def lenS : List Nat := [3, 6, 4, 4]
def bytS : List (List Int32) := [[112, 97, 100], [99, 97, 114, 98, 111, 110], [116, 101, 97, 114], [110, 111, 116, 101]]
def sF (E : VE) (A : Nat → Prop) (U : State) (H : Heap) : Prop :=
  vk_R RX7 48 "pad" (E.2.2.2.2.1 0) U ∧ vk_R RX7 68 "carbon" (E.2.2.2.2.1 1) U ∧ vk_R RX7 73 "tear" (E.2.2.2.2.1 2) U ∧ vk_R RX7 75 "note" (E.2.2.2.2.1 3) U ∧ vk_S 4 lenS bytS E.2.2.2.2.1 E.2.2.2.2.2 A U H ∧ va_Z "java/lang/String" "COMPACT_STRINGS" "Z" (.int 1) A U H
theorem sF_same {E : VE} {A : Nat → Prop} {u U : State} {H : Heap} (hv : U.vm = u.vm) (h : sF E A u H) : sF E A U H := by
  obtain ⟨h1, h2, h3, h4, h5, h6⟩ := h
  have ha : u.vm.Alike U.vm := by rw [hv]; exact Vm.Alike.refl _
  exact ⟨vk_R.same hv h1, vk_R.same hv h2, vk_R.same hv h3, vk_R.same hv h4, vk_S.moved ha h5, va_Z.moved ha h6⟩
theorem sF_go {E : VE} {A B : Nat → Prop} {s U : State} {H : Heap} {locs : List Loc} (h : sF E A s s.heap) (hS : va_S A s.heap H locs) (hAB : ∀ q, B q → A q) (hW : s.WarmedH U.vm) (hU : U.heap = H) : sF E B U U.heap := by
  obtain ⟨h1, h2, h3, h4, h5, h6⟩ := h
  rw [hU]
  exact ⟨vk_R.warm hW h1, vk_R.warm hW h2, vk_R.warm hW h3, vk_R.warm hW h4, vk_S.narrow (vk_S.kept (vk_S.moved hW.alike h5) hS.2.1) hAB, va_Z.narrow (va_Z.kept (va_Z.moved hW.alike h6) hS.2.1) hAB⟩
def CPre (E : VE) (av : List Value) (sz : Nat) (w : va_W) : Array Value → State → Prop := va_Pc av (fun U => U.heap.size = sz ∧ va_P E.1 vwCl w U.heap ∧ va_K E.1 vwCl (tysG E) U ∧ va_D (fun _ => True) w ∧ (∀ x ∈ nW, va_Nw x U) ∧ sF E (va_A w sz) U U.heap)
def CQi {S : Type} (E : VE) (Post : Int32 → S → Prop) (wf : S → va_W) (w : va_W) (sz : Nat) : Array Value → State → Outcome → State → Prop := va_Qi Post (fun u t => va_P E.1 vwCl (wf u) t.heap) (va_A w sz)
def CQl {S : Type} (E : VE) (Post : Int64 → S → Prop) (wf : S → va_W) (w : va_W) (sz : Nat) : Array Value → State → Outcome → State → Prop := va_Ql Post (fun u t => va_P E.1 vwCl (wf u) t.heap) (va_A w sz)
def CQv {S : Type} (E : VE) (Post : S → Prop) (wf : S → va_W) (w : va_W) (sz : Nat) : Array Value → State → Outcome → State → Prop := va_Qv Post (fun u t => va_P E.1 vwCl (wf u) t.heap) (va_A w sz)
theorem CPre_blind {E : VE} {av : List Value} {sz : Nat} {w : va_W} : FrameBlind (CPre E av sz w) := by
  intro a U g mk q
  obtain ⟨q0, q1, qP, qK, qD, qN, qF⟩ := q
  exact ⟨q0, q1, qP, va_K.moved (u := U) (U := U.calling g mk a) (Vm.Alike.refl U.vm) qK, qD, fun x hx => va_Nw.same (u := U) (U := U.calling g mk a) (nst_tab (List.mem_filter.mp hx).2) rfl (qN x hx), sF_same (u := U) (U := U.calling g mk a) rfl qF⟩
/-- what holds all through a method's body -/
def VC (p : Program) (s : State) (m : MethodId) (args : Array Value) (meth : Method) (c : Code) (E : VE) (A : Nat → Prop) (cc : ByteArray) (nL : Nat) (ret : Option FieldType) (own : String) : Prop :=
  p.tables.exec = Jvm.exec ∧ c.code = cc ∧ c.maxLocals = nL ∧ meth.sig.returnType = ret ∧ s.vm.findClass own = some m.cls ∧ (∀ w ∈ gG, w.before args s = true) ∧ va_K E.1 vwCl (tysG E) s ∧ (∀ q : Nat, s.heap.size ≤ q → A q) ∧ meth.locks = false ∧ (∀ x ∈ nW, va_Nw x s) ∧ sF E A s s.heap
/-- the machine at a place of the body, with a world, locals and a stack -/
def V (p : Program) (l : Launch) (e : Env) (R : Room) (s : State) (m : MethodId) (args : Array Value) (below : List Frame) (meth : Method) (c : Code) (E : VE) (A : Nat → Prop) (nL cells slots : Nat) (Q : State → Prop) (w : va_W) (pc : Nat) (lv : List (Nat × Value)) (st : List Value) : Prop :=
  ∀ (H : Heap) (locs : List Loc) (ls : Array Slot), va_P E.1 vwCl w H → va_D A w → va_S A s.heap H locs → lv_has ls nL lv → W p l e R s m args below meth c H locs cells slots Q (F0 m pc ls st)
theorem va_D_adr {A : Nat → Prop} {w w' : va_W} (h : va_D A w) (e : w'.map Prod.fst = w.map Prod.fst) : va_D A w' := by
  have key : ∀ (k : Nat) (q : Nat × va_E), w'[k]? = some q → ∃ q0, w[k]? = some q0 ∧ q0.1 = q.1 := by
    intro k q hq
    have h1 : (w'.map Prod.fst)[k]? = some q.1 := by rw [List.getElem?_map, hq]; rfl
    rw [e, List.getElem?_map] at h1
    cases hw : w[k]? with
    | none => rw [hw] at h1; cases h1
    | some q0 => rw [hw] at h1; exact ⟨q0, rfl, Option.some.inj h1⟩
  refine ⟨fun i j p q hp hq hpq => ?_, fun k q hq => ?_⟩
  · obtain ⟨p0, h1, h2⟩ := key i p hp
    obtain ⟨q0, h3, h4⟩ := key j q hq
    exact h.1 i j p0 q0 h1 h3 (by rw [h2, h4, hpq])
  · obtain ⟨q0, h1, h2⟩ := key k q hq
    rw [← h2]
    exact h.2 k q0 h1
/-- cells put at places -/
def putc : va_W → List Nat → va_W → va_W
  | w, i :: is, x :: xs => putc (w.set i x) is xs
  | w, _, _ => w
theorem putc_mem : ∀ (is : List Nat) (xs : va_W) (w : va_W) (k : Nat) (q : Nat × va_E), (putc w is xs)[k]? = some q → (q ∈ xs) ∨ (w[k]? = some q ∧ (xs.length = is.length → k ∉ is))
  | [], xs, w, k, q, h => by
    have h' : w[k]? = some q := by cases xs <;> exact h
    exact Or.inr ⟨h', fun _ => List.not_mem_nil⟩
  | i :: is, [], w, k, q, h => Or.inr ⟨h, fun e => by simp at e⟩
  | i :: is, x :: xs, w, k, q, h => by
    have h1 : (putc (w.set i x) is xs)[k]? = some q := h
    rcases putc_mem is xs (w.set i x) k q h1 with h2 | ⟨h2, h3⟩
    · exact Or.inl (List.mem_cons_of_mem _ h2)
    · by_cases hk : i = k
      · subst hk
        by_cases hl : i < w.length
        · rw [List.getElem?_set_self hl] at h2
          exact Or.inl (by rw [← Option.some.inj h2]; exact List.mem_cons_self)
        · rw [List.getElem?_eq_none (by rw [List.length_set]; omega)] at h2
          cases h2
      · rw [List.getElem?_set_ne hk] at h2
        refine Or.inr ⟨h2, fun e => ?_⟩
        have e' : xs.length = is.length := by simpa using e
        intro hm
        rcases List.mem_cons.mp hm with h4 | h4
        · exact hk h4.symm
        · exact h3 e' h4
theorem putc_adr : ∀ (is : List Nat) (xs : va_W) (w : va_W), is.map (fun i => (w.map Prod.fst)[i]?) = (xs.map Prod.fst).map some → (putc w is xs).map Prod.fst = w.map Prod.fst
  | [], xs, w, _ => by cases xs <;> rfl
  | i :: is, [], w, h => by simp at h
  | i :: is, x :: xs, w, h => by
    have h1 : (w.map Prod.fst)[i]? = some x.1 := by
      have := congrArg List.head? h
      simpa using this
    have h2 : is.map (fun i => (w.map Prod.fst)[i]?) = (xs.map Prod.fst).map some := by
      have := congrArg List.tail h
      simpa using this
    have e : (w.set i x).map Prod.fst = w.map Prod.fst := by
      rw [List.map_set]
      apply List.ext_getElem?
      intro k
      by_cases hk : i = k
      · subst hk
        rw [h1, List.getElem?_set_self (List.getElem?_eq_some_iff.mp h1).1]
      · rw [List.getElem?_set_ne hk]
    show (putc (w.set i x) is xs).map Prod.fst = _
    rw [putc_adr is xs (w.set i x) (by rw [e]; exact h2), e]
/-- behind a call: the callee's new cells, and the others as they were -/
theorem put_join {A : Nat → Prop} {D : va_G} {w wc wc' : va_W} {H H1 : Heap} (hP : va_P D vwCl w H) (hD : va_D A w) (is : List Nat) (hC : is.map (fun i => w[i]?) = wc.map some) (hadr : wc'.map Prod.fst = wc.map Prod.fst)
    (hk : ∀ q : Nat, q < H.size → ¬ va_A wc H.size q → H1[q]? = H[q]?) (hP1 : va_P D vwCl wc' H1) : va_P D vwCl (putc w is wc') H1 ∧ va_D A (putc w is wc') := by
  have hlen : wc'.length = is.length := by
    have h1 := congrArg List.length hC
    have h2 := congrArg List.length hadr
    simp at h1 h2
    omega
  refine ⟨fun k q hq => ?_, va_D_adr hD (putc_adr is wc' w ?_)⟩
  · rcases putc_mem is wc' w k q hq with h | ⟨h, h2⟩
    · obtain ⟨i, hi⟩ := List.getElem?_of_mem h
      exact hP1 i q hi
    · have hni := h2 hlen
      have hat := hP k q h
      refine hat.kept (hk q.1 hat.lt (fun hA => ?_))
      rcases hA with ⟨k2, e, h3⟩ | h3
      · have h4 : (is.map (fun i => w[i]?))[k2]? = some (some (q.1, e)) := by rw [hC, List.getElem?_map, h3]; rfl
        rw [List.getElem?_map] at h4
        cases hi : is[k2]? with
        | none => rw [hi] at h4; cases h4
        | some i =>
          rw [hi] at h4
          have h5 : w[i]? = some (q.1, e) := Option.some.inj h4
          have h6 := hD.1 k i q (q.1, e) h h5 rfl
          subst h6
          exact hni (List.mem_of_getElem? hi)
      · exact absurd hat.lt (Nat.not_lt.mpr h3)
  · rw [hadr]
    have h1 : is.map (fun i => (w.map Prod.fst)[i]?) = (is.map (fun i => w[i]?)).map (Option.map Prod.fst) := by
      rw [List.map_map]
      apply List.map_congr_left
      intro i _
      simp [List.getElem?_map]
    rw [h1, hC, List.map_map, List.map_map]
    rfl
theorem pick_P {D : va_G} {w wc : va_W} {H : Heap} (hP : va_P D vwCl w H) (is : List Nat) (hC : is.map (fun i => w[i]?) = wc.map some) : va_P D vwCl wc H := by
  intro k q hq
  have h4 : (is.map (fun i => w[i]?))[k]? = some (some q) := by rw [hC, List.getElem?_map, hq]; rfl
  rw [List.getElem?_map] at h4
  cases hi : is[k]? with
  | none => rw [hi] at h4; cases h4
  | some i =>
    rw [hi] at h4
    exact hP i q (Option.some.inj h4)
end
section
/-- the force of a pencil, and of the six kinds -/
def fo0 (x y : Int32) : Int32 := if x - y < 0 then 0 else if 9 < x - y then 9 else x - y
def fo (k x y : Int32) : Int32 := if k = 0 then fo0 x y else if k = 1 then fo0 (x + 1) y else if k = 2 then fo0 x y / 2 else if k = 3 then fo0 (x + 1) y else if k = 4 then (if 1 < y then 0 else fo0 x y / 2) else if k = 5 then fo0 (x + 1) (y / 2) else 0
def hink (k : Int32) : Int32 := if k = 0 then 1 else if k = 1 then 1 else if k = 2 then 1 else if k = 3 then 0 else if k = 4 then 1 else 0
def wpX5_forceOf (x1 : Int32) (x2 : Int32) (x3 : Int32) (Post : Int32 → Prop) : Prop := Post (fo x1 x2 x3)
def wpX5_hasInk (x1 : Int32) (Post : Int32 → Prop) : Prop := Post (hink x1)
def wpX4_placeOf (x0 : Int32) (x1 : Int32)   (Post : Int32 → Prop) : Prop := Post (((2 : Int32) + (x0 * 14)) + x1)
def wpX4_dentOf (x1 : Int32) (x2 : Int32) (p : St)  (Post : Int32 → Prop) : Prop := wpX4_placeOf x1 ((2 : Int32) + x2) (fun (r1 : Int32) => vp_in r1 86 ∧ Post ((p.A 0) r1.toNatClampNeg))
def wpX4_noteCount  (p : St)  (Post : Int32 → Prop) : Prop := Post ((p.A 0) 1)
def wpX4_forceDown (x1 : Int32) (x2 : Int32) (p : St)  (Post : Int32 → Prop) : Prop := ((x2 < 0) → Post 0) ∧ ((¬ x2 < 0) → ((x2 < 6) → vp_in ((x1 * 6) + x2) 60 ∧ Post ((p.A 9) ((x1 * 6) + x2).toNatClampNeg)) ∧ ((¬ x2 < 6) → Post 0))
def wpX4_forceOn (x1 : Int32) (x2 : Int32) (p : St)  (Post : Int32 → Prop) : Prop := vp_in x1 10 ∧ wpX4_forceDown x1 (x2 - ((p.A 8) x1.toNatClampNeg)) p (fun (r1 : Int32) => Post r1)
def wlX11_dentInto_3 (n0 : Nat) (Post : (Nat → Int32) → Prop) (KX : (Nat → Int32) → Prop) (self : (Int32 × Int32 × Int32 × Int32 × (Nat → Int32)) → Prop) (x1 : Int32) (x2 : Int32) (x3 : Int32) (x4 : Int32) (p : (Nat → Int32)) : Prop := ((12 ≤ x4) → KX p) ∧ ((¬ 12 ≤ x4) → ∀ x5_1 : Int32, x5_1 = (x1 + x4) → ((((x2 >>> (x4 &&& 31)) &&& 1) = 0) → ∀ x4_2 : Int32, x4_2 = x4 + 1 → self (x1, x2, x3, x4_2, p)) ∧ ((¬ ((x2 >>> (x4 &&& 31)) &&& 1) = 0) → ((x5_1 < 0) → ∀ x4_3 : Int32, x4_3 = x4 + 1 → self (x1, x2, x3, x4_3, p)) ∧ ((¬ x5_1 < 0) → (((Int32.ofNat n0) ≤ x5_1) → ∀ x4_4 : Int32, x4_4 = x4 + 1 → self (x1, x2, x3, x4_4, p)) ∧ ((¬ (Int32.ofNat n0) ≤ x5_1) → vp_in x5_1 n0 ∧ ((x3 ≤ (p x5_1.toNatClampNeg)) → ∀ x4_5 : Int32, x4_5 = x4 + 1 → self (x1, x2, x3, x4_5, p)) ∧ ((¬ x3 ≤ (p x5_1.toNatClampNeg)) → vp_in x5_1 n0 ∧ ∀ p6 : (Nat → Int32), p6 = (upd p x5_1.toNatClampNeg x3) → ∀ x4_7 : Int32, x4_7 = x4 + 1 → self (x1, x2, x3, x4_7, p6))))))
def wLX11_dentInto_3 (n0 : Nat) (Post : (Nat → Int32) → Prop) (KX : (Nat → Int32) → Prop) : Nat → (Int32 × Int32 × Int32 × Int32 × (Nat → Int32)) → Prop := itN (fun self x => wlX11_dentInto_3 n0 Post KX self x.1 x.2.1 x.2.2.1 x.2.2.2.1 x.2.2.2.2)
def wpX11_dentInto (x1 : Int32) (x2 : Int32) (x3 : Int32) (p : (Nat → Int32)) (n0 : Nat) (Post : (Nat → Int32) → Prop) : Prop := ∃ n, wLX11_dentInto_3 n0 Post (fun (p8 : (Nat → Int32)) => Post p8) n (x1, x2, x3, 0, p)
def wlX2_look_3 (q : St) (Post : St → Prop) (KX : Int32 → Int32 → St → Prop) (self : (Int32 × Int32 × Int32 × St) → Prop) (x2 : Int32) (x3 : Int32) (x4 : Int32) (p : St) : Prop := ((12 ≤ x4) → KX x2 x3 p) ∧ ((¬ 12 ≤ x4) → wpX4_dentOf x2 x4 q (fun (r1 : Int32) => vp_in x4 12 ∧ ∀ p2 : St, p2 = p.sA 0 (upd (p.A 0) x4.toNatClampNeg r1) → vp_in x4 12 ∧ ∀ p3 : St, p3 = p2.sA 1 (upd (p2.A 1) x4.toNatClampNeg 0) → ∀ x4_4 : Int32, x4_4 = x4 + 1 → self (x2, x3, x4_4, p3)))
def wLX2_look_3 (q : St) (Post : St → Prop) (KX : Int32 → Int32 → St → Prop) : Nat → (Int32 × Int32 × Int32 × St) → Prop := itN (fun self x => wlX2_look_3 q Post KX self x.1 x.2.1 x.2.2.1 x.2.2.2)
def wlX2_look_41 (q : St) (Post : St → Prop) (KX : St → Prop) (self : (Int32 × Int32 × Int32 × St) → Prop) (x2 : Int32) (x3 : Int32) (x4 : Int32) (p : St) : Prop := wpX4_noteCount q (fun (r8 : Int32) => ((r8 ≤ x4) → KX p) ∧ ((¬ r8 ≤ x4) → ((((x3 >>> (x4 &&& 31)) &&& 1) = 0) → ∀ x4_9 : Int32, x4_9 = x4 + 1 → self (x2, x3, x4_9, p)) ∧ ((¬ ((x3 >>> (x4 &&& 31)) &&& 1) = 0) → vp_in x4 10 ∧ wpX4_forceOn x4 x2 q (fun (r10 : Int32) => wpX11_dentInto 0 ((q.A 7) x4.toNatClampNeg) r10 (p.A 1) 12 (fun (p11 : (Nat → Int32)) => ∀ x4_12 : Int32, x4_12 = x4 + 1 → self (x2, x3, x4_12, (p.sA 1 p11)))))))
def wLX2_look_41 (q : St) (Post : St → Prop) (KX : St → Prop) : Nat → (Int32 × Int32 × Int32 × St) → Prop := itN (fun self x => wlX2_look_41 q Post KX self x.1 x.2.1 x.2.2.1 x.2.2.2)
def wpX2_look (x2 : Int32) (x3 : Int32) (p : St) (q : St)  (Post : St → Prop) : Prop := ∃ n, wLX2_look_3 q Post (fun (y5 : Int32) (y6 : Int32) (p7 : St) => ∃ n, wLX2_look_41 q Post (fun (p13 : St) => Post p13) n (y5, y6, 0, p7)) n (x2, x3, 0, p)
def wjX2_guess_91  (Post : Int32 → St → Prop) (self : (Int32 × Int32 × St) → Prop) (KX : St → Prop) (x1 : Int32) (x2 : Int32) (p : St) : Prop := ∀ p3 : St, p3 = p.sI 3 ((p.I 3) ||| ((1 : Int32) <<< (x2 &&& 31))) → ∀ x2_4 : Int32, x2_4 = x2 + 1 → self (x1, x2_4, p3)
def wjX2_guess_77  (Post : Int32 → St → Prop) (self : (Int32 × Int32 × St) → Prop) (KX : St → Prop) (x1 : Int32) (x2 : Int32) (x3 : Int32) (p : St) : Prop := ((¬ x3 = 0) → wjX2_guess_91 Post self KX x1 x2 p) ∧ ((x3 = 0) → vp_in x2 12 ∧ ((((p.A 1) x2.toNatClampNeg) < x1) → ∀ x2_5 : Int32, x2_5 = x2 + 1 → self (x1, x2_5, p)) ∧ ((¬ ((p.A 1) x2.toNatClampNeg) < x1) → wjX2_guess_91 Post self KX x1 x2 p))
def wjX2_guess_61  (Post : Int32 → St → Prop) (self : (Int32 × Int32 × St) → Prop) (KX : St → Prop) (x1 : Int32) (x2 : Int32) (x3 : Int32) (p : St) : Prop := ((x3 = 0) → wjX2_guess_77 Post self KX x1 x2 x3 p) ∧ ((¬ x3 = 0) → ∀ p6 : St, p6 = p.sI 2 ((p.I 2) ||| ((1 : Int32) <<< (x2 &&& 31))) → wjX2_guess_77 Post self KX x1 x2 x3 p6)
def wjX2_guess_44  (Post : Int32 → St → Prop) (self : (Int32 × Int32 × St) → Prop) (KX : St → Prop) (x1 : Int32) (x2 : Int32) (z0 : Int32) (p : St) : Prop := ((z0 = 0) → wjX2_guess_61 Post self KX x1 x2 z0 p) ∧ ((¬ z0 = 0) → vp_in x2 12 ∧ ((((p.A 0) x2.toNatClampNeg) = x1) → wjX2_guess_61 Post self KX x1 x2 z0 p) ∧ ((¬ ((p.A 0) x2.toNatClampNeg) = x1) → Post 0 p))
def wlX2_guess_18  (Post : Int32 → St → Prop) (KX : St → Prop) (self : (Int32 × Int32 × St) → Prop) (x1 : Int32) (x2 : Int32) (p : St) : Prop := ((12 ≤ x2) → KX p) ∧ ((¬ 12 ≤ x2) → vp_in x2 12 ∧ vp_in x2 12 ∧ ((((p.A 0) x2.toNatClampNeg) = ((p.A 1) x2.toNatClampNeg)) → wjX2_guess_44 Post self KX x1 x2 0 p) ∧ ((¬ ((p.A 0) x2.toNatClampNeg) = ((p.A 1) x2.toNatClampNeg)) → wjX2_guess_44 Post self KX x1 x2 1 p))
def wLX2_guess_18  (Post : Int32 → St → Prop) (KX : St → Prop) : Nat → (Int32 × Int32 × St) → Prop := itN (fun self x => wlX2_guess_18  Post KX self x.1 x.2.1 x.2.2)
def wpX2_guess (x1 : Int32) (p : St)  (Post : Int32 → St → Prop) : Prop := ∀ p1 : St, p1 = p.sI 2 0 → ∀ p2 : St, p2 = p1.sI 3 0 → ((0 < x1) → ∃ n, wLX2_guess_18 Post (fun (p7 : St) => Post 1 p7) n (x1, 0, p2)) ∧ ((¬ 0 < x1) → Post 0 p2)
def wpX2_isFit (x1 : Int32) (p : St)  (Post : Int32 → Prop) : Prop := ((¬ (x1 &&& (p.I 2)) = (p.I 2)) → Post 0) ∧ (((x1 &&& (p.I 2)) = (p.I 2)) → ((¬ (x1 &&& ((p.I 3) ^^^ (-1))) = 0) → Post 0) ∧ (((x1 &&& ((p.I 3) ^^^ (-1))) = 0) → Post 1))
def wlX4_beginAnew_22  (Post : St → Prop) (KX : St → Prop) (self : (Int32 × St) → Prop) (x2 : Int32) (p : St) : Prop := ((86 ≤ x2) → KX p) ∧ ((¬ 86 ≤ x2) → vp_in x2 86 ∧ ∀ p5 : St, p5 = p.sA 0 (upd (p.A 0) x2.toNatClampNeg 0) → ∀ x2_6 : Int32, x2_6 = x2 + 1 → self (x2_6, p5))
def wLX4_beginAnew_22  (Post : St → Prop) (KX : St → Prop) : Nat → (Int32 × St) → Prop := itN (fun self x => wlX4_beginAnew_22  Post KX self x.1 x.2)
def wpX4_beginAnew (x1 : Int32) (p : St)  (Post : St → Prop) : Prop := ∀ p1 : St, p1 = p.sI 3 x1 → ∀ p2 : St, p2 = p1.sI 4 0 → ∀ p3 : St, p3 = p2.sI 2 0 → ∀ p4 : St, p4 = p3.sI 11 0 → ∃ n, wLX4_beginAnew_22 Post (fun (p7 : St) => Post p7) n (0, p4)
def wpX4_copyFrom  (p : St) (q : St)  (Post : St → Prop) : Prop := ∀ p1 : St, p1 = p.sI 3 (q.I 3) → ∀ p2 : St, p2 = p1.sI 4 (q.I 4) → ∀ p3 : St, p3 = p2.sI 2 (q.I 2) → ∀ p4 : St, p4 = p3.sI 11 (q.I 11) → ∀ p5 : St, p5 = p4.sA 0 (va_cpy (q.A 0) (p4.A 0) 0 0 86) → ¬ ((p5.I 2) * 86) < 0 ∧ 0 + ((p5.I 2) * 86).toNatClampNeg ≤ 688 ∧ 0 + ((p5.I 2) * 86).toNatClampNeg ≤ 688 ∧ ∀ p6 : St, p6 = p5.sA 1 (va_cpy (q.A 1) (p5.A 1) 0 0 ((p5.I 2) * 86).toNatClampNeg) → ∀ p7 : St, p7 = p6.sA 5 (va_cpy (q.A 5) (p6.A 5) 0 0 10) → ∀ p8 : St, p8 = p7.sA 6 (va_cpy (q.A 6) (p7.A 6) 0 0 10) → ∀ p9 : St, p9 = p8.sA 7 (va_cpy (q.A 7) (p8.A 7) 0 0 10) → ∀ p10 : St, p10 = p9.sA 8 (va_cpy (q.A 8) (p9.A 8) 0 0 10) → ∀ p11 : St, p11 = p10.sA 9 (va_cpy (q.A 9) (p10.A 9) 0 0 60) → ∀ p12 : St, p12 = p11.sA 10 (va_cpy (q.A 10) (p11.A 10) 0 0 8) → Post p12
def wjX4_keepForUndo_32  (Post : St → Prop) (p : St) : Prop := ¬ ((p.I 2) * 86) < 0 ∧ ((p.I 2) * 86).toNatClampNeg + 86 ≤ 688 ∧ ∀ p1 : St, p1 = p.sA 1 (va_cpy (p.A 0) (p.A 1) 0 ((p.I 2) * 86).toNatClampNeg 86) → ∀ p2 : St, p2 = p1.sI 2 ((p1.I 2) + 1) → Post p2
def wpX4_keepForUndo  (p : St)  (Post : St → Prop) : Prop := (((p.I 2) < 8) → wjX4_keepForUndo_32 Post p) ∧ ((¬ (p.I 2) < 8) → ∀ p3 : St, p3 = p.sA 1 (va_cpy (p.A 1) (p.A 1) 86 0 602) → ∀ p4 : St, p4 = p3.sI 2 7 → wjX4_keepForUndo_32 Post p4)
def wpX4_goBack  (p : St)  (Post : St → Prop) : Prop := (((p.I 2) ≤ 0) → Post p) ∧ ((¬ (p.I 2) ≤ 0) → ∀ p1 : St, p1 = p.sI 2 ((p.I 2) - 1) → ¬ ((p1.I 2) * 86) < 0 ∧ ((p1.I 2) * 86).toNatClampNeg + 86 ≤ 688 ∧ ∀ p2 : St, p2 = p1.sA 0 (va_cpy (p1.A 1) (p1.A 0) ((p1.I 2) * 86).toNatClampNeg 0 86) → Post p2)
def wpX4_top  (p : St)  (Post : Int32 → Prop) : Prop := Post ((p.A 0) 0)
def wpX4_isUsedUp  (p : St)  (Post : Int32 → Prop) : Prop := ((((p.A 0) 0) < (p.I 3)) → Post 0) ∧ ((¬ ((p.A 0) 0) < (p.I 3)) → Post 1)
def wpX4_hasSheet (x1 : Int32) (p : St)  (Post : Int32 → Prop) : Prop := ((x1 < 0) → Post 0) ∧ ((¬ x1 < 0) → (((p.I 3) ≤ x1) → Post 0) ∧ ((¬ (p.I 3) ≤ x1) → Post 1))
def wpX4_hasSheets (x1 : Int32) (p : St)  (Post : Int32 → Prop) : Prop := ((x1 < 0) → Post 0) ∧ ((¬ x1 < 0) → ((((1 : Int32) <<< ((p.I 3) &&& 31)) ≤ x1) → Post 0) ∧ ((¬ ((1 : Int32) <<< ((p.I 3) &&& 31)) ≤ x1) → Post 1))
def wpX4_hasNote (x1 : Int32) (p : St)  (Post : Int32 → Prop) : Prop := ((x1 < 0) → Post 0) ∧ ((¬ x1 < 0) → ((((p.A 0) 1) ≤ x1) → Post 0) ∧ ((¬ ((p.A 0) 1) ≤ x1) → Post 1))
def wpX4_hasNotes (x1 : Int32) (p : St)  (Post : Int32 → Prop) : Prop := ((x1 < 0) → Post 0) ∧ ((¬ x1 < 0) → ((((1 : Int32) <<< (((p.A 0) 1) &&& 31)) ≤ x1) → Post 0) ∧ ((¬ ((1 : Int32) <<< (((p.A 0) 1) &&& 31)) ≤ x1) → Post 1))
def wpX4_inkOf (x1 : Int32) (p : St)  (Post : Int32 → Prop) : Prop := wpX4_placeOf x1 0 (fun (r1 : Int32) => vp_in r1 86 ∧ Post ((p.A 0) r1.toNatClampNeg))
def wpX4_copyOf (x1 : Int32) (p : St)  (Post : Int32 → Prop) : Prop := wpX4_placeOf x1 1 (fun (r1 : Int32) => vp_in r1 86 ∧ Post ((p.A 0) r1.toNatClampNeg))
def wpX4_tearTop  (p : St)  (Post : Int32 → St → Prop) : Prop := ∀ p1 : St, p1 = p.sA 0 (upd (p.A 0) 0 (((p.A 0) 0) + 1)) → Post (((p1.A 0) 0) - 1) p1
def wjX4_pressInto_42  (Post : St → Prop) (x1 : Int32) (x2 : Int32) (x3 : Int32) (z0 : Int32) (p : St) : Prop := ((z0 = 0) → Post p) ∧ ((¬ z0 = 0) → ((x3 < 2) → Post p) ∧ ((¬ x3 < 2) → wpX4_placeOf x1 1 (fun (r3 : Int32) => vp_in r3 86 ∧ vp_in r3 86 ∧ ∀ p4 : St, p4 = p.sA 0 (upd (p.A 0) r3.toNatClampNeg (((p.A 0) r3.toNatClampNeg) ||| x2)) → Post p4)))
def wpX4_pressInto (x1 : Int32) (x2 : Int32) (x3 : Int32) (p : St)  (Post : St → Prop) : Prop := wpX4_placeOf x1 2 (fun (r1 : Int32) => wpX11_dentInto r1 x2 x3 (p.A 0) 86 (fun (p2 : (Nat → Int32)) => ((x1 ≤ (((p.sA 0 p2).A 0) 0)) → wjX4_pressInto_42 Post x1 x2 x3 0 (p.sA 0 p2)) ∧ ((¬ x1 ≤ (((p.sA 0 p2).A 0) 0)) → ((((((p.sA 0 p2).I 4) >>> ((x1 - 1) &&& 31)) &&& 1) = 0) → wjX4_pressInto_42 Post x1 x2 x3 0 (p.sA 0 p2)) ∧ ((¬ ((((p.sA 0 p2).I 4) >>> ((x1 - 1) &&& 31)) &&& 1) = 0) → wjX4_pressInto_42 Post x1 x2 x3 1 (p.sA 0 p2)))))
def wlX4_putNote_71  (Post : Int32 → St → Prop) (KX : Int32 → Int32 → Int32 → Int32 → St → Prop) (self : (Int32 × Int32 × Int32 × Int32 × Int32 × Int32 × St) → Prop) (x2 : Int32) (x3 : Int32) (x4 : Int32) (x5 : Int32) (x6 : Int32) (x7 : Int32) (p : St) : Prop := ((6 ≤ x7) → KX x2 x4 x5 x6 p) ∧ ((¬ 6 ≤ x7) → wpX5_forceOf x2 x3 x7 (fun (r7 : Int32) => vp_in ((x5 * 6) + x7) 60 ∧ ∀ p8 : St, p8 = p.sA 9 (upd (p.A 9) ((x5 * 6) + x7).toNatClampNeg r7) → ∀ x7_9 : Int32, x7_9 = x7 + 1 → self (x2, x3, x4, x5, x6, x7_9, p8)))
def wLX4_putNote_71  (Post : Int32 → St → Prop) (KX : Int32 → Int32 → Int32 → Int32 → St → Prop) : Nat → (Int32 × Int32 × Int32 × Int32 × Int32 × Int32 × St) → Prop := itN (fun self x => wlX4_putNote_71  Post KX self x.1 x.2.1 x.2.2.1 x.2.2.2.1 x.2.2.2.2.1 x.2.2.2.2.2.1 x.2.2.2.2.2.2)
def wlX4_putNote_143  (Post : Int32 → St → Prop) (KX : Int32 → St → Prop) (self : (Int32 × Int32 × Int32 × St) → Prop) (x4 : Int32) (x5 : Int32) (x7 : Int32) (p : St) : Prop := (((p.I 3) ≤ x7) → KX x5 p) ∧ ((¬ (p.I 3) ≤ x7) → wpX4_forceOn x5 x7 p (fun (r17 : Int32) => wpX4_pressInto x7 x4 r17 p (fun (p18 : St) => ∀ x7_19 : Int32, x7_19 = x7 + 1 → self (x4, x5, x7_19, p18))))
def wLX4_putNote_143  (Post : Int32 → St → Prop) (KX : Int32 → St → Prop) : Nat → (Int32 × Int32 × Int32 × St) → Prop := itN (fun self x => wlX4_putNote_143  Post KX self x.1 x.2.1 x.2.2.1 x.2.2.2)
def wpX4_putNote (x2 : Int32) (x3 : Int32) (x4 : Int32) (p : St)  (Post : Int32 → St → Prop) : Prop := ∀ x5_1 : Int32, x5_1 = ((p.A 0) 1) → ∀ x6_2 : Int32, x6_2 = ((p.A 0) 0) → ((10 ≤ x5_1) → Post (-1) p) ∧ ((¬ 10 ≤ x5_1) → ((x6_2 < (p.I 3)) → vp_in x5_1 10 ∧ ∀ p3 : St, p3 = p.sA 5 (upd (p.A 5) x5_1.toNatClampNeg x2) → vp_in x5_1 10 ∧ ∀ p4 : St, p4 = p3.sA 6 (upd (p3.A 6) x5_1.toNatClampNeg x3) → vp_in x5_1 10 ∧ ∀ p5 : St, p5 = p4.sA 7 (upd (p4.A 7) x5_1.toNatClampNeg x4) → vp_in x5_1 10 ∧ ∀ p6 : St, p6 = p5.sA 8 (upd (p5.A 8) x5_1.toNatClampNeg x6_2) → ∃ n, wLX4_putNote_71 Post (fun (y10 : Int32) (y11 : Int32) (y12 : Int32) (y13 : Int32) (p14 : St) => ∀ p15 : St, p15 = p14.sA 0 (upd (p14.A 0) 1 (y12 + 1)) → wpX5_hasInk y10 (fun (r16 : Int32) => ((r16 = 0) → ∃ n, wLX4_putNote_143 Post (fun (y20 : Int32) (p21 : St) => Post y20 p21) n (y11, y12, y13, p15)) ∧ ((¬ r16 = 0) → wpX4_placeOf y13 0 (fun (r22 : Int32) => vp_in r22 86 ∧ vp_in r22 86 ∧ ∀ p23 : St, p23 = p15.sA 0 (upd (p15.A 0) r22.toNatClampNeg (((p15.A 0) r22.toNatClampNeg) ||| y11)) → ∃ n, wLX4_putNote_143 Post (fun (y24 : Int32) (p25 : St) => Post y24 p25) n (y11, y12, y13, p23))))) n (x2, x3, x4, x5_1, x6_2, 0, p6)) ∧ ((¬ x6_2 < (p.I 3)) → Post (-1) p))
def wlX4_writtenOn_4 (p : St) (Post : Int32 → Prop) (KX : Int32 → Prop) (self : (Int32 × Int32 × Int32) → Prop) (x1 : Int32) (x2 : Int32) (x3 : Int32) : Prop := ((((p.A 0) 1) ≤ x3) → KX x2) ∧ ((¬ ((p.A 0) 1) ≤ x3) → vp_in x3 10 ∧ ((¬ ((p.A 8) x3.toNatClampNeg) = x1) → ∀ x3_1 : Int32, x3_1 = x3 + 1 → self (x1, x2, x3_1)) ∧ ((((p.A 8) x3.toNatClampNeg) = x1) → ∀ x2_2 : Int32, x2_2 = (x2 ||| ((1 : Int32) <<< (x3 &&& 31))) → ∀ x3_3 : Int32, x3_3 = x3 + 1 → self (x1, x2_2, x3_3)))
def wLX4_writtenOn_4 (p : St) (Post : Int32 → Prop) (KX : Int32 → Prop) : Nat → (Int32 × Int32 × Int32) → Prop := itN (fun self x => wlX4_writtenOn_4 p Post KX self x.1 x.2.1 x.2.2)
def wpX4_writtenOn (x1 : Int32) (p : St)  (Post : Int32 → Prop) : Prop := ∃ n, wLX4_writtenOn_4 p Post (fun (y4 : Int32) => Post y4) n (x1, 0, 0)
def wpX4_cellsDented (x1 : Int32) (x2 : Int32) (p : St)  (Post : Int32 → Prop) : Prop := wpX4_forceOn x1 x2 p (fun (r1 : Int32) => ((r1 ≤ 0) → Post 0) ∧ ((¬ r1 ≤ 0) → vp_in x1 10 ∧ Post ((p.A 7) x1.toNatClampNeg)))
def wlX4_dentedBy_4 (p : St) (Post : Int32 → Prop) (KX : Int32 → Prop) (self : (Int32 × Int32 × Int32) → Prop) (x1 : Int32) (x2 : Int32) (x3 : Int32) : Prop := ((((p.A 0) 1) ≤ x3) → KX x2) ∧ ((¬ ((p.A 0) 1) ≤ x3) → wpX4_cellsDented x3 x1 p (fun (r1 : Int32) => ((r1 = 0) → ∀ x3_2 : Int32, x3_2 = x3 + 1 → self (x1, x2, x3_2)) ∧ ((¬ r1 = 0) → ∀ x2_3 : Int32, x2_3 = (x2 ||| ((1 : Int32) <<< (x3 &&& 31))) → ∀ x3_4 : Int32, x3_4 = x3 + 1 → self (x1, x2_3, x3_4))))
def wLX4_dentedBy_4 (p : St) (Post : Int32 → Prop) (KX : Int32 → Prop) : Nat → (Int32 × Int32 × Int32) → Prop := itN (fun self x => wlX4_dentedBy_4 p Post KX self x.1 x.2.1 x.2.2)
def wpX4_dentedBy (x1 : Int32) (p : St)  (Post : Int32 → Prop) : Prop := ∃ n, wLX4_dentedBy_4 p Post (fun (y5 : Int32) => Post y5) n (x1, 0, 0)
def wlX4_dentedAtLeast_5 (p : St) (Post : Int32 → Prop) (KX : Int32 → Prop) (self : (Int32 × Int32 × Int32 × Int32) → Prop) (x1 : Int32) (x2 : Int32) (x3 : Int32) (x4 : Int32) : Prop := ((12 ≤ x4) → KX x3) ∧ ((¬ 12 ≤ x4) → wpX4_dentOf x1 x4 p (fun (r1 : Int32) => ((r1 < x2) → ∀ x4_2 : Int32, x4_2 = x4 + 1 → self (x1, x2, x3, x4_2)) ∧ ((¬ r1 < x2) → ∀ x3_3 : Int32, x3_3 = (x3 ||| ((1 : Int32) <<< (x4 &&& 31))) → ∀ x4_4 : Int32, x4_4 = x4 + 1 → self (x1, x2, x3_3, x4_4))))
def wLX4_dentedAtLeast_5 (p : St) (Post : Int32 → Prop) (KX : Int32 → Prop) : Nat → (Int32 × Int32 × Int32 × Int32) → Prop := itN (fun self x => wlX4_dentedAtLeast_5 p Post KX self x.1 x.2.1 x.2.2.1 x.2.2.2)
def wpX4_dentedAtLeast (x1 : Int32) (x2 : Int32) (p : St)  (Post : Int32 → Prop) : Prop := ∃ n, wLX4_dentedAtLeast_5 p Post (fun (y5 : Int32) => Post y5) n (x1, x2, 0, 0)
def wlX4_digestFrom_15 (p : St) (Post : Int64 → Prop) (KX : Int64 → Prop) (self : (Int64 × Int32 × Int32) → Prop) (x3 : Int64) (x5 : Int32) (x6 : Int32) : Prop := ((x5 ≤ x6) → KX x3) ∧ ((¬ x5 ≤ x6) → ((86 ≤ x6) → KX x3) ∧ ((¬ 86 ≤ x6) → vp_in x6 86 ∧ ∀ x3_2 : Int64, x3_2 = ((31 * x3) + ((((p.A 0) x6.toNatClampNeg)).toInt64)) → ∀ x6_3 : Int32, x6_3 = x6 + 1 → self (x3_2, x5, x6_3)))
def wLX4_digestFrom_15 (p : St) (Post : Int64 → Prop) (KX : Int64 → Prop) : Nat → (Int64 × Int32 × Int32) → Prop := itN (fun self x => wlX4_digestFrom_15 p Post KX self x.1 x.2.1 x.2.2)
def wlX4_digestFrom_53 (p : St) (Post : Int64 → Prop) (KX : Int64 → Prop) (self : (Int64 × Int32) → Prop) (x3 : Int64) (x6 : Int32) : Prop := ((((p.A 0) 1) ≤ x6) → KX x3) ∧ ((¬ ((p.A 0) 1) ≤ x6) → vp_in x6 10 ∧ ∀ x3_5 : Int64, x3_5 = ((31 * x3) + ((((p.A 5) x6.toNatClampNeg)).toInt64)) → vp_in x6 10 ∧ ∀ x3_6 : Int64, x3_6 = ((31 * x3_5) + ((((p.A 6) x6.toNatClampNeg)).toInt64)) → vp_in x6 10 ∧ ∀ x3_7 : Int64, x3_7 = ((31 * x3_6) + ((((p.A 7) x6.toNatClampNeg)).toInt64)) → vp_in x6 10 ∧ ∀ x3_8 : Int64, x3_8 = ((31 * x3_7) + ((((p.A 8) x6.toNatClampNeg)).toInt64)) → ∀ x6_9 : Int32, x6_9 = x6 + 1 → self (x3_8, x6_9))
def wLX4_digestFrom_53 (p : St) (Post : Int64 → Prop) (KX : Int64 → Prop) : Nat → (Int64 × Int32) → Prop := itN (fun self x => wlX4_digestFrom_53 p Post KX self x.1 x.2)
def wlX4_digestFrom_133 (p : St) (Post : Int64 → Prop) (KX : Int64 → Prop) (self : (Int64 × Int32) → Prop) (x3 : Int64) (x6 : Int32) : Prop := (((p.I 11) ≤ x6) → KX x3) ∧ ((¬ (p.I 11) ≤ x6) → vp_in x6 8 ∧ ∀ x3_11 : Int64, x3_11 = ((31 * x3) + ((((p.A 10) x6.toNatClampNeg)).toInt64)) → ∀ x6_12 : Int32, x6_12 = x6 + 1 → self (x3_11, x6_12))
def wLX4_digestFrom_133 (p : St) (Post : Int64 → Prop) (KX : Int64 → Prop) : Nat → (Int64 × Int32) → Prop := itN (fun self x => wlX4_digestFrom_133 p Post KX self x.1 x.2)
def wpX4_digestFrom (x1 : Int64) (p : St)  (Post : Int64 → Prop) : Prop := wpX4_placeOf (p.I 3) 0 (fun (r1 : Int32) => ∃ n, wLX4_digestFrom_15 p Post (fun (y4 : Int64) => ∃ n, wLX4_digestFrom_53 p Post (fun (y10 : Int64) => ∃ n, wLX4_digestFrom_133 p Post (fun (y13 : Int64) => Post y13) n (y10, 0)) n (y4, 0)) n (x1, r1, 2))
def wpX7_fault  (p : St)  (Post : Int32 → Prop) : Prop := Post (p.I 4)
def wpX7_isWithin (x1 : Int32) (x2 : Int32) (x3 : Int32) (p : St)  (Post : Int32 → Prop) : Prop := ((x1 < 0) → Post 0) ∧ ((¬ x1 < 0) → (((p.I 1) ≤ x1) → Post 0) ∧ ((¬ (p.I 1) ≤ x1) → vp_in x1 150 ∧ ((((p.A 0) x1.toNatClampNeg) < x2) → Post 0) ∧ ((¬ ((p.A 0) x1.toNatClampNeg) < x2) → vp_in x1 150 ∧ ((x3 < ((p.A 0) x1.toNatClampNeg)) → Post 0) ∧ ((¬ x3 < ((p.A 0) x1.toNatClampNeg)) → Post 1))))
def wlX7_passWord_5  (Post : St → Prop) (KX : St → Prop) (self : (St) → Prop) (p : St) : Prop := (((p.I 1) ≤ (p.I 2)) → KX p) ∧ ((¬ (p.I 1) ≤ (p.I 2)) → wpX7_isWithin (p.I 2) 97 122 p (fun (r2 : Int32) => ((r2 = 0) → KX p) ∧ ((¬ r2 = 0) → ∀ p3 : St, p3 = p.sI 2 ((p.I 2) + 1) → self p3)))
def wLX7_passWord_5  (Post : St → Prop) (KX : St → Prop) : Nat → (St) → Prop := itN (fun self x => wlX7_passWord_5  Post KX self x)
def wpX7_passWord  (p : St)  (Post : St → Prop) : Prop := ∀ p1 : St, p1 = p.sI 3 1 → ∃ n, wLX7_passWord_5 Post (fun (p4 : St) => Post p4) n p1
def wjX7_passFigures_72  (Post : St → Prop) (self : (St) → Prop) (KX : St → Prop) (z0 : Int32) (p : St) : Prop := ∀ p3 : St, p3 = p.sI 5 z0 → ∀ p4 : St, p4 = p3.sI 2 ((p3.I 2) + 1) → self p4
def wlX7_passFigures_5  (Post : St → Prop) (KX : St → Prop) (self : (St) → Prop) (p : St) : Prop := (((p.I 1) ≤ (p.I 2)) → KX p) ∧ ((¬ (p.I 1) ≤ (p.I 2)) → wpX7_isWithin (p.I 2) 48 57 p (fun (r2 : Int32) => ((r2 = 0) → KX p) ∧ ((¬ r2 = 0) → ((2 ≤ ((p.I 2) - (p.I 4))) → wjX7_passFigures_72 Post self KX (p.I 5) p) ∧ ((¬ 2 ≤ ((p.I 2) - (p.I 4))) → vp_in (p.I 2) 150 ∧ wjX7_passFigures_72 Post self KX ((((10 : Int32) * (p.I 5)) + ((p.A 0) (p.I 2).toNatClampNeg)) - 48) p))))
def wLX7_passFigures_5  (Post : St → Prop) (KX : St → Prop) : Nat → (St) → Prop := itN (fun self x => wlX7_passFigures_5  Post KX self x)
def wjX7_passFigures_107  (Post : St → Prop) (z0 : Int32) (p : St) : Prop := ∀ p6 : St, p6 = p.sI 3 z0 → Post p6
def wjX7_passFigures_88  (Post : St → Prop) (p : St) : Prop := ((((p.I 2) - (p.I 4)) ≤ 2) → wjX7_passFigures_107 Post 2 p) ∧ ((¬ ((p.I 2) - (p.I 4)) ≤ 2) → wjX7_passFigures_107 Post 4 p)
def wpX7_passFigures  (p : St)  (Post : St → Prop) : Prop := ∀ p1 : St, p1 = p.sI 5 0 → ∃ n, wLX7_passFigures_5 Post (fun (p5 : St) => wjX7_passFigures_88 Post p5) n p1
def wlX7_step_0  (Post : St → Prop) (KX : St → Prop) (self : (St) → Prop) (p : St) : Prop := (((p.I 1) ≤ (p.I 2)) → KX p) ∧ ((¬ (p.I 1) ≤ (p.I 2)) → vp_in (p.I 2) 150 ∧ ((¬ ((p.A 0) (p.I 2).toNatClampNeg) = 32) → KX p) ∧ ((((p.A 0) (p.I 2).toNatClampNeg) = 32) → ∀ p1 : St, p1 = p.sI 2 ((p.I 2) + 1) → self p1))
def wLX7_step_0  (Post : St → Prop) (KX : St → Prop) : Nat → (St) → Prop := itN (fun self x => wlX7_step_0  Post KX self x)
def wjX7_step_129  (Post : St → Prop) (z0 : Int32) (p : St) : Prop := ∀ p6 : St, p6 = p.sI 3 z0 → ∀ p7 : St, p7 = p6.sI 2 ((p6.I 2) + 1) → Post p7
def wjX7_step_38  (Post : St → Prop) (p : St) : Prop := ∀ p3 : St, p3 = p.sI 4 (p.I 2) → (((p3.I 2) < (p3.I 1)) → wpX7_isWithin (p3.I 2) 97 122 p3 (fun (r4 : Int32) => ((r4 = 0) → wpX7_isWithin (p3.I 2) 48 57 p3 (fun (r5 : Int32) => ((r5 = 0) → vp_in (p3.I 2) 150 ∧ ((¬ ((p3.A 0) (p3.I 2).toNatClampNeg) = 59) → wjX7_step_129 Post 4 p3) ∧ ((((p3.A 0) (p3.I 2).toNatClampNeg) = 59) → wjX7_step_129 Post 3 p3)) ∧ ((¬ r5 = 0) → wpX7_passFigures p3 (fun (p8 : St) => Post p8)))) ∧ ((¬ r4 = 0) → wpX7_passWord p3 (fun (p9 : St) => Post p9)))) ∧ ((¬ (p3.I 2) < (p3.I 1)) → ∀ p10 : St, p10 = p3.sI 3 0 → Post p10)
def wpX7_step  (p : St)  (Post : St → Prop) : Prop := ∃ n, wLX7_step_0 Post (fun (p2 : St) => wjX7_step_38 Post p2) n p
def wlX7_isWord_28 (x1 : Nat) (p : St) (Post : Int32 → Prop) (KX : Prop) (self : (Int32) → Prop) (x2 : Int32) : Prop := x1 < 4 ∧ (((nI (lenS.getD x1 0)) ≤ x2) → KX) ∧ ((¬ (nI (lenS.getD x1 0)) ≤ x2) → vp_in ((p.I 4) + x2) 150 ∧ x1 < 4 ∧ vp_in x2 (lenS.getD x1 0) ∧ ((((p.A 0) ((p.I 4) + x2).toNatClampNeg) = ((bytS.getD x1 []).getD x2.toNatClampNeg 0)) → ∀ x2_1 : Int32, x2_1 = x2 + 1 → self x2_1) ∧ ((¬ ((p.A 0) ((p.I 4) + x2).toNatClampNeg) = ((bytS.getD x1 []).getD x2.toNatClampNeg 0)) → Post 0))
def wLX7_isWord_28 (x1 : Nat) (p : St) (Post : Int32 → Prop) (KX : Prop) : Nat → (Int32) → Prop := itN (fun self x => wlX7_isWord_28 x1 p Post KX self x)
def wpX7_isWord (x1 : Nat) (p : St)  (Post : Int32 → Prop) : Prop := ((¬ (p.I 3) = 1) → Post 0) ∧ (((p.I 3) = 1) → x1 < 4 ∧ ((((p.I 2) - (p.I 4)) = (nI (lenS.getD x1 0))) → ∃ n, wLX7_isWord_28 x1 p Post (Post 1) n 0) ∧ ((¬ ((p.I 2) - (p.I 4)) = (nI (lenS.getD x1 0))) → Post 0))
def wpX7_isNumber (x1 : Int32) (x2 : Int32) (p : St)  (Post : Int32 → Prop) : Prop := ((¬ (p.I 3) = 2) → Post 0) ∧ (((p.I 3) = 2) → (((p.I 5) < x1) → Post 0) ∧ ((¬ (p.I 5) < x1) → ((x2 < (p.I 5)) → Post 0) ∧ ((¬ x2 < (p.I 5)) → Post 1)))
def wpX7_passStop  (p : St)  (Post : Int32 → St → Prop) : Prop := (((p.I 3) = 3) → wpX7_step p (fun (p1 : St) => Post 1 p1)) ∧ ((¬ (p.I 3) = 3) → Post 0 p)
def wpX7_readFirst  (p : St) (q : St)  (Post : Int32 → (St × St) → Prop) : Prop := wpX7_isWord 0 p (fun (r1 : Int32) => ((¬ r1 = 0) → wpX7_step p (fun (p2 : St) => wpX7_isNumber 1 6 p2 (fun (r3 : Int32) => ((¬ r3 = 0) → wpX4_beginAnew (p2.I 5) q (fun (p4 : St) => wpX7_step p2 (fun (p5 : St) => wpX7_passStop p5 (fun (r6 : Int32) (p7 : St) => vb r6 ∧ Post r6 (p7, p4))))) ∧ ((r3 = 0) → Post 0 (p2, q))))) ∧ ((r1 = 0) → Post 0 (p, q)))
def wpX7_readCarbon  (p : St) (q : St)  (Post : Int32 → (St × St) → Prop) : Prop := wpX7_step p (fun (p1 : St) => wpX7_isNumber 0 ((q.I 3) - 1) p1 (fun (r2 : Int32) => ((¬ r2 = 0) → ∀ p3 : St, p3 = q.sI 4 ((q.I 4) ||| ((1 : Int32) <<< ((p1.I 5) &&& 31))) → wpX7_step p1 (fun (p4 : St) => wpX7_passStop p4 (fun (r5 : Int32) (p6 : St) => vb r5 ∧ Post r5 (p6, p3)))) ∧ ((r2 = 0) → Post 0 (p1, q))))
def wpX7_readPen  (p : St)  (Post : Int32 → St → Prop) : Prop := wpX7_isNumber 0 5 p (fun (r1 : Int32) => ((¬ r1 = 0) → ∀ p2 : St, p2 = p.sI 6 (p.I 5) → wpX7_step p2 (fun (p3 : St) => wpX7_isNumber 1 9 p3 (fun (r4 : Int32) => ((¬ r4 = 0) → ∀ p5 : St, p5 = p3.sI 7 (p3.I 5) → wpX7_step p5 (fun (p6 : St) => Post 1 p6)) ∧ ((r4 = 0) → Post 0 p3)))) ∧ ((r1 = 0) → Post 0 p))
def wlX7_readCells_6  (Post : Int32 → St → Prop) (KX : Int32 → St → Prop) (self : (Int32 × Int32 × Int32 × St) → Prop) (x1 : Int32) (x2 : Int32) (x3 : Int32) (p : St) : Prop := ((12 ≤ x3) → KX x1 p) ∧ ((¬ 12 ≤ x3) → wpX7_isNumber x2 11 p (fun (r1 : Int32) => ((r1 = 0) → KX x1 p) ∧ ((¬ r1 = 0) → ∀ x1_2 : Int32, x1_2 = (x1 ||| ((1 : Int32) <<< ((p.I 5) &&& 31))) → ∀ x2_3 : Int32, x2_3 = ((p.I 5) + 1) → wpX7_step p (fun (p4 : St) => ∀ x3_5 : Int32, x3_5 = x3 + 1 → self (x1_2, x2_3, x3_5, p4)))))
def wLX7_readCells_6  (Post : Int32 → St → Prop) (KX : Int32 → St → Prop) : Nat → (Int32 × Int32 × Int32 × St) → Prop := itN (fun self x => wlX7_readCells_6  Post KX self x.1 x.2.1 x.2.2.1 x.2.2.2)
def wpX7_readCells  (p : St)  (Post : Int32 → St → Prop) : Prop := ∃ n, wLX7_readCells_6 Post (fun (y6 : Int32) (p7 : St) => Post y6 p7) n (0, 0, 0, p)
def wjX7_readItem_115  (Post : Int32 → (St × St) → Prop) (p : St) (q : St) : Prop := wpX7_passStop p (fun (r12 : Int32) (p13 : St) => vb r12 ∧ Post r12 (p13, q))
def wjX7_readItem_56  (Post : Int32 → (St × St) → Prop) (x3 : Int32) (p : St) (q : St) : Prop := wpX4_isUsedUp q (fun (r4 : Int32) => ((r4 = 0) → wpX7_step p (fun (p5 : St) => ((x3 = 0) → wpX7_readPen p5 (fun (r6 : Int32) (p7 : St) => ((r6 = 0) → Post 0 (p7, q)) ∧ ((¬ r6 = 0) → wpX7_readCells p7 (fun (r8 : Int32) (p9 : St) => wpX4_putNote (p9.I 6) (p9.I 7) r8 q (fun (r10 : Int32) (p11 : St) => wjX7_readItem_115 Post p9 p11))))) ∧ ((¬ x3 = 0) → wpX4_tearTop q (fun (r14 : Int32) (p15 : St) => wjX7_readItem_115 Post p5 p15)))) ∧ ((¬ r4 = 0) → Post 0 (p, q)))
def wjX7_readItem_45  (Post : Int32 → (St × St) → Prop) (x3 : Int32) (z0 : Int32) (p : St) (q : St) : Prop := ((¬ x3 = 0) → wjX7_readItem_56 Post x3 p q) ∧ ((x3 = 0) → ((z0 = 0) → Post 0 (p, q)) ∧ ((¬ z0 = 0) → wjX7_readItem_56 Post x3 p q))
def wpX7_readItem  (p : St) (q : St)  (Post : Int32 → (St × St) → Prop) : Prop := wpX7_isWord 1 p (fun (r1 : Int32) => ((r1 = 0) → wpX7_isWord 2 p (fun (r2 : Int32) => wpX7_isWord 3 p (fun (r3 : Int32) => ((r3 = 0) → wjX7_readItem_45 Post r2 0 p q) ∧ ((¬ r3 = 0) → wpX4_noteCount q (fun (r16 : Int32) => ((10 ≤ r16) → wjX7_readItem_45 Post r2 0 p q) ∧ ((¬ 10 ≤ r16) → wjX7_readItem_45 Post r2 1 p q)))))) ∧ ((¬ r1 = 0) → wpX7_readCarbon p q (fun (r17 : Int32) (u : (St × St)) => ∀ (p18 : St) (p19 : St), u = (p18, p19) → vb r17 ∧ Post r17 (p18, p19))))
def wlX7_readInto_24  (Post : Int32 → (St × St) → Prop) (KX : Int32 → St → St → Prop) (self : (Int32 × Int32 × St × St) → Prop) (x3 : Int32) (x4 : Int32) (p : St) (q : St) : Prop := ((150 < x4) → KX x3 p q) ∧ ((¬ 150 < x4) → (((p.I 3) = 0) → KX x3 p q) ∧ ((¬ (p.I 3) = 0) → wpX7_readItem p q (fun (r6 : Int32) (u : (St × St)) => ∀ (p7 : St) (p8 : St), u = (p7, p8) → ((¬ r6 = 0) → ∀ x3_9 : Int32, x3_9 = x3 + 1 → ∀ x4_10 : Int32, x4_10 = x4 + 1 → self (x3_9, x4_10, p7, p8)) ∧ ((r6 = 0) → Post (-1) (p7, p8)))))
def wLX7_readInto_24  (Post : Int32 → (St × St) → Prop) (KX : Int32 → St → St → Prop) : Nat → (Int32 × Int32 × St × St) → Prop := itN (fun self x => wlX7_readInto_24  Post KX self x.1 x.2.1 x.2.2.1 x.2.2.2)
def wpX7_readInto  (p : St) (q : St)  (Post : Int32 → (St × St) → Prop) : Prop := ∀ p1 : St, p1 = p.sI 2 0 → wpX7_step p1 (fun (p2 : St) => wpX7_readFirst p2 q (fun (r3 : Int32) (u : (St × St)) => ∀ (p4 : St) (p5 : St), u = (p4, p5) → ((¬ r3 = 0) → ∃ n, wLX7_readInto_24 Post (fun (y11 : Int32) (p12 : St) (p13 : St) => Post y11 (p12, p13)) n (1, 0, p4, p5)) ∧ ((r3 = 0) → Post (-1) (p4, p5))))
def wpX8_sheetAt (x1 : Int32) (p : St)  (Post : Int32 → Prop) : Prop := ((x1 < 0) → Post (-1)) ∧ ((¬ x1 < 0) → ((6 ≤ x1) → Post (-1)) ∧ ((¬ 6 ≤ x1) → vp_in x1 6 ∧ Post ((p.A 0) x1.toNatClampNeg)))
def wlX8_mayLie_3 (q : St) (Post : Int32 → St → Prop) (KX : Int32 → Int32 → Int32 → St → Prop) (self : (Int32 × Int32 × Int32 × Int32 × St) → Prop) (x2 : Int32) (x3 : Int32) (x4 : Int32) (x5 : Int32) (p : St) : Prop := ((10 ≤ x5) → KX x2 x3 x4 p) ∧ ((¬ 10 ≤ x5) → vp_in x5 10 ∧ ∀ p1 : St, p1 = p.sA 3 (upd (p.A 3) x5.toNatClampNeg 0) → ∀ x5_2 : Int32, x5_2 = x5 + 1 → self (x2, x3, x4, x5_2, p1))
def wLX8_mayLie_3 (q : St) (Post : Int32 → St → Prop) (KX : Int32 → Int32 → Int32 → St → Prop) : Nat → (Int32 × Int32 × Int32 × Int32 × St) → Prop := itN (fun self x => wlX8_mayLie_3 q Post KX self x.1 x.2.1 x.2.2.1 x.2.2.2.1 x.2.2.2.2)
def wlX8_mayLie_27 (q : St) (Post : Int32 → St → Prop) (KX : Int32 → St → Prop) (self : (Int32 × Int32 × Int32 × Int32 × St) → Prop) (x2 : Int32) (x3 : Int32) (x4 : Int32) (x5 : Int32) (p : St) : Prop := wpX4_noteCount q (fun (r7 : Int32) => ((r7 ≤ x5) → KX x2 p) ∧ ((¬ r7 ≤ x5) → vp_in x5 10 ∧ ∀ x6_8 : Int32, x6_8 = ((q.A 8) x5.toNatClampNeg) → ((((x4 >>> (x6_8 &&& 31)) &&& 1) = 0) → ∀ x5_9 : Int32, x5_9 = x5 + 1 → self (x2, x3, x4, x5_9, p)) ∧ ((¬ ((x4 >>> (x6_8 &&& 31)) &&& 1) = 0) → vp_in x6_8 6 ∧ wpX4_forceDown x5 (x3 - ((p.A 1) x6_8.toNatClampNeg)) q (fun (r10 : Int32) => vp_in r10 10 ∧ vp_in x5 10 ∧ vp_in r10 10 ∧ ∀ p11 : St, p11 = p.sA 3 (upd (p.A 3) r10.toNatClampNeg (((p.A 3) r10.toNatClampNeg) ||| ((q.A 7) x5.toNatClampNeg))) → ∀ x5_12 : Int32, x5_12 = x5 + 1 → self (x2, x3, x4, x5_12, p11)))))
def wLX8_mayLie_27 (q : St) (Post : Int32 → St → Prop) (KX : Int32 → St → Prop) : Nat → (Int32 × Int32 × Int32 × Int32 × St) → Prop := itN (fun self x => wlX8_mayLie_27 q Post KX self x.1 x.2.1 x.2.2.1 x.2.2.2.1 x.2.2.2.2)
def wlX8_mayLie_98 (q : St) (Post : Int32 → St → Prop) (KX : St → Prop) (self : (Int32 × Int32 × Int32 × St) → Prop) (x2 : Int32) (x5 : Int32) (x6 : Int32) (p : St) : Prop := ((x6 < 1) → KX p) ∧ ((¬ x6 < 1) → vp_in x6 10 ∧ ∀ x5_15 : Int32, x5_15 = (x5 ||| ((p.A 3) x6.toNatClampNeg)) → vp_in ((x2 * 10) + x6) 60 ∧ ((x5_15 = ((p.A 2) ((x2 * 10) + x6).toNatClampNeg)) → ∀ x6_16 : Int32, x6_16 = x6 + (-1) → self (x2, x5_15, x6_16, p)) ∧ ((¬ x5_15 = ((p.A 2) ((x2 * 10) + x6).toNatClampNeg)) → Post 0 p))
def wLX8_mayLie_98 (q : St) (Post : Int32 → St → Prop) (KX : St → Prop) : Nat → (Int32 × Int32 × Int32 × St) → Prop := itN (fun self x => wlX8_mayLie_98 q Post KX self x.1 x.2.1 x.2.2.1 x.2.2.2)
def wpX8_mayLie (x2 : Int32) (x3 : Int32) (x4 : Int32) (p : St) (q : St)  (Post : Int32 → St → Prop) : Prop := ∃ n, wLX8_mayLie_3 q Post (fun (y3 : Int32) (y4 : Int32) (y5 : Int32) (p6 : St) => ∃ n, wLX8_mayLie_27 q Post (fun (y13 : Int32) (p14 : St) => ∃ n, wLX8_mayLie_98 q Post (fun (p17 : St) => Post 1 p17) n (y13, 0, 9, p14)) n (y3, y4, y5, 0, p6)) n (x2, x3, x4, 1, p)
def wjX8_layFrom_14 (rec : Int32 → Int32 → Int32 → St → St → (St → Prop) → Prop) (q : St) (Post : St → Prop) (p : St) : Prop := ∀ p1 : St, p1 = p.sI 4 ((p.I 4) + 1) → Post p1
def wlX8_layFrom_28 (rec : Int32 → Int32 → Int32 → St → St → (St → Prop) → Prop) (q : St) (Post : St → Prop) (KX : St → Prop) (self : (Int32 × Int32 × Int32 × Int32 × St) → Prop) (x2 : Int32) (x3 : Int32) (x4 : Int32) (x5 : Int32) (p : St) : Prop := (((q.I 3) ≤ x5) → KX p) ∧ ((¬ (q.I 3) ≤ x5) → ((x4 ≤ (p.I 4)) → KX p) ∧ ((¬ x4 ≤ (p.I 4)) → ((¬ ((x3 >>> (x5 &&& 31)) &&& 1) = 0) → ∀ x5_2 : Int32, x5_2 = x5 + 1 → self (x2, x3, x4, x5_2, p)) ∧ ((((x3 >>> (x5 &&& 31)) &&& 1) = 0) → vp_in x2 6 ∧ ∀ p3 : St, p3 = p.sA 0 (upd (p.A 0) x2.toNatClampNeg x5) → vp_in x5 6 ∧ ∀ p4 : St, p4 = p3.sA 1 (upd (p3.A 1) x5.toNatClampNeg x2) → wpX8_mayLie x5 x2 (x3 ||| ((1 : Int32) <<< (x5 &&& 31))) p4 q (fun (r5 : Int32) (p6 : St) => ((r5 = 0) → ∀ x5_7 : Int32, x5_7 = x5 + 1 → self (x2, x3, x4, x5_7, p6)) ∧ ((¬ r5 = 0) → rec (x2 + 1) (x3 ||| ((1 : Int32) <<< (x5 &&& 31))) x4 p6 q (fun (p8 : St) => ∀ x5_9 : Int32, x5_9 = x5 + 1 → self (x2, x3, x4, x5_9, p8)))))))
def wLX8_layFrom_28 (rec : Int32 → Int32 → Int32 → St → St → (St → Prop) → Prop) (q : St) (Post : St → Prop) (KX : St → Prop) : Nat → (Int32 × Int32 × Int32 × Int32 × St) → Prop := itN (fun self x => wlX8_layFrom_28 rec q Post KX self x.1 x.2.1 x.2.2.1 x.2.2.2.1 x.2.2.2.2)
def wbX8_layFrom (rec : Int32 → Int32 → Int32 → St → St → (St → Prop) → Prop) (x2 : Int32) (x3 : Int32) (x4 : Int32) (p : St) (q : St) (Post : St → Prop) : Prop := (((q.I 3) ≤ x2) → wjX8_layFrom_14 rec q Post p) ∧ ((¬ (q.I 3) ≤ x2) → ((x2 < 6) → ∃ n, wLX8_layFrom_28 rec q Post (fun (p10 : St) => Post p10) n (x2, x3, x4, 0, p)) ∧ ((¬ x2 < 6) → wjX8_layFrom_14 rec q Post p))
def wpX8_layFrom : Nat → Int32 → Int32 → Int32 → St → St → (St → Prop) → Prop
  | 0 => fun _ _ _ _ _ _ => False
  | d + 1 => wbX8_layFrom (wpX8_layFrom d)
def wlX8_search_13 (q : St) (Post : Int32 → St → Prop) (KX : Int32 → Int32 → St → Prop) (self : (Int32 × Int32 × Int32 × St) → Prop) (x2 : Int32) (x3 : Int32) (x4 : Int32) (p : St) : Prop := ((10 ≤ x4) → KX x2 x3 p) ∧ ((¬ 10 ≤ x4) → wpX4_dentedAtLeast x3 x4 q (fun (r1 : Int32) => vp_in ((x3 * 10) + x4) 60 ∧ ∀ p2 : St, p2 = p.sA 2 (upd (p.A 2) ((x3 * 10) + x4).toNatClampNeg r1) → ∀ x4_3 : Int32, x4_3 = x4 + 1 → self (x2, x3, x4_3, p2)))
def wLX8_search_13 (q : St) (Post : Int32 → St → Prop) (KX : Int32 → Int32 → St → Prop) : Nat → (Int32 × Int32 × Int32 × St) → Prop := itN (fun self x => wlX8_search_13 q Post KX self x.1 x.2.1 x.2.2.1 x.2.2.2)
def wlX8_search_2 (q : St) (Post : Int32 → St → Prop) (KX : Int32 → St → Prop) (self : (Int32 × Int32 × St) → Prop) (x2 : Int32) (x3 : Int32) (p : St) : Prop := (((q.I 3) ≤ x3) → KX x2 p) ∧ ((¬ (q.I 3) ≤ x3) → ∃ n, wLX8_search_13 q Post (fun (y4 : Int32) (y5 : Int32) (p6 : St) => ∀ x3_7 : Int32, x3_7 = y5 + 1 → self (y4, x3_7, p6)) n (x2, x3, 1, p))
def wLX8_search_2 (q : St) (Post : Int32 → St → Prop) (KX : Int32 → St → Prop) : Nat → (Int32 × Int32 × St) → Prop := itN (fun self x => wlX8_search_2 q Post KX self x.1 x.2.1 x.2.2)
def wpX8_search (x2 : Int32) (p : St) (q : St)  (Post : Int32 → St → Prop) : Prop := ∃ n, wLX8_search_2 q Post (fun (y8 : Int32) (p9 : St) => ∀ p10 : St, p10 = p9.sI 4 0 → wpX8_layFrom 7 0 0 y8 p10 q (fun (p11 : St) => Post (p11.I 4) p11)) n (x2, 0, p)
def wpX11_bad (x1 : Int32) (t : Nat → St)  (Post : Int32 → (Nat → St) → Prop) : Prop := ∀ t1 : Nat → St, t1 = upS t 0 ((t 0).sI 12 (((t 0).I 12) + 1)) → Post x1 t1
def wjX11_pad_11  (Post : Int32 → (Nat → St) → Prop) (t : Nat → St) : Prop := wpX11_bad (-2) t (fun (r1 : Int32) (t2 : Nat → St) => Post r1 t2)
def wpX11_pad (x1 : Int32) (t : Nat → St)  (Post : Int32 → (Nat → St) → Prop) : Prop := ((x1 < 1) → wjX11_pad_11 Post t) ∧ ((¬ x1 < 1) → ((x1 ≤ 6) → ∀ x2_3 : Int32, x2_3 = ((t 2).I 3) → wpX4_beginAnew x1 (t 2) (fun (p4 : St) => ∀ t5 : Nat → St, t5 = upS t 2 p4 → Post x2_3 t5)) ∧ ((¬ x1 ≤ 6) → wjX11_pad_11 Post t))
def wpX11_carbons (x1 : Int32) (t : Nat → St)  (Post : Int32 → (Nat → St) → Prop) : Prop := wpX4_hasSheets x1 (t 2) (fun (r1 : Int32) => ((¬ r1 = 0) → ∀ x2_2 : Int32, x2_2 = ((t 2).I 4) → ∀ t3 : Nat → St, t3 = upS t 2 ((t 2).sI 4 x1) → Post x2_2 t3) ∧ ((r1 = 0) → wpX11_bad (-2) t (fun (r4 : Int32) (t5 : Nat → St) => Post r4 t5)))
def wpX11_isPen (x0 : Int32) (x1 : Int32)   (Post : Int32 → Prop) : Prop := ((x0 < 0) → Post 0) ∧ ((¬ x0 < 0) → ((6 ≤ x0) → Post 0) ∧ ((¬ 6 ≤ x0) → ((x1 < 1) → Post 0) ∧ ((¬ x1 < 1) → ((9 < x1) → Post 0) ∧ ((¬ 9 < x1) → Post 1))))
def wpX11_isCells (x0 : Int32)   (Post : Int32 → Prop) : Prop := ((x0 < 0) → Post 0) ∧ ((¬ x0 < 0) → ((4096 ≤ x0) → Post 0) ∧ ((¬ 4096 ≤ x0) → Post 1))
def wpX11_no  (t : Nat → St)  (Post : Int32 → (Nat → St) → Prop) : Prop := ∀ t1 : Nat → St, t1 = upS t 0 ((t 0).sI 13 (((t 0).I 13) + 1)) → Post (-3) t1
def wpX11_full  (t : Nat → St)  (Post : Int32 → (Nat → St) → Prop) : Prop := ∀ t1 : Nat → St, t1 = upS t 0 ((t 0).sI 14 (((t 0).I 14) + 1)) → Post (-4) t1
def wjX11_write_15  (Post : Int32 → (Nat → St) → Prop) (t : Nat → St) : Prop := wpX11_bad (-2) t (fun (r2 : Int32) (t3 : Nat → St) => Post r2 t3)
def wpX11_write (x1 : Int32) (x2 : Int32) (x3 : Int32) (t : Nat → St)  (Post : Int32 → (Nat → St) → Prop) : Prop := wpX11_isPen x1 x2 (fun (r1 : Int32) => ((r1 = 0) → wjX11_write_15 Post t) ∧ ((¬ r1 = 0) → wpX11_isCells x3 (fun (r4 : Int32) => ((¬ r4 = 0) → wpX4_isUsedUp (t 2) (fun (r5 : Int32) => ((r5 = 0) → wpX4_noteCount (t 2) (fun (r6 : Int32) => ((r6 < 10) → wpX4_keepForUndo (t 2) (fun (p7 : St) => ∀ t8 : Nat → St, t8 = upS t 2 p7 → wpX4_putNote x1 x2 x3 (t8 2) (fun (r9 : Int32) (p10 : St) => ∀ t11 : Nat → St, t11 = upS t8 2 p10 → Post r9 t11))) ∧ ((¬ r6 < 10) → wpX11_full t (fun (r12 : Int32) (t13 : Nat → St) => Post r12 t13)))) ∧ ((¬ r5 = 0) → wpX11_no t (fun (r14 : Int32) (t15 : Nat → St) => Post r14 t15)))) ∧ ((r4 = 0) → wjX11_write_15 Post t))))
def wpX11_tear  (t : Nat → St)  (Post : Int32 → (Nat → St) → Prop) : Prop := wpX4_isUsedUp (t 2) (fun (r1 : Int32) => ((r1 = 0) → wpX4_keepForUndo (t 2) (fun (p2 : St) => ∀ t3 : Nat → St, t3 = upS t 2 p2 → wpX4_tearTop (t3 2) (fun (r4 : Int32) (p5 : St) => ∀ t6 : Nat → St, t6 = upS t3 2 p5 → Post r4 t6))) ∧ ((¬ r1 = 0) → wpX11_no t (fun (r7 : Int32) (t8 : Nat → St) => Post r7 t8)))
def wpX11_undo  (t : Nat → St)  (Post : Int32 → (Nat → St) → Prop) : Prop := ((0 < ((t 2).I 2)) → wpX4_goBack (t 2) (fun (p1 : St) => ∀ t2 : Nat → St, t2 = upS t 2 p1 → wpX4_noteCount (t2 2) (fun (r3 : Int32) => Post r3 t2))) ∧ ((¬ 0 < ((t 2).I 2)) → wpX11_no t (fun (r4 : Int32) (t5 : Nat → St) => Post r4 t5))
def wpX11_word (x1 : Int32) (t : Nat → St)  (Post : Int32 → (Nat → St) → Prop) : Prop := wpX11_isCells x1 (fun (r1 : Int32) => ((¬ r1 = 0) → ((((t 2).I 11) < 8) → vp_in ((t 2).I 11) 8 ∧ ∀ t2 : Nat → St, t2 = upS t 2 ((t 2).sA 10 (upd ((t 2).A 10) ((t 2).I 11).toNatClampNeg x1)) → ∀ t3 : Nat → St, t3 = upS t2 2 ((t2 2).sI 11 (((t2 2).I 11) + 1)) → Post (((t3 2).I 11) - 1) t3) ∧ ((¬ ((t 2).I 11) < 8) → wpX11_full t (fun (r4 : Int32) (t5 : Nat → St) => Post r4 t5))) ∧ ((r1 = 0) → wpX11_bad (-2) t (fun (r6 : Int32) (t7 : Nat → St) => Post r6 t7)))
def wpX11_forget  (t : Nat → St)  (Post : Int32 → (Nat → St) → Prop) : Prop := ∀ x1_1 : Int32, x1_1 = ((t 2).I 11) → ∀ t2 : Nat → St, t2 = upS t 2 ((t 2).sI 11 0) → Post x1_1 t2
def wjX11_type_10  (Post : Int32 → (Nat → St) → Prop) (t : Nat → St) : Prop := wpX11_bad (-2) t (fun (r1 : Int32) (t2 : Nat → St) => Post r1 t2)
def wpX11_type (x1 : Int32) (t : Nat → St)  (Post : Int32 → (Nat → St) → Prop) : Prop := ((x1 < 0) → wjX11_type_10 Post t) ∧ ((¬ x1 < 0) → ((x1 ≤ 127) → ((((t 8).I 1) < 150) → vp_in ((t 8).I 1) 150 ∧ ∀ t3 : Nat → St, t3 = upS t 8 ((t 8).sA 0 (upd ((t 8).A 0) ((t 8).I 1).toNatClampNeg x1)) → ∀ t4 : Nat → St, t4 = upS t3 8 ((t3 8).sI 1 (((t3 8).I 1) + 1)) → Post ((t4 8).I 1) t4) ∧ ((¬ ((t 8).I 1) < 150) → wpX11_full t (fun (r5 : Int32) (t6 : Nat → St) => Post r5 t6))) ∧ ((¬ x1 ≤ 127) → wjX11_type_10 Post t))
def wpX11_clear  (t : Nat → St)  (Post : Int32 → (Nat → St) → Prop) : Prop := ∀ x1_1 : Int32, x1_1 = ((t 8).I 1) → ∀ t2 : Nat → St, t2 = upS t 8 ((t 8).sI 1 0) → Post x1_1 t2
def wpX11_read  (t : Nat → St)  (Post : Int32 → (Nat → St) → Prop) : Prop := wpX7_readInto (t 8) (t 3) (fun (r1 : Int32) (u : (St × St)) => ∀ (p2 : St) (p3 : St), u = (p2, p3) → ∀ t4 : Nat → St, t4 = upS (upS t 8 p2) 3 p3 → ((0 ≤ r1) → wpX4_copyFrom (t4 2) (t4 3) (fun (p5 : St) => ∀ t6 : Nat → St, t6 = upS t4 2 p5 → Post r1 t6)) ∧ ((¬ 0 ≤ r1) → wpX7_fault (t4 8) (fun (r7 : Int32) => Post (((-10) : Int32) - r7) t4)))
def wpX11_of (x1 : Int32) (x2 : Int32) (t : Nat → St)  (Post : Int32 → (Nat → St) → Prop) : Prop := wpX4_hasSheet x1 (t 2) (fun (r1 : Int32) => ((¬ r1 = 0) → (x2 = 0 → wpX4_inkOf x1 (t 2) (fun (r2 : Int32) => Post r2 t)) ∧ (x2 = 1 → wpX4_copyOf x1 (t 2) (fun (r3 : Int32) => Post r3 t)) ∧ (x2 = 2 → wpX4_top (t 2) (fun (r4 : Int32) => ((r4 ≤ x1) → wpX4_top (t 2) (fun (r5 : Int32) => Post (x1 - r5) t)) ∧ ((¬ r4 ≤ x1) → Post (-1) t))) ∧ (x2 = 3 → wpX4_writtenOn x1 (t 2) (fun (r6 : Int32) => Post r6 t)) ∧ (¬ x2 = 0 → ¬ x2 = 1 → ¬ x2 = 2 → ¬ x2 = 3 → wpX11_bad (-10) t (fun (r7 : Int32) (t8 : Nat → St) => Post r7 t8))) ∧ ((r1 = 0) → wpX11_bad (-10) t (fun (r9 : Int32) (t10 : Nat → St) => Post r9 t10)))
def wjX11_dent_21  (Post : Int32 → (Nat → St) → Prop) (t : Nat → St) : Prop := wpX11_bad (-2) t (fun (r2 : Int32) (t3 : Nat → St) => Post r2 t3)
def wpX11_dent (x1 : Int32) (x2 : Int32) (t : Nat → St)  (Post : Int32 → (Nat → St) → Prop) : Prop := wpX4_hasSheet x1 (t 2) (fun (r1 : Int32) => ((r1 = 0) → wjX11_dent_21 Post t) ∧ ((¬ r1 = 0) → ((x2 < 0) → wjX11_dent_21 Post t) ∧ ((¬ x2 < 0) → ((x2 < 12) → wpX4_dentOf x1 x2 (t 2) (fun (r4 : Int32) => Post r4 t)) ∧ ((¬ x2 < 12) → wjX11_dent_21 Post t))))
def wpX11_about (x1 : Int32) (x2 : Int32) (t : Nat → St)  (Post : Int32 → (Nat → St) → Prop) : Prop := wpX4_hasNote x1 (t 2) (fun (r1 : Int32) => ((¬ r1 = 0) → (x2 = 0 → vp_in x1 10 ∧ Post (((t 2).A 5) x1.toNatClampNeg) t) ∧ (x2 = 1 → vp_in x1 10 ∧ Post (((t 2).A 6) x1.toNatClampNeg) t) ∧ (x2 = 2 → vp_in x1 10 ∧ Post (((t 2).A 7) x1.toNatClampNeg) t) ∧ (x2 = 3 → vp_in x1 10 ∧ Post (((t 2).A 8) x1.toNatClampNeg) t) ∧ (x2 = 4 → vp_in x1 10 ∧ wpX4_forceOn x1 (((t 2).A 8) x1.toNatClampNeg) (t 2) (fun (r2 : Int32) => Post r2 t)) ∧ (x2 = 5 → vp_in x1 10 ∧ wpX5_hasInk (((t 2).A 5) x1.toNatClampNeg) (fun (r3 : Int32) => ((r3 = 0) → Post 0 t) ∧ ((¬ r3 = 0) → Post 1 t))) ∧ (¬ x2 = 0 → ¬ x2 = 1 → ¬ x2 = 2 → ¬ x2 = 3 → ¬ x2 = 4 → ¬ x2 = 5 → wpX11_bad (-2) t (fun (r4 : Int32) (t5 : Nat → St) => Post r4 t5))) ∧ ((r1 = 0) → wpX11_bad (-2) t (fun (r6 : Int32) (t7 : Nat → St) => Post r6 t7)))
def wpX11_isDepth (x0 : Int32)   (Post : Int32 → Prop) : Prop := ((x0 < 0) → Post 0) ∧ ((¬ x0 < 0) → ((6 ≤ x0) → Post 0) ∧ ((¬ 6 ≤ x0) → Post 1))
def wjX11_force_15  (Post : Int32 → (Nat → St) → Prop) (t : Nat → St) : Prop := wpX11_bad (-2) t (fun (r2 : Int32) (t3 : Nat → St) => Post r2 t3)
def wpX11_force (x1 : Int32) (x2 : Int32) (x3 : Int32) (t : Nat → St)  (Post : Int32 → (Nat → St) → Prop) : Prop := wpX11_isPen x1 x2 (fun (r1 : Int32) => ((r1 = 0) → wjX11_force_15 Post t) ∧ ((¬ r1 = 0) → wpX11_isDepth x3 (fun (r4 : Int32) => ((¬ r4 = 0) → wpX5_forceOf x1 x2 x3 (fun (r5 : Int32) => Post r5 t)) ∧ ((r4 = 0) → wjX11_force_15 Post t))))
def wpX11_whose (x1 : Int32) (t : Nat → St)  (Post : Int32 → (Nat → St) → Prop) : Prop := wpX4_hasSheet x1 (t 2) (fun (r1 : Int32) => ((r1 = 0) → wpX11_bad (-2) t (fun (r2 : Int32) (t3 : Nat → St) => Post r2 t3)) ∧ ((¬ r1 = 0) → wpX4_dentedBy x1 (t 2) (fun (r4 : Int32) => Post r4 t)))
def wjX11_own_22  (Post : Int32 → (Nat → St) → Prop) (t : Nat → St) : Prop := wpX11_bad (-2) t (fun (r2 : Int32) (t3 : Nat → St) => Post r2 t3)
def wlX11_own_34  (Post : Int32 → (Nat → St) → Prop) (KX : Int32 → Int32 → Int32 → (Nat → St) → Prop) (self : (Int32 × Int32 × Int32 × Int32 × (Nat → St)) → Prop) (x1 : Int32) (x2 : Int32) (x3 : Int32) (x4 : Int32) (t : Nat → St) : Prop := wpX4_noteCount (t 2) (fun (r5 : Int32) => ((r5 ≤ x4) → KX x1 x2 x3 t) ∧ ((¬ r5 ≤ x4) → ((x4 = x1) → ∀ x4_6 : Int32, x4_6 = x4 + 1 → self (x1, x2, x3, x4_6, t)) ∧ ((¬ x4 = x1) → wpX4_cellsDented x4 x2 (t 2) (fun (r7 : Int32) => ∀ x3_8 : Int32, x3_8 = (x3 ||| r7) → ∀ x4_9 : Int32, x4_9 = x4 + 1 → self (x1, x2, x3_8, x4_9, t)))))
def wLX11_own_34  (Post : Int32 → (Nat → St) → Prop) (KX : Int32 → Int32 → Int32 → (Nat → St) → Prop) : Nat → (Int32 × Int32 × Int32 × Int32 × (Nat → St)) → Prop := itN (fun self x => wlX11_own_34  Post KX self x.1 x.2.1 x.2.2.1 x.2.2.2.1 x.2.2.2.2)
def wpX11_own (x1 : Int32) (x2 : Int32) (t : Nat → St)  (Post : Int32 → (Nat → St) → Prop) : Prop := wpX4_hasNote x1 (t 2) (fun (r1 : Int32) => ((r1 = 0) → wjX11_own_22 Post t) ∧ ((¬ r1 = 0) → wpX4_hasSheet x2 (t 2) (fun (r4 : Int32) => ((¬ r4 = 0) → ∃ n, wLX11_own_34 Post (fun (y10 : Int32) (y11 : Int32) (y12 : Int32) (t13 : Nat → St) => wpX4_cellsDented y10 y11 (t13 2) (fun (r14 : Int32) => Post (r14 &&& (y12 ^^^ (-1))) t13)) n (x1, x2, 0, 0, t)) ∧ ((r4 = 0) → wjX11_own_22 Post t))))
def wjX11_shown_22  (Post : Int32 → (Nat → St) → Prop) (t : Nat → St) : Prop := wpX11_bad (-2) t (fun (r2 : Int32) (t3 : Nat → St) => Post r2 t3)
def wpX11_shown (x1 : Int32) (x2 : Int32) (t : Nat → St)  (Post : Int32 → (Nat → St) → Prop) : Prop := wpX4_hasSheet x1 (t 2) (fun (r1 : Int32) => ((r1 = 0) → wjX11_shown_22 Post t) ∧ ((¬ r1 = 0) → ((x2 < 1) → wjX11_shown_22 Post t) ∧ ((¬ x2 < 1) → ((x2 ≤ 9) → wpX4_dentedAtLeast x1 x2 (t 2) (fun (r4 : Int32) => Post r4 t)) ∧ ((¬ x2 ≤ 9) → wjX11_shown_22 Post t))))
def wpJ6_bitCount_0f7a4 (x0 : Int32)   (Post : Int32 → Prop) : Prop := ∀ x0_1 : Int32, x0_1 = (x0 - (((x0.toUInt32 >>> ((1 : Int32).toUInt32 &&& Int32.toUInt32 31)).toInt32) &&& 1431655765)) → ∀ x0_2 : Int32, x0_2 = ((x0_1 &&& 858993459) + (((x0_1.toUInt32 >>> ((2 : Int32).toUInt32 &&& Int32.toUInt32 31)).toInt32) &&& 858993459)) → ∀ x0_3 : Int32, x0_3 = ((x0_2 + ((x0_2.toUInt32 >>> ((4 : Int32).toUInt32 &&& Int32.toUInt32 31)).toInt32)) &&& 252645135) → ∀ x0_4 : Int32, x0_4 = (x0_3 + ((x0_3.toUInt32 >>> ((8 : Int32).toUInt32 &&& Int32.toUInt32 31)).toInt32)) → ∀ x0_5 : Int32, x0_5 = (x0_4 + ((x0_4.toUInt32 >>> ((16 : Int32).toUInt32 &&& Int32.toUInt32 31)).toInt32)) → Post (x0_5 &&& 63)
def wlX11_wordsThatFit_4 (t : Nat → St) (Post : Int32 → Prop) (KX : Int32 → Prop) (self : (Int32 × Int32) → Prop) (x1 : Int32) (x2 : Int32) : Prop := ((((t 2).I 11) ≤ x2) → KX x1) ∧ ((¬ ((t 2).I 11) ≤ x2) → vp_in x2 8 ∧ wpX2_isFit (((t 2).A 10) x2.toNatClampNeg) (t 6) (fun (r1 : Int32) => ((r1 = 0) → ∀ x2_2 : Int32, x2_2 = x2 + 1 → self (x1, x2_2)) ∧ ((¬ r1 = 0) → ∀ x1_3 : Int32, x1_3 = (x1 ||| ((1 : Int32) <<< (x2 &&& 31))) → ∀ x2_4 : Int32, x2_4 = x2 + 1 → self (x1_3, x2_4))))
def wLX11_wordsThatFit_4 (t : Nat → St) (Post : Int32 → Prop) (KX : Int32 → Prop) : Nat → (Int32 × Int32) → Prop := itN (fun self x => wlX11_wordsThatFit_4 t Post KX self x.1 x.2)
def wpX11_wordsThatFit  (t : Nat → St)  (Post : Int32 → Prop) : Prop := ∃ n, wLX11_wordsThatFit_4 t Post (fun (y5 : Int32) => Post y5) n (0, 0)
def wjX11_lost_62  (Post : Int32 → (Nat → St) → Prop) (t : Nat → St) : Prop := wpX11_bad (-10) t (fun (r2 : Int32) (t3 : Nat → St) => Post r2 t3)
def wjX11_lost_36  (Post : Int32 → (Nat → St) → Prop) (x1 : Int32) (x2 : Int32) (x3 : Int32) (x4 : Int32) (x5 : Int32) (x6 : Int32) (z0 : Int32) (t : Nat → St) : Prop := ((z0 = 0) → wjX11_lost_62 Post t) ∧ ((¬ z0 = 0) → wpX11_isDepth x5 (fun (r4 : Int32) => ((r4 = 0) → wjX11_lost_62 Post t) ∧ ((¬ r4 = 0) → ((x6 < 0) → wjX11_lost_62 Post t) ∧ ((¬ x6 < 0) → ((x6 ≤ 3) → wpX2_look x1 x2 (t 6) (t 2) (fun (p5 : St) => ∀ t6 : Nat → St, t6 = upS t 6 p5 → wpX5_forceOf x3 x4 x5 (fun (r7 : Int32) => wpX2_guess r7 (t6 6) (fun (r8 : Int32) (p9 : St) => ∀ t10 : Nat → St, t10 = upS t6 6 p9 → ((¬ r8 = 0) → (x6 = 0 → Post ((t10 6).I 2) t10) ∧ (x6 = 1 → Post ((t10 6).I 3) t10) ∧ (x6 = 2 → wpJ6_bitCount_0f7a4 (((t10 6).I 3) &&& (((t10 6).I 2) ^^^ (-1))) (fun (r11 : Int32) => Post ((1 : Int32) <<< (r11 &&& 31)) t10)) ∧ (¬ x6 = 0 → ¬ x6 = 1 → ¬ x6 = 2 → wpX11_wordsThatFit t10 (fun (r12 : Int32) => Post r12 t10))) ∧ ((r8 = 0) → ((2 ≤ x6) → Post 0 t10) ∧ ((¬ 2 ≤ x6) → Post (-1) t10)))))) ∧ ((¬ x6 ≤ 3) → wjX11_lost_62 Post t)))))
def wpX11_lost (x1 : Int32) (x2 : Int32) (x3 : Int32) (x4 : Int32) (x5 : Int32) (x6 : Int32) (t : Nat → St)  (Post : Int32 → (Nat → St) → Prop) : Prop := wpX4_hasSheet x1 (t 2) (fun (r1 : Int32) => ((r1 = 0) → wjX11_lost_36 Post x1 x2 x3 x4 x5 x6 0 t) ∧ ((¬ r1 = 0) → wpX4_hasNotes x2 (t 2) (fun (r13 : Int32) => ((r13 = 0) → wjX11_lost_36 Post x1 x2 x3 x4 x5 x6 0 t) ∧ ((¬ r13 = 0) → wpX11_isPen x3 x4 (fun (r14 : Int32) => ((r14 = 0) → wjX11_lost_36 Post x1 x2 x3 x4 x5 x6 0 t) ∧ ((¬ r14 = 0) → wjX11_lost_36 Post x1 x2 x3 x4 x5 x6 1 t))))))
def wjX11_pen_65  (Post : Int32 → (Nat → St) → Prop) (t : Nat → St) : Prop := wpX11_bad (-10) t (fun (r2 : Int32) (t3 : Nat → St) => Post r2 t3)
def wlX11_pen_104  (Post : Int32 → (Nat → St) → Prop) (KX : Int32 → Int32 → Int32 → Int32 → Int32 → Int32 → (Nat → St) → Prop) (self : (Int32 × Int32 × Int32 × Int32 × Int32 × Int32 × Int32 × (Nat → St)) → Prop) (x3 : Int32) (x4 : Int32) (x5 : Int32) (x7 : Int32) (x8 : Int32) (x9 : Int32) (x10 : Int32) (t : Nat → St) : Prop := ((9 < x10) → KX x3 x4 x5 x7 x8 x9 t) ∧ ((¬ 9 < x10) → wpX5_forceOf x9 x10 x3 (fun (r8 : Int32) => wpX2_guess r8 (t 6) (fun (r9 : Int32) (p10 : St) => ∀ t11 : Nat → St, t11 = upS t 6 p10 → ((r9 = 0) → ∀ x10_12 : Int32, x10_12 = x10 + 1 → self (x3, x4, x5, x7, x8, x9, x10_12, t11)) ∧ ((¬ r9 = 0) → wpX2_isFit x4 (t11 6) (fun (r13 : Int32) => ((r13 = 0) → ∀ x10_14 : Int32, x10_14 = x10 + 1 → self (x3, x4, x5, x7, x8, x9, x10_14, t11)) ∧ ((¬ r13 = 0) → ∀ x7_15 : Int32, x7_15 = x7 + 1 → ((¬ x8 = (-1)) → ∀ x10_16 : Int32, x10_16 = x10 + 1 → self (x3, x4, x5, x7_15, x8, x9, x10_16, t11)) ∧ ((x8 = (-1)) → ∀ x8_17 : Int32, x8_17 = (((10 : Int32) * x9) + x10) → ∀ x10_18 : Int32, x10_18 = x10 + 1 → self (x3, x4, x5, x7_15, x8_17, x9, x10_18, t11))))))))
def wLX11_pen_104  (Post : Int32 → (Nat → St) → Prop) (KX : Int32 → Int32 → Int32 → Int32 → Int32 → Int32 → (Nat → St) → Prop) : Nat → (Int32 × Int32 × Int32 × Int32 × Int32 × Int32 × Int32 × (Nat → St)) → Prop := itN (fun self x => wlX11_pen_104  Post KX self x.1 x.2.1 x.2.2.1 x.2.2.2.1 x.2.2.2.2.1 x.2.2.2.2.2.1 x.2.2.2.2.2.2.1 x.2.2.2.2.2.2.2)
def wlX11_pen_94  (Post : Int32 → (Nat → St) → Prop) (KX : Int32 → Int32 → Int32 → (Nat → St) → Prop) (self : (Int32 × Int32 × Int32 × Int32 × Int32 × Int32 × (Nat → St)) → Prop) (x3 : Int32) (x4 : Int32) (x5 : Int32) (x7 : Int32) (x8 : Int32) (x9 : Int32) (t : Nat → St) : Prop := ((6 ≤ x9) → KX x5 x7 x8 t) ∧ ((¬ 6 ≤ x9) → ∃ n, wLX11_pen_104 Post (fun (y19 : Int32) (y20 : Int32) (y21 : Int32) (y22 : Int32) (y23 : Int32) (y24 : Int32) (t25 : Nat → St) => ∀ x9_26 : Int32, x9_26 = y24 + 1 → self (y19, y20, y21, y22, y23, x9_26, t25)) n (x3, x4, x5, x7, x8, x9, 1, t))
def wLX11_pen_94  (Post : Int32 → (Nat → St) → Prop) (KX : Int32 → Int32 → Int32 → (Nat → St) → Prop) : Nat → (Int32 × Int32 × Int32 × Int32 × Int32 × Int32 × (Nat → St)) → Prop := itN (fun self x => wlX11_pen_94  Post KX self x.1 x.2.1 x.2.2.1 x.2.2.2.1 x.2.2.2.2.1 x.2.2.2.2.2.1 x.2.2.2.2.2.2)
def wjX11_pen_34  (Post : Int32 → (Nat → St) → Prop) (x1 : Int32) (x2 : Int32) (x3 : Int32) (x4 : Int32) (x5 : Int32) (z0 : Int32) (t : Nat → St) : Prop := ((z0 = 0) → wjX11_pen_65 Post t) ∧ ((¬ z0 = 0) → wpX11_isCells x4 (fun (r4 : Int32) => ((r4 = 0) → wjX11_pen_65 Post t) ∧ ((¬ r4 = 0) → ((x4 = 0) → wjX11_pen_65 Post t) ∧ ((¬ x4 = 0) → ((x5 < 0) → wjX11_pen_65 Post t) ∧ ((¬ x5 < 0) → ((x5 ≤ 1) → wpX2_look x1 x2 (t 6) (t 2) (fun (p5 : St) => ∀ t6 : Nat → St, t6 = upS t 6 p5 → ∀ x8_7 : Int32, x8_7 = (-1) → ∃ n, wLX11_pen_94 Post (fun (y27 : Int32) (y28 : Int32) (y29 : Int32) (t30 : Nat → St) => ((¬ y27 = 0) → Post y29 t30) ∧ ((y27 = 0) → Post y28 t30)) n (x3, x4, x5, 0, x8_7, 0, t6))) ∧ ((¬ x5 ≤ 1) → wjX11_pen_65 Post t))))))
def wpX11_pen (x1 : Int32) (x2 : Int32) (x3 : Int32) (x4 : Int32) (x5 : Int32) (t : Nat → St)  (Post : Int32 → (Nat → St) → Prop) : Prop := wpX4_hasSheet x1 (t 2) (fun (r1 : Int32) => ((r1 = 0) → wjX11_pen_34 Post x1 x2 x3 x4 x5 0 t) ∧ ((¬ r1 = 0) → wpX4_hasNotes x2 (t 2) (fun (r31 : Int32) => ((r31 = 0) → wjX11_pen_34 Post x1 x2 x3 x4 x5 0 t) ∧ ((¬ r31 = 0) → wpX11_isDepth x3 (fun (r32 : Int32) => ((r32 = 0) → wjX11_pen_34 Post x1 x2 x3 x4 x5 0 t) ∧ ((¬ r32 = 0) → wjX11_pen_34 Post x1 x2 x3 x4 x5 1 t))))))
def wpX11_orders (x1 : Int32) (t : Nat → St)  (Post : Int32 → (Nat → St) → Prop) : Prop := (((-1) ≤ x1) → ((¬ x1 = (-1)) → ((x1 < ((t 2).I 3)) → wpX8_search 1 (t 7) (t 2) (fun (r1 : Int32) (p2 : St) => ∀ t3 : Nat → St, t3 = upS t 7 p2 → ((¬ r1 = 0) → wpX8_sheetAt x1 (t3 7) (fun (r4 : Int32) => Post r4 t3)) ∧ ((r1 = 0) → Post (-1) t3))) ∧ ((¬ x1 < ((t 2).I 3)) → Post (-5) t)) ∧ ((x1 = (-1)) → wpX8_search 720 (t 7) (t 2) (fun (r5 : Int32) (p6 : St) => ∀ t7 : Nat → St, t7 = upS t 7 p6 → Post r5 t7))) ∧ ((¬ (-1) ≤ x1) → wpX11_bad (-10) t (fun (r8 : Int32) (t9 : Nat → St) => Post r8 t9))
def wjX11_press_22  (Post : Int32 → (Nat → St) → Prop) (t : Nat → St) : Prop := wpX11_bad (-2) t (fun (r1 : Int32) (t2 : Nat → St) => Post r1 t2)
def wlX11_press_31  (Post : Int32 → (Nat → St) → Prop) (KX : (Nat → St) → Prop) (self : (Int32 × Int32 × Int32 × (Nat → St)) → Prop) (x1 : Int32) (x2 : Int32) (x3 : Int32) (t : Nat → St) : Prop := ((9 < x3) → KX t) ∧ ((¬ 9 < x3) → wpX5_forceOf x1 x3 x2 (fun (r4 : Int32) => ((r4 < 2) → ∀ x3_5 : Int32, x3_5 = x3 + 1 → self (x1, x2, x3_5, t)) ∧ ((¬ r4 < 2) → Post x3 t)))
def wLX11_press_31  (Post : Int32 → (Nat → St) → Prop) (KX : (Nat → St) → Prop) : Nat → (Int32 × Int32 × Int32 × (Nat → St)) → Prop := itN (fun self x => wlX11_press_31  Post KX self x.1 x.2.1 x.2.2.1 x.2.2.2)
def wpX11_press (x1 : Int32) (x2 : Int32) (t : Nat → St)  (Post : Int32 → (Nat → St) → Prop) : Prop := ((x1 < 0) → wjX11_press_22 Post t) ∧ ((¬ x1 < 0) → ((6 ≤ x1) → wjX11_press_22 Post t) ∧ ((¬ 6 ≤ x1) → ((x2 < 1) → wjX11_press_22 Post t) ∧ ((¬ x2 < 1) → wpX11_isDepth x2 (fun (r3 : Int32) => ((¬ r3 = 0) → ∃ n, wLX11_press_31 Post (fun (t6 : Nat → St) => Post (-1) t6) n (x1, x2, 1, t)) ∧ ((r3 = 0) → wjX11_press_22 Post t)))))
def wjX11_copies_62  (Post : Int32 → (Nat → St) → Prop) (t : Nat → St) : Prop := wpX11_bad (-10) t (fun (r4 : Int32) (t5 : Nat → St) => Post r4 t5)
def wlX11_copies_81  (Post : Int32 → (Nat → St) → Prop) (KX : Int32 → Int32 → (Nat → St) → Prop) (self : (Int32 × Int32 × Int32 × Int32 × Int32 × Int32 × (Nat → St)) → Prop) (x1 : Int32) (x2 : Int32) (x3 : Int32) (x4 : Int32) (x7 : Int32) (x8 : Int32) (t : Nat → St) : Prop := ((((t 2).I 3) ≤ x8) → KX x4 x7 t) ∧ ((¬ ((t 2).I 3) ≤ x8) → ((((x1 >>> (x8 &&& 31)) &&& 1) = 0) → ∀ x8_7 : Int32, x8_7 = x8 + 1 → self (x1, x2, x3, x4, x7, x8_7, t)) ∧ ((¬ ((x1 >>> (x8 &&& 31)) &&& 1) = 0) → wpX4_top (t 2) (fun (r8 : Int32) => ∀ x9_9 : Int32, x9_9 = (x8 - r8) → ((x9_9 = 0) → Post (-1) t) ∧ ((¬ x9_9 = 0) → wpX5_forceOf x2 x3 x9_9 (fun (r10 : Int32) => ((2 ≤ r10) → ∀ x7_11 : Int32, x7_11 = (x7 ||| ((1 : Int32) <<< ((x8 - 1) &&& 31))) → ∀ x8_12 : Int32, x8_12 = x8 + 1 → self (x1, x2, x3, x4, x7_11, x8_12, t)) ∧ ((¬ 2 ≤ r10) → Post (-1) t))))))
def wLX11_copies_81  (Post : Int32 → (Nat → St) → Prop) (KX : Int32 → Int32 → (Nat → St) → Prop) : Nat → (Int32 × Int32 × Int32 × Int32 × Int32 × Int32 × (Nat → St)) → Prop := itN (fun self x => wlX11_copies_81  Post KX self x.1 x.2.1 x.2.2.1 x.2.2.2.1 x.2.2.2.2.1 x.2.2.2.2.2.1 x.2.2.2.2.2.2)
def wjX11_copies_44  (Post : Int32 → (Nat → St) → Prop) (x1 : Int32) (x2 : Int32) (x3 : Int32) (x4 : Int32) (z0 : Int32) (t : Nat → St) : Prop := ((z0 = 0) → wjX11_copies_62 Post t) ∧ ((¬ z0 = 0) → ((x4 < 0) → wjX11_copies_62 Post t) ∧ ((¬ x4 < 0) → ((x4 ≤ 1) → wpX4_top (t 2) (fun (r6 : Int32) => ∃ n, wLX11_copies_81 Post (fun (y13 : Int32) (y14 : Int32) (t15 : Nat → St) => ∀ x8_16 : Int32, x8_16 = (y14 &&& (((t15 2).I 4) ^^^ (-1))) → ((¬ y13 = 0) → Post x8_16 t15) ∧ ((y13 = 0) → wpJ6_bitCount_0f7a4 x8_16 (fun (r17 : Int32) => Post r17 t15))) n (x1, x2, x3, x4, 0, r6, t))) ∧ ((¬ x4 ≤ 1) → wjX11_copies_62 Post t)))
def wpX11_copies (x1 : Int32) (x2 : Int32) (x3 : Int32) (x4 : Int32) (t : Nat → St)  (Post : Int32 → (Nat → St) → Prop) : Prop := wpX4_top (t 2) (fun (r1 : Int32) => ∀ x5_2 : Int32, x5_2 = (((1 : Int32) <<< (r1 &&& 31)) - 1) → wpX4_hasSheets x1 (t 2) (fun (r3 : Int32) => ((r3 = 0) → wjX11_copies_44 Post x1 x2 x3 x4 0 t) ∧ ((¬ r3 = 0) → ((¬ (x1 &&& x5_2) = 0) → wjX11_copies_44 Post x1 x2 x3 x4 0 t) ∧ (((x1 &&& x5_2) = 0) → wpX11_isPen x2 x3 (fun (r18 : Int32) => ((r18 = 0) → wjX11_copies_44 Post x1 x2 x3 x4 0 t) ∧ ((¬ r18 = 0) → wjX11_copies_44 Post x1 x2 x3 x4 1 t))))))
def wlX11_keepFraction_9  (Post : (Nat → St) → Prop) (KX : Int64 → Int64 → Int64 → (Nat → St) → Prop) (self : (Int64 × Int64 × Int64 × Int64 × Int32 × (Nat → St)) → Prop) (x1 : Int64) (x3 : Int64) (x5 : Int64) (x7 : Int64) (x9 : Int32) (t : Nat → St) : Prop := ((128 ≤ x9) → KX x1 x3 x5 t) ∧ ((¬ 128 ≤ x9) → (((lg_cmp x7 0) = 0) → KX x1 x3 x5 t) ∧ ((¬ (lg_cmp x7 0) = 0) → ¬ x7 = 0 ∧ ∀ x10_1 : Int64, x10_1 = (x5 - x5 / x7 * x7) → ∀ x9_2 : Int32, x9_2 = x9 + 1 → self (x1, x3, x7, x10_1, x9_2, t)))
def wLX11_keepFraction_9  (Post : (Nat → St) → Prop) (KX : Int64 → Int64 → Int64 → (Nat → St) → Prop) : Nat → (Int64 × Int64 × Int64 × Int64 × Int32 × (Nat → St)) → Prop := itN (fun self x => wlX11_keepFraction_9  Post KX self x.1 x.2.1 x.2.2.1 x.2.2.2.1 x.2.2.2.2.1 x.2.2.2.2.2)
def wjX11_keepFraction_45  (Post : (Nat → St) → Prop) (x1 : Int64) (x3 : Int64) (x5 : Int64) (t : Nat → St) : Prop := (((lg_cmp x5 0) ≤ 0) → Post t) ∧ ((¬ (lg_cmp x5 0) ≤ 0) → ¬ x5 = 0 ∧ ∀ t7 : Nat → St, t7 = upS t 0 ((t 0).sL 10 (x1 / x5)) → ¬ x5 = 0 ∧ ∀ t8 : Nat → St, t8 = upS t7 0 ((t7 0).sL 11 (x3 / x5)) → Post t8)
def wpX11_keepFraction (x1 : Int64) (x3 : Int64) (t : Nat → St)  (Post : (Nat → St) → Prop) : Prop := ∃ n, wLX11_keepFraction_9 Post (fun (y3 : Int64) (y4 : Int64) (y5 : Int64) (t6 : Nat → St) => wjX11_keepFraction_45 Post y3 y4 y5 t6) n (x1, x3, x1, x3, 0, t)
def wjX11_rub_27  (Post : Int32 → (Nat → St) → Prop) (t : Nat → St) : Prop := wpX11_bad (-2) t (fun (r2 : Int32) (t3 : Nat → St) => Post r2 t3)
def wjX11_rub_106  (Post : Int32 → (Nat → St) → Prop) (self : (Int32 × Int32 × Int32 × Int64 × Int64 × Int32 × (Nat → St)) → Prop) (KX : Int64 → Int64 → (Nat → St) → Prop) (x1 : Int32) (x2 : Int32) (x3 : Int32) (x6 : Int64) (x8 : Int32) (z0 : Int64) (z1 : Int64) (t : Nat → St) : Prop := ∀ x4_6 : Int64, x4_6 = (z1 * z0) → ∀ x6_7 : Int64, x6_7 = (x6 * 10) → ∀ x8_8 : Int32, x8_8 = x8 + 1 → self (x1, x2, x3, x4_6, x6_7, x8_8, t)
def wjX11_rub_87  (Post : Int32 → (Nat → St) → Prop) (self : (Int32 × Int32 × Int32 × Int64 × Int64 × Int32 × (Nat → St)) → Prop) (KX : Int64 → Int64 → (Nat → St) → Prop) (x1 : Int32) (x2 : Int32) (x3 : Int32) (x4 : Int64) (x6 : Int64) (x8 : Int32) (x9 : Int32) (x10 : Int32) (t : Nat → St) : Prop := ((x10 = 0) → wjX11_rub_106 Post self KX x1 x2 x3 x6 x8 ((((10 : Int32) - x9)).toInt64) x4 t) ∧ ((¬ x10 = 0) → wjX11_rub_106 Post self KX x1 x2 x3 x6 x8 (x9.toInt64) x4 t)
def wjX11_rub_76  (Post : Int32 → (Nat → St) → Prop) (self : (Int32 × Int32 × Int32 × Int64 × Int64 × Int32 × (Nat → St)) → Prop) (KX : Int64 → Int64 → (Nat → St) → Prop) (x1 : Int32) (x2 : Int32) (x3 : Int32) (x4 : Int64) (x6 : Int64) (x8 : Int32) (x9 : Int32) (z0 : Int32) (t : Nat → St) : Prop := ((¬ z0 = 0) → wjX11_rub_87 Post self KX x1 x2 x3 x4 x6 x8 x9 z0 t) ∧ ((z0 = 0) → ((¬ x3 = 0) → ∀ x8_9 : Int32, x8_9 = x8 + 1 → self (x1, x2, x3, x4, x6, x8_9, t)) ∧ ((x3 = 0) → wjX11_rub_87 Post self KX x1 x2 x3 x4 x6 x8 x9 z0 t))
def wlX11_rub_43  (Post : Int32 → (Nat → St) → Prop) (KX : Int64 → Int64 → (Nat → St) → Prop) (self : (Int32 × Int32 × Int32 × Int64 × Int64 × Int32 × (Nat → St)) → Prop) (x1 : Int32) (x2 : Int32) (x3 : Int32) (x4 : Int64) (x6 : Int64) (x8 : Int32) (t : Nat → St) : Prop := ((12 ≤ x8) → KX x4 x6 t) ∧ ((¬ 12 ≤ x8) → wpX4_dentOf x1 x8 (t 2) (fun (r5 : Int32) => ((((x2 >>> (x8 &&& 31)) &&& 1) = 0) → wjX11_rub_76 Post self KX x1 x2 x3 x4 x6 x8 r5 0 t) ∧ ((¬ ((x2 >>> (x8 &&& 31)) &&& 1) = 0) → wjX11_rub_76 Post self KX x1 x2 x3 x4 x6 x8 r5 1 t)))
def wLX11_rub_43  (Post : Int32 → (Nat → St) → Prop) (KX : Int64 → Int64 → (Nat → St) → Prop) : Nat → (Int32 × Int32 × Int32 × Int64 × Int64 × Int32 × (Nat → St)) → Prop := itN (fun self x => wlX11_rub_43  Post KX self x.1 x.2.1 x.2.2.1 x.2.2.2.1 x.2.2.2.2.1 x.2.2.2.2.2.1 x.2.2.2.2.2.2)
def wpX11_rub (x1 : Int32) (x2 : Int32) (x3 : Int32) (t : Nat → St)  (Post : Int32 → (Nat → St) → Prop) : Prop := wpX4_hasSheet x1 (t 2) (fun (r1 : Int32) => ((r1 = 0) → wjX11_rub_27 Post t) ∧ ((¬ r1 = 0) → wpX11_isCells x2 (fun (r4 : Int32) => ((r4 = 0) → wjX11_rub_27 Post t) ∧ ((¬ r4 = 0) → ((x3 < 0) → wjX11_rub_27 Post t) ∧ ((¬ x3 < 0) → ((x3 ≤ 1) → ∃ n, wLX11_rub_43 Post (fun (y10 : Int64) (y11 : Int64) (t12 : Nat → St) => wpX11_keepFraction y10 y11 t12 (fun (t13 : Nat → St) => Post 1 t13)) n (x1, x2, x3, 1, 1, 0, t)) ∧ ((¬ x3 ≤ 1) → wjX11_rub_27 Post t))))))
def wlX11_torn_26  (Post : Int32 → (Nat → St) → Prop) (KX : (Nat → St) → Prop) (self : (Int32 × Int32 × (Nat → St)) → Prop) (x1 : Int32) (x2 : Int32) (t : Nat → St) : Prop := ((((t 2).I 3) ≤ x2) → KX t) ∧ ((¬ ((t 2).I 3) ≤ x2) → wpX4_dentedBy x2 (t 2) (fun (r3 : Int32) => ((¬ (r3 &&& x1) = 0) → ∀ x2_4 : Int32, x2_4 = x2 + 1 → self (x1, x2_4, t)) ∧ (((r3 &&& x1) = 0) → wpX4_top (t 2) (fun (r5 : Int32) => Post (x2 - r5) t))))
def wLX11_torn_26  (Post : Int32 → (Nat → St) → Prop) (KX : (Nat → St) → Prop) : Nat → (Int32 × Int32 × (Nat → St)) → Prop := itN (fun self x => wlX11_torn_26  Post KX self x.1 x.2.1 x.2.2)
def wpX11_torn (x1 : Int32) (t : Nat → St)  (Post : Int32 → (Nat → St) → Prop) : Prop := wpX4_hasNotes x1 (t 2) (fun (r1 : Int32) => ((¬ r1 = 0) → wpX4_top (t 2) (fun (r2 : Int32) => ∃ n, wLX11_torn_26 Post (fun (t6 : Nat → St) => Post (-1) t6) n (x1, r2, t))) ∧ ((r1 = 0) → wpX11_bad (-2) t (fun (r7 : Int32) (t8 : Nat → St) => Post r7 t8)))
def wpX11_nextDraw (x0 : Int64)   (Post : Int64 → Prop) : Prop := Post (((x0 * 1103515245) + 12345) - ((x0 * 1103515245) + 12345) / 2147483648 * 2147483648)
def wpX11_drawOf (x0 : Int64) (x2 : Int32)   (Post : Int32 → Prop) : Prop := ((0 < x2) → ¬ (x2.toInt64) = 0 ∧ Post (((x0 / 65536) - (x0 / 65536) / (x2.toInt64) * (x2.toInt64)).toInt32)) ∧ ((¬ 0 < x2) → Post 0)
def wlX11_sumOfLast_4 (t : Nat → St) (Post : Int32 → Prop) (KX : Int32 → Prop) (self : (Int32 × Int32) → Prop) (x1 : Int32) (x2 : Int32) : Prop := ((12 ≤ x2) → KX x1) ∧ ((¬ 12 ≤ x2) → vp_in x2 12 ∧ ∀ x1_1 : Int32, x1_1 = (x1 + (((t 0).A 8) x2.toNatClampNeg)) → ∀ x2_2 : Int32, x2_2 = x2 + 1 → self (x1_1, x2_2))
def wLX11_sumOfLast_4 (t : Nat → St) (Post : Int32 → Prop) (KX : Int32 → Prop) : Nat → (Int32 × Int32) → Prop := itN (fun self x => wlX11_sumOfLast_4 t Post KX self x.1 x.2)
def wpX11_sumOfLast  (t : Nat → St)  (Post : Int32 → Prop) : Prop := ∃ n, wLX11_sumOfLast_4 t Post (fun (y3 : Int32) => Post y3) n (0, 0)
def wjX11_drawn_20  (Post : Int32 → (Nat → St) → Prop) (t : Nat → St) : Prop := wpX11_bad (-2) t (fun (r1 : Int32) (t2 : Nat → St) => Post r1 t2)
def wlX11_drawn_61  (Post : Int32 → (Nat → St) → Prop) (KX : Int32 → Int32 → Int32 → Int32 → (Nat → St) → Prop) (self : (Int32 × Int32 × Int32 × Int32 × Int32 × (Nat → St)) → Prop) (x1 : Int32) (x2 : Int32) (x3 : Int32) (x4 : Int32) (x5 : Int32) (t : Nat → St) : Prop := ((12 ≤ x5) → KX x1 x2 x3 x4 t) ∧ ((¬ 12 ≤ x5) → wpX4_dentOf x3 x5 (t 2) (fun (r6 : Int32) => vp_in x5 12 ∧ ∀ t7 : Nat → St, t7 = upS t 0 ((t 0).sA 8 (upd ((t 0).A 8) x5.toNatClampNeg r6)) → ∀ x5_8 : Int32, x5_8 = x5 + 1 → self (x1, x2, x3, x4, x5_8, t7)))
def wLX11_drawn_61  (Post : Int32 → (Nat → St) → Prop) (KX : Int32 → Int32 → Int32 → Int32 → (Nat → St) → Prop) : Nat → (Int32 × Int32 × Int32 × Int32 × Int32 × (Nat → St)) → Prop := itN (fun self x => wlX11_drawn_61  Post KX self x.1 x.2.1 x.2.2.1 x.2.2.2.1 x.2.2.2.2.1 x.2.2.2.2.2)
def wlX11_drawn_98  (Post : Int32 → (Nat → St) → Prop) (KX : (Nat → St) → Prop) (self : (Int32 × Int32 × Int32 × Int64 × Int32 × (Nat → St)) → Prop) (x2 : Int32) (x3 : Int32) (x4 : Int32) (x5 : Int64) (x7 : Int32) (t : Nat → St) : Prop := ((x2 < x7) → KX t) ∧ ((¬ x2 < x7) → wpX11_nextDraw x5 (fun (r15 : Int64) => wpX11_drawOf r15 6 (fun (r16 : Int32) => wpX11_nextDraw r15 (fun (r17 : Int64) => wpX11_drawOf r17 9 (fun (r18 : Int32) => ∀ x9_19 : Int32, x9_19 = ((1 : Int32) + r18) → wpX11_nextDraw r17 (fun (r20 : Int64) => wpX11_drawOf r20 4096 (fun (r21 : Int32) => wpX5_forceOf r16 x9_19 (x3 - x4) (fun (r22 : Int32) => wpX11_dentInto 0 r21 r22 ((t 0).A 8) 12 (fun (p23 : (Nat → Int32)) => ∀ t24 : Nat → St, t24 = upS t 0 ((t 0).sA 8 p23) → ((¬ (x7 - x7 / 3 * 3) = 0) → ∀ x7_25 : Int32, x7_25 = x7 + 1 → self (x2, x3, x4, r20, x7_25, t24)) ∧ (((x7 - x7 / 3 * 3) = 0) → ((x3 ≤ x4) → ∀ x7_26 : Int32, x7_26 = x7 + 1 → self (x2, x3, x4, r20, x7_26, t24)) ∧ ((¬ x3 ≤ x4) → ∀ x4_27 : Int32, x4_27 = x4 + 1 → ∀ x7_28 : Int32, x7_28 = x7 + 1 → self (x2, x3, x4_27, r20, x7_28, t24))))))))))))
def wLX11_drawn_98  (Post : Int32 → (Nat → St) → Prop) (KX : (Nat → St) → Prop) : Nat → (Int32 × Int32 × Int32 × Int64 × Int32 × (Nat → St)) → Prop := itN (fun self x => wlX11_drawn_98  Post KX self x.1 x.2.1 x.2.2.1 x.2.2.2.1 x.2.2.2.2.1 x.2.2.2.2.2)
def wpX11_drawn (x1 : Int32) (x2 : Int32) (t : Nat → St)  (Post : Int32 → (Nat → St) → Prop) : Prop := ((x1 < 0) → wjX11_drawn_20 Post t) ∧ ((¬ x1 < 0) → ((999999 < x1) → wjX11_drawn_20 Post t) ∧ ((¬ 999999 < x1) → ((x2 < 0) → wjX11_drawn_20 Post t) ∧ ((¬ x2 < 0) → ((x2 ≤ 20) → wpX4_isUsedUp (t 2) (fun (r3 : Int32) => ((r3 = 0) → ∀ x3_4 : Int32, x3_4 = (((t 2).I 3) - 1) → wpX4_top (t 2) (fun (r5 : Int32) => ∃ n, wLX11_drawn_61 Post (fun (y9 : Int32) (y10 : Int32) (y11 : Int32) (y12 : Int32) (t13 : Nat → St) => ∀ x5_14 : Int64, x5_14 = (y9.toInt64) → ∃ n, wLX11_drawn_98 Post (fun (t29 : Nat → St) => wpX11_sumOfLast t29 (fun (r30 : Int32) => Post r30 t29)) n (y10, y11, y12, x5_14, 1, t13)) n (x1, x2, x3_4, r5, 0, t))) ∧ ((¬ r3 = 0) → Post (-1) t))) ∧ ((¬ x2 ≤ 20) → wjX11_drawn_20 Post t))))
def wjX11_part_9  (Post : Int64 → (Nat → St) → Prop) (t : Nat → St) : Prop := wpX11_bad (-2) t (fun (r1 : Int32) (t2 : Nat → St) => Post (r1.toInt64) t2)
def wpX11_part (x1 : Int32) (t : Nat → St)  (Post : Int64 → (Nat → St) → Prop) : Prop := ((x1 < 0) → wjX11_part_9 Post t) ∧ ((¬ x1 < 0) → ((x1 ≤ 1) → ((¬ x1 = 0) → Post ((t 0).L 11) t) ∧ ((x1 = 0) → Post ((t 0).L 10) t)) ∧ ((¬ x1 ≤ 1) → wjX11_part_9 Post t))
def wjX11_image_9  (Post : Int32 → (Nat → St) → Prop) (t : Nat → St) : Prop := wpX11_bad (-2) t (fun (r1 : Int32) (t2 : Nat → St) => Post r1 t2)
def wpX11_image (x1 : Int32) (t : Nat → St)  (Post : Int32 → (Nat → St) → Prop) : Prop := ((x1 < 0) → wjX11_image_9 Post t) ∧ ((¬ x1 < 0) → ((x1 < 2) → ((x1 = 0) → wpX4_copyFrom (t 4) (t 2) (fun (p3 : St) => ∀ t4 : Nat → St, t4 = upS t 4 p3 → ∀ t5 : Nat → St, t5 = upS t4 0 ((t4 0).sI 9 (((t4 0).I 9) ||| ((1 : Int32) <<< (x1 &&& 31)))) → Post 1 t5)) ∧ ((¬ x1 = 0) → wpX4_copyFrom (t 5) (t 2) (fun (p6 : St) => ∀ t7 : Nat → St, t7 = upS t 5 p6 → ∀ t8 : Nat → St, t8 = upS t7 0 ((t7 0).sI 9 (((t7 0).I 9) ||| ((1 : Int32) <<< (x1 &&& 31)))) → Post 1 t8))) ∧ ((¬ x1 < 2) → wjX11_image_9 Post t))
def wjX11_from_9  (Post : Int32 → (Nat → St) → Prop) (t : Nat → St) : Prop := wpX11_bad (-2) t (fun (r1 : Int32) (t2 : Nat → St) => Post r1 t2)
def wpX11_from (x1 : Int32) (t : Nat → St)  (Post : Int32 → (Nat → St) → Prop) : Prop := ((x1 < 0) → wjX11_from_9 Post t) ∧ ((¬ x1 < 0) → ((x1 < 2) → ((¬ ((((t 0).I 9) >>> (x1 &&& 31)) &&& 1) = 0) → ((x1 = 0) → wpX4_copyFrom (t 2) (t 4) (fun (p3 : St) => ∀ t4 : Nat → St, t4 = upS t 2 p3 → Post 1 t4)) ∧ ((¬ x1 = 0) → wpX4_copyFrom (t 2) (t 5) (fun (p5 : St) => ∀ t6 : Nat → St, t6 = upS t 2 p5 → Post 1 t6))) ∧ ((((((t 0).I 9) >>> (x1 &&& 31)) &&& 1) = 0) → wpX11_no t (fun (r7 : Int32) (t8 : Nat → St) => Post r7 t8))) ∧ ((¬ x1 < 2) → wjX11_from_9 Post t))
def wpX11_status (x1 : Int32) (t : Nat → St)  (Post : Int32 → (Nat → St) → Prop) : Prop := (x1 = 0 → Post ((t 0).I 12) t) ∧ (x1 = 1 → Post ((t 0).I 13) t) ∧ (x1 = 2 → Post ((t 0).I 14) t) ∧ (¬ x1 = 0 → ¬ x1 = 1 → ¬ x1 = 2 → wpX11_bad (-1) t (fun (r1 : Int32) (t2 : Nat → St) => Post r1 t2))
def wpX11_amountOf (x1 : Int32) (t : Nat → St)  (Post : Int32 → Prop) : Prop := (x1 = 0 → Post ((t 2).I 3)) ∧ (x1 = 1 → wpX4_top (t 2) (fun (r1 : Int32) => Post r1)) ∧ (x1 = 2 → wpX4_noteCount (t 2) (fun (r2 : Int32) => Post r2)) ∧ (x1 = 3 → Post ((t 2).I 11)) ∧ (x1 = 4 → Post ((t 2).I 4)) ∧ (x1 = 5 → Post ((t 2).I 2)) ∧ (¬ x1 = 0 → ¬ x1 = 1 → ¬ x1 = 2 → ¬ x1 = 3 → ¬ x1 = 4 → ¬ x1 = 5 → Post ((t 8).I 1))
def wjX11_count_10  (Post : Int32 → (Nat → St) → Prop) (t : Nat → St) : Prop := wpX11_bad (-2) t (fun (r1 : Int32) (t2 : Nat → St) => Post r1 t2)
def wpX11_count (x1 : Int32) (t : Nat → St)  (Post : Int32 → (Nat → St) → Prop) : Prop := ((x1 < 0) → wjX11_count_10 Post t) ∧ ((¬ x1 < 0) → ((x1 ≤ 6) → wpX11_amountOf x1 t (fun (r3 : Int32) => Post r3 t)) ∧ ((¬ x1 ≤ 6) → wjX11_count_10 Post t))
def wlX11_digest_6 (t : Nat → St) (Post : Int64 → Prop) (KX : Int64 → Prop) (self : (Int64 × Int32) → Prop) (x1 : Int64) (x3 : Int32) : Prop := ((6 < x3) → KX x1) ∧ ((¬ 6 < x3) → wpX11_amountOf x3 t (fun (r1 : Int32) => ∀ x1_2 : Int64, x1_2 = ((31 * x1) + (r1.toInt64)) → ∀ x3_3 : Int32, x3_3 = x3 + 1 → self (x1_2, x3_3)))
def wLX11_digest_6 (t : Nat → St) (Post : Int64 → Prop) (KX : Int64 → Prop) : Nat → (Int64 × Int32) → Prop := itN (fun self x => wlX11_digest_6 t Post KX self x.1 x.2)
def wpX11_digest  (t : Nat → St)  (Post : Int64 → Prop) : Prop := ∃ n, wLX11_digest_6 t Post (fun (y4 : Int64) => wpX4_digestFrom y4 (t 2) (fun (r5 : Int64) => ∀ x1_6 : Int64, x1_6 = ((31 * r5) + ((t 0).L 10)) → Post ((31 * x1_6) + ((t 0).L 11)))) n (919, 0)
def wpX12_in (x0 : Int64) (x2 : Int64) (x4 : Int64)   (Post : Int32 → Prop) : Prop := (((lg_cmp x0 x2) < 0) → Post 0) ∧ ((¬ (lg_cmp x0 x2) < 0) → ((0 < (lg_cmp x0 x4)) → Post 0) ∧ ((¬ 0 < (lg_cmp x0 x4)) → Post 1))
def wpX12_has (x0 : Int32) (x1 : Int32)   (Post : Int32 → Prop) : Prop := ((¬ ((x0 >>> (x1 &&& 31)) &&& 1) = 1) → Post 0) ∧ ((((x0 >>> (x1 &&& 31)) &&& 1) = 1) → Post 1)
def wlX12_ones_4  (Post : Int32 → Prop) (KX : Int32 → Prop) (self : (Int32 × Int32) → Prop) (x1 : Int32) (x2 : Int32) : Prop := ((x2 = 0) → KX x1) ∧ ((¬ x2 = 0) → ∀ x1_1 : Int32, x1_1 = x1 + 1 → ∀ x2_2 : Int32, x2_2 = (x2 &&& (x2 - 1)) → self (x1_1, x2_2))
def wLX12_ones_4  (Post : Int32 → Prop) (KX : Int32 → Prop) : Nat → (Int32 × Int32) → Prop := itN (fun self x => wlX12_ones_4  Post KX self x.1 x.2)
def wpX12_ones (x0 : Int32)   (Post : Int32 → Prop) : Prop := ∃ n, wLX12_ones_4 Post (fun (y3 : Int32) => Post y3) n (0, x0)
def wpX12_refuse (x1 : Int32) (x2 : Int32) (p : St)  (Post : Int32 → St → Prop) : Prop := vp_in x1 3 ∧ vp_in x1 3 ∧ ∀ p1 : St, p1 = p.sA 9 (upd (p.A 9) x1.toNatClampNeg (((p.A 9) x1.toNatClampNeg) + 1)) → Post x2 p1
def wpX12_bad  (p : St)  (Post : Int32 → St → Prop) : Prop := wpX12_refuse 0 (-2) p (fun (r1 : Int32) (p2 : St) => Post r1 p2)
def wpX12_badLess  (p : St)  (Post : Int32 → St → Prop) : Prop := wpX12_refuse 0 (-10) p (fun (r1 : Int32) (p2 : St) => Post r1 p2)
def wpX12_isSheet (x1 : Int32) (p : St)  (Post : Int32 → Prop) : Prop := wpX12_in (x1.toInt64) 0 ((((p.I 0) - 1)).toInt64) (fun (r1 : Int32) => vb r1 ∧ Post r1)
def wpX12_areNotes (x1 : Int32) (p : St)  (Post : Int32 → Prop) : Prop := wpX12_in (x1.toInt64) 0 (((((1 : Int32) <<< (((p.A 4) 124) &&& 31)) - 1)).toInt64) (fun (r1 : Int32) => vb r1 ∧ Post r1)
def wpX12_isPen (x0 : Int32) (x1 : Int32)   (Post : Int32 → Prop) : Prop := wpX12_in (x0.toInt64) 0 5 (fun (r1 : Int32) => ((r1 = 0) → Post 0) ∧ ((¬ r1 = 0) → wpX12_in (x1.toInt64) 1 9 (fun (r2 : Int32) => ((r2 = 0) → Post 0) ∧ ((¬ r2 = 0) → Post 1))))
def wpX12_pencil (x0 : Int32) (x1 : Int32)   (Post : Int32 → Prop) : Prop := ∀ x2_1 : Int32, x2_1 = (x0 - x1) → ((0 ≤ x2_1) → ((x2_1 ≤ 9) → Post x2_1) ∧ ((¬ x2_1 ≤ 9) → Post 9)) ∧ ((¬ 0 ≤ x2_1) → Post 0)
def wjX12_forceOf_20  (Post : Int32 → Prop) (x1 : Int32) (x2 : Int32) : Prop := wpX12_pencil (x1 + 1) x2 (fun (r1 : Int32) => Post r1)
def wjX12_forceOf_57  (Post : Int32 → Prop) (x1 : Int32) (x2 : Int32) : Prop := wpX12_pencil x1 x2 (fun (r2 : Int32) => Post (r2 / 2))
def wpX12_forceOf (x0 : Int32) (x1 : Int32) (x2 : Int32)   (Post : Int32 → Prop) : Prop := ((¬ x0 = 0) → ((x0 = 1) → wjX12_forceOf_20 Post x1 x2) ∧ ((¬ x0 = 1) → ((¬ x0 = 3) → ((¬ x0 = 5) → ((¬ x0 = 4) → wjX12_forceOf_57 Post x1 x2) ∧ ((x0 = 4) → ((x2 ≤ 1) → wjX12_forceOf_57 Post x1 x2) ∧ ((¬ x2 ≤ 1) → Post 0))) ∧ ((x0 = 5) → wpX12_pencil (x1 + 1) (x2 / 2) (fun (r3 : Int32) => Post r3))) ∧ ((x0 = 3) → wjX12_forceOf_20 Post x1 x2))) ∧ ((x0 = 0) → wpX12_pencil x1 x2 (fun (r4 : Int32) => Post r4))
def wpX12_hasInk (x0 : Int32)   (Post : Int32 → Prop) : Prop := ((x0 = 3) → Post 0) ∧ ((¬ x0 = 3) → ((x0 = 5) → Post 0) ∧ ((¬ x0 = 5) → Post 1))
def wlX12_empty_2  (Post : St → Prop) (KX : St → Prop) (self : (Int32 × St) → Prop) (x1 : Int32) (p : St) : Prop := ((126 ≤ x1) → KX p) ∧ ((¬ 126 ≤ x1) → vp_in x1 126 ∧ ∀ p1 : St, p1 = p.sA 4 (upd (p.A 4) x1.toNatClampNeg 0) → ∀ x1_2 : Int32, x1_2 = x1 + 1 → self (x1_2, p1))
def wLX12_empty_2  (Post : St → Prop) (KX : St → Prop) : Nat → (Int32 × St) → Prop := itN (fun self x => wlX12_empty_2  Post KX self x.1 x.2)
def wpX12_empty  (p : St)  (Post : St → Prop) : Prop := ∃ n, wLX12_empty_2 Post (fun (p3 : St) => ∀ p4 : St, p4 = p3.sI 1 0 → ∀ p5 : St, p5 = p4.sI 6 0 → Post p5) n (0, p)
def wpX12_pad (x1 : Int32) (p : St)  (Post : Int32 → St → Prop) : Prop := wpX12_in (x1.toInt64) 1 6 (fun (r1 : Int32) => ((¬ r1 = 0) → ∀ x2_2 : Int32, x2_2 = (p.I 0) → ∀ p3 : St, p3 = p.sI 0 x1 → ∀ p4 : St, p4 = p3.sI 3 0 → wpX12_empty p4 (fun (p5 : St) => Post x2_2 p5)) ∧ ((r1 = 0) → wpX12_bad p (fun (r6 : Int32) (p7 : St) => Post r6 p7)))
def wpX12_carbons (x1 : Int32) (p : St)  (Post : Int32 → St → Prop) : Prop := wpX12_in (x1.toInt64) 0 (((((1 : Int32) <<< ((p.I 0) &&& 31)) - 1)).toInt64) (fun (r1 : Int32) => ((¬ r1 = 0) → ∀ x2_2 : Int32, x2_2 = (p.I 1) → ∀ p3 : St, p3 = p.sI 1 x1 → Post x2_2 p3) ∧ ((r1 = 0) → wpX12_bad p (fun (r4 : Int32) (p5 : St) => Post r4 p5)))
def wlX12_note_51  (Post : St → Prop) (KX : St → Prop) (self : (Int32 × St) → Prop) (x1 : Int32) (p : St) : Prop := ((126 ≤ x1) → KX p) ∧ ((¬ 126 ≤ x1) → vp_in x1 126 ∧ vp_in (((126 : Int32) * (p.I 6)) + x1) 1008 ∧ ∀ p1 : St, p1 = p.sA 5 (upd (p.A 5) (((126 : Int32) * (p.I 6)) + x1).toNatClampNeg ((p.A 4) x1.toNatClampNeg)) → ∀ x1_2 : Int32, x1_2 = x1 + 1 → self (x1_2, p1))
def wLX12_note_51  (Post : St → Prop) (KX : St → Prop) : Nat → (Int32 × St) → Prop := itN (fun self x => wlX12_note_51  Post KX self x.1 x.2)
def wlX12_note_11  (Post : St → Prop) (KX : St → Prop) (self : (Int32 × St) → Prop) (x1 : Int32) (p : St) : Prop := ((882 ≤ x1) → KX p) ∧ ((¬ 882 ≤ x1) → vp_in (x1 + 126) 1008 ∧ vp_in x1 1008 ∧ ∀ p5 : St, p5 = p.sA 5 (upd (p.A 5) x1.toNatClampNeg ((p.A 5) (x1 + 126).toNatClampNeg)) → ∀ x1_6 : Int32, x1_6 = x1 + 1 → self (x1_6, p5))
def wLX12_note_11  (Post : St → Prop) (KX : St → Prop) : Nat → (Int32 × St) → Prop := itN (fun self x => wlX12_note_11  Post KX self x.1 x.2)
def wpX12_note  (p : St)  (Post : St → Prop) : Prop := ((¬ (p.I 6) = 8) → ∃ n, wLX12_note_51 Post (fun (p3 : St) => ∀ p4 : St, p4 = p3.sI 6 ((p3.I 6) + 1) → Post p4) n (0, p)) ∧ (((p.I 6) = 8) → ∃ n, wLX12_note_11 Post (fun (p7 : St) => ∀ p8 : St, p8 = p7.sI 6 ((p7.I 6) - 1) → ∃ n, wLX12_note_51 Post (fun (p9 : St) => ∀ p10 : St, p10 = p9.sI 6 ((p9.I 6) + 1) → Post p10) n (0, p8)) n (0, p))
def wjX12_dentAll_116  (Post : St → Prop) (self : (Int32 × Int32 × Int32 × Int32 × Int32 × Int32 × Int32 × St) → Prop) (KX : Int32 → Int32 → Int32 → Int32 → Int32 → Int32 → St → Prop) (x1 : Int32) (x2 : Int32) (x3 : Int32) (x4 : Int32) (x5 : Int32) (x6 : Int32) (x7 : Int32) (z0 : Int32) (z1 : Int32) (p : St) : Prop := vp_in z1 126 ∧ ∀ p6 : St, p6 = p.sA 4 (upd (p.A 4) z1.toNatClampNeg z0) → ∀ x7_7 : Int32, x7_7 = x7 + 1 → self (x1, x2, x3, x4, x5, x6, x7_7, p6)
def wjX12_dentAll_109  (Post : St → Prop) (self : (Int32 × Int32 × Int32 × Int32 × Int32 × Int32 × Int32 × St) → Prop) (KX : Int32 → Int32 → Int32 → Int32 → Int32 → Int32 → St → Prop) (x1 : Int32) (x2 : Int32) (x3 : Int32) (x4 : Int32) (x5 : Int32) (x6 : Int32) (x7 : Int32) (x8 : Int32) (z0 : Int32) (p : St) : Prop := vp_in x8 126 ∧ wjX12_dentAll_116 Post self KX x1 x2 x3 x4 x5 x6 x7 ((p.A 4) x8.toNatClampNeg) z0 p
def wlX12_dentAll_57  (Post : St → Prop) (KX : Int32 → Int32 → Int32 → Int32 → Int32 → Int32 → St → Prop) (self : (Int32 × Int32 × Int32 × Int32 × Int32 × Int32 × Int32 × St) → Prop) (x1 : Int32) (x2 : Int32) (x3 : Int32) (x4 : Int32) (x5 : Int32) (x6 : Int32) (x7 : Int32) (p : St) : Prop := ((12 ≤ x7) → KX x1 x2 x3 x4 x5 x6 p) ∧ ((¬ 12 ≤ x7) → ∀ x8_4 : Int32, x8_4 = (((12 : Int32) + ((12 : Int32) * x5)) + x7) → wpX12_has x3 x7 (fun (r5 : Int32) => ((r5 = 0) → wjX12_dentAll_109 Post self KX x1 x2 x3 x4 x5 x6 x7 x8_4 x8_4 p) ∧ ((¬ r5 = 0) → vp_in x8_4 126 ∧ ((x6 ≤ ((p.A 4) x8_4.toNatClampNeg)) → wjX12_dentAll_109 Post self KX x1 x2 x3 x4 x5 x6 x7 x8_4 x8_4 p) ∧ ((¬ x6 ≤ ((p.A 4) x8_4.toNatClampNeg)) → wjX12_dentAll_116 Post self KX x1 x2 x3 x4 x5 x6 x7 x6 x8_4 p))))
def wLX12_dentAll_57  (Post : St → Prop) (KX : Int32 → Int32 → Int32 → Int32 → Int32 → Int32 → St → Prop) : Nat → (Int32 × Int32 × Int32 × Int32 × Int32 × Int32 × Int32 × St) → Prop := itN (fun self x => wlX12_dentAll_57  Post KX self x.1 x.2.1 x.2.2.1 x.2.2.2.1 x.2.2.2.2.1 x.2.2.2.2.2.1 x.2.2.2.2.2.2.1 x.2.2.2.2.2.2.2)
def wlX12_dentAll_33  (Post : St → Prop) (KX : St → Prop) (self : (Int32 × Int32 × Int32 × Int32 × Int32 × St) → Prop) (x1 : Int32) (x2 : Int32) (x3 : Int32) (x4 : Int32) (x5 : Int32) (p : St) : Prop := (((p.I 0) ≤ x5) → KX p) ∧ ((¬ (p.I 0) ≤ x5) → wpX12_forceOf x1 x2 (x5 - x4) (fun (r3 : Int32) => ∃ n, wLX12_dentAll_57 Post (fun (y8 : Int32) (y9 : Int32) (y10 : Int32) (y11 : Int32) (y12 : Int32) (y13 : Int32) (p14 : St) => ((y12 ≤ y11) → ∀ x5_15 : Int32, x5_15 = y12 + 1 → self (y8, y9, y10, y11, x5_15, p14)) ∧ ((¬ y12 ≤ y11) → wpX12_has (p14.I 1) (y12 - 1) (fun (r16 : Int32) => ((r16 = 0) → ∀ x5_17 : Int32, x5_17 = y12 + 1 → self (y8, y9, y10, y11, x5_17, p14)) ∧ ((¬ r16 = 0) → ((y13 < 2) → ∀ x5_18 : Int32, x5_18 = y12 + 1 → self (y8, y9, y10, y11, x5_18, p14)) ∧ ((¬ y13 < 2) → vp_in ((6 : Int32) + y12) 126 ∧ vp_in ((6 : Int32) + y12) 126 ∧ ∀ p19 : St, p19 = p14.sA 4 (upd (p14.A 4) ((6 : Int32) + y12).toNatClampNeg (((p14.A 4) ((6 : Int32) + y12).toNatClampNeg) ||| y10)) → ∀ x5_20 : Int32, x5_20 = y12 + 1 → self (y8, y9, y10, y11, x5_20, p19)))))) n (x1, x2, x3, x4, x5, r3, 0, p)))
def wLX12_dentAll_33  (Post : St → Prop) (KX : St → Prop) : Nat → (Int32 × Int32 × Int32 × Int32 × Int32 × St) → Prop := itN (fun self x => wlX12_dentAll_33  Post KX self x.1 x.2.1 x.2.2.1 x.2.2.2.1 x.2.2.2.2.1 x.2.2.2.2.2)
def wpX12_dentAll (x1 : Int32) (x2 : Int32) (x3 : Int32) (p : St)  (Post : St → Prop) : Prop := ∀ x4_1 : Int32, x4_1 = ((p.A 4) 125) → wpX12_hasInk x1 (fun (r2 : Int32) => ((r2 = 0) → ∃ n, wLX12_dentAll_33 Post (fun (p21 : St) => Post p21) n (x1, x2, x3, x4_1, x4_1, p)) ∧ ((¬ r2 = 0) → vp_in ((0 : Int32) + x4_1) 126 ∧ vp_in ((0 : Int32) + x4_1) 126 ∧ ∀ p22 : St, p22 = p.sA 4 (upd (p.A 4) ((0 : Int32) + x4_1).toNatClampNeg (((p.A 4) ((0 : Int32) + x4_1).toNatClampNeg) ||| x3)) → ∃ n, wLX12_dentAll_33 Post (fun (p23 : St) => Post p23) n (x1, x2, x3, x4_1, x4_1, p22)))
def wpX12_writeNow (x1 : Int32) (x2 : Int32) (x3 : Int32) (p : St)  (Post : St → Prop) : Prop := wpX12_dentAll x1 x2 x3 p (fun (p1 : St) => ∀ x4_2 : Int32, x4_2 = ((84 : Int32) + ((4 : Int32) * ((p1.A 4) 124))) → vp_in x4_2 126 ∧ ∀ p3 : St, p3 = p1.sA 4 (upd (p1.A 4) x4_2.toNatClampNeg x1) → vp_in (x4_2 + 1) 126 ∧ ∀ p4 : St, p4 = p3.sA 4 (upd (p3.A 4) (x4_2 + 1).toNatClampNeg x2) → vp_in (x4_2 + 2) 126 ∧ ∀ p5 : St, p5 = p4.sA 4 (upd (p4.A 4) (x4_2 + 2).toNatClampNeg x3) → vp_in (x4_2 + 3) 126 ∧ ∀ p6 : St, p6 = p5.sA 4 (upd (p5.A 4) (x4_2 + 3).toNatClampNeg ((p5.A 4) 125)) → ∀ p7 : St, p7 = p6.sA 4 (upd (p6.A 4) 124 (((p6.A 4) 124) + 1)) → Post p7)
def wjX12_write_20  (Post : Int32 → St → Prop) (p : St) : Prop := wpX12_bad p (fun (r2 : Int32) (p3 : St) => Post r2 p3)
def wpX12_write (x1 : Int32) (x2 : Int32) (x3 : Int32) (p : St)  (Post : Int32 → St → Prop) : Prop := wpX12_isPen x1 x2 (fun (r1 : Int32) => ((r1 = 0) → wjX12_write_20 Post p) ∧ ((¬ r1 = 0) → wpX12_in (x3.toInt64) 0 4095 (fun (r4 : Int32) => ((¬ r4 = 0) → ((¬ ((p.A 4) 125) = (p.I 0)) → ((¬ ((p.A 4) 124) = 10) → wpX12_note p (fun (p5 : St) => wpX12_writeNow x1 x2 x3 p5 (fun (p6 : St) => Post (((p6.A 4) 124) - 1) p6))) ∧ ((((p.A 4) 124) = 10) → wpX12_refuse 2 (-4) p (fun (r7 : Int32) (p8 : St) => Post r7 p8))) ∧ ((((p.A 4) 125) = (p.I 0)) → wpX12_refuse 1 (-3) p (fun (r9 : Int32) (p10 : St) => Post r9 p10))) ∧ ((r4 = 0) → wjX12_write_20 Post p))))
def wpX12_tear  (p : St)  (Post : Int32 → St → Prop) : Prop := ((¬ ((p.A 4) 125) = (p.I 0)) → wpX12_note p (fun (p1 : St) => ∀ p2 : St, p2 = p1.sA 4 (upd (p1.A 4) 125 (((p1.A 4) 125) + 1)) → Post (((p2.A 4) 125) - 1) p2)) ∧ ((((p.A 4) 125) = (p.I 0)) → wpX12_refuse 1 (-3) p (fun (r3 : Int32) (p4 : St) => Post r3 p4))
def wlX12_undo_27  (Post : Int32 → St → Prop) (KX : St → Prop) (self : (Int32 × St) → Prop) (x1 : Int32) (p : St) : Prop := ((126 ≤ x1) → KX p) ∧ ((¬ 126 ≤ x1) → vp_in (((126 : Int32) * (p.I 6)) + x1) 1008 ∧ vp_in x1 126 ∧ ∀ p2 : St, p2 = p.sA 4 (upd (p.A 4) x1.toNatClampNeg ((p.A 5) (((126 : Int32) * (p.I 6)) + x1).toNatClampNeg)) → ∀ x1_3 : Int32, x1_3 = x1 + 1 → self (x1_3, p2))
def wLX12_undo_27  (Post : Int32 → St → Prop) (KX : St → Prop) : Nat → (Int32 × St) → Prop := itN (fun self x => wlX12_undo_27  Post KX self x.1 x.2)
def wpX12_undo  (p : St)  (Post : Int32 → St → Prop) : Prop := ((¬ (p.I 6) = 0) → ∀ p1 : St, p1 = p.sI 6 ((p.I 6) - 1) → ∃ n, wLX12_undo_27 Post (fun (p4 : St) => Post ((p4.A 4) 124) p4) n (0, p1)) ∧ (((p.I 6) = 0) → wpX12_refuse 1 (-3) p (fun (r5 : Int32) (p6 : St) => Post r5 p6))
def wpX12_word (x1 : Int32) (p : St)  (Post : Int32 → St → Prop) : Prop := wpX12_in (x1.toInt64) 0 4095 (fun (r1 : Int32) => ((¬ r1 = 0) → ((¬ (p.I 3) = 8) → vp_in (p.I 3) 8 ∧ ∀ p2 : St, p2 = p.sA 2 (upd (p.A 2) (p.I 3).toNatClampNeg x1) → ∀ p3 : St, p3 = p2.sI 3 ((p2.I 3) + 1) → Post ((p3.I 3) - 1) p3) ∧ (((p.I 3) = 8) → wpX12_refuse 2 (-4) p (fun (r4 : Int32) (p5 : St) => Post r4 p5))) ∧ ((r1 = 0) → wpX12_bad p (fun (r6 : Int32) (p7 : St) => Post r6 p7)))
def wpX12_forget  (p : St)  (Post : Int32 → St → Prop) : Prop := ∀ x1_1 : Int32, x1_1 = (p.I 3) → ∀ p2 : St, p2 = p.sI 3 0 → Post x1_1 p2
def wpX12_type (x1 : Int32) (p : St)  (Post : Int32 → St → Prop) : Prop := wpX12_in (x1.toInt64) 0 127 (fun (r1 : Int32) => ((¬ r1 = 0) → ((¬ (p.I 11) = 150) → vp_in (p.I 11) 150 ∧ ∀ p2 : St, p2 = p.sA 10 (upd (p.A 10) (p.I 11).toNatClampNeg x1) → ∀ p3 : St, p3 = p2.sI 11 ((p2.I 11) + 1) → Post (p3.I 11) p3) ∧ (((p.I 11) = 150) → wpX12_refuse 2 (-4) p (fun (r4 : Int32) (p5 : St) => Post r4 p5))) ∧ ((r1 = 0) → wpX12_bad p (fun (r6 : Int32) (p7 : St) => Post r6 p7)))
def wpX12_clear  (p : St)  (Post : Int32 → St → Prop) : Prop := ∀ x1_1 : Int32, x1_1 = (p.I 11) → ∀ p2 : St, p2 = p.sI 11 0 → Post x1_1 p2
def wpX12_byteAt (x1 : Int32) (p : St)  (Post : Int32 → Prop) : Prop := (((p.I 11) ≤ x1) → Post 0) ∧ ((¬ (p.I 11) ≤ x1) → vp_in x1 150 ∧ Post ((p.A 10) x1.toNatClampNeg))
def wjX12_isWord_118 (p : St) (Post : Int32 → Prop) (x5 : Int32) (x6 : Int32) (x7 : Int32) (z0 : Int32) : Prop := ((z0 = 0) → Post 0) ∧ ((¬ z0 = 0) → ((x7 < 6) → Post 1) ∧ ((¬ x7 < 6) → vp_in ((p.I 15) + 4) 150 ∧ ((¬ ((p.A 10) ((p.I 15) + 4).toNatClampNeg) = x5) → Post 0) ∧ ((((p.A 10) ((p.I 15) + 4).toNatClampNeg) = x5) → vp_in ((p.I 15) + 5) 150 ∧ ((¬ ((p.A 10) ((p.I 15) + 5).toNatClampNeg) = x6) → Post 0) ∧ ((((p.A 10) ((p.I 15) + 5).toNatClampNeg) = x6) → Post 1))))
def wjX12_isWord_84 (p : St) (Post : Int32 → Prop) (x4 : Int32) (x5 : Int32) (x6 : Int32) (x7 : Int32) (z0 : Int32) : Prop := ((z0 = 0) → wjX12_isWord_118 p Post x5 x6 x7 0) ∧ ((¬ z0 = 0) → ((x7 < 4) → wjX12_isWord_118 p Post x5 x6 x7 1) ∧ ((¬ x7 < 4) → vp_in ((p.I 15) + 3) 150 ∧ ((¬ ((p.A 10) ((p.I 15) + 3).toNatClampNeg) = x4) → wjX12_isWord_118 p Post x5 x6 x7 0) ∧ ((((p.A 10) ((p.I 15) + 3).toNatClampNeg) = x4) → wjX12_isWord_118 p Post x5 x6 x7 1)))
def wjX12_isWord_20 (p : St) (Post : Int32 → Prop) (x1 : Int32) (x2 : Int32) (x3 : Int32) (x4 : Int32) (x5 : Int32) (x6 : Int32) (z0 : Int32) : Prop := ((¬ ((p.I 12) - (p.I 15)) = z0) → wjX12_isWord_84 p Post x4 x5 x6 z0 0) ∧ ((((p.I 12) - (p.I 15)) = z0) → vp_in (p.I 15) 150 ∧ ((¬ ((p.A 10) (p.I 15).toNatClampNeg) = x1) → wjX12_isWord_84 p Post x4 x5 x6 z0 0) ∧ ((((p.A 10) (p.I 15).toNatClampNeg) = x1) → vp_in ((p.I 15) + 1) 150 ∧ ((¬ ((p.A 10) ((p.I 15) + 1).toNatClampNeg) = x2) → wjX12_isWord_84 p Post x4 x5 x6 z0 0) ∧ ((((p.A 10) ((p.I 15) + 1).toNatClampNeg) = x2) → vp_in ((p.I 15) + 2) 150 ∧ ((¬ ((p.A 10) ((p.I 15) + 2).toNatClampNeg) = x3) → wjX12_isWord_84 p Post x4 x5 x6 z0 0) ∧ ((((p.A 10) ((p.I 15) + 2).toNatClampNeg) = x3) → wjX12_isWord_84 p Post x4 x5 x6 z0 1))))
def wpX12_isWord (x1 : Int32) (x2 : Int32) (x3 : Int32) (x4 : Int32) (x5 : Int32) (x6 : Int32) (p : St)  (Post : Int32 → Prop) : Prop := ((¬ x4 = 0) → ((¬ x5 = 0) → wjX12_isWord_20 p Post x1 x2 x3 x4 x5 x6 6) ∧ ((x5 = 0) → wjX12_isWord_20 p Post x1 x2 x3 x4 x5 x6 4)) ∧ ((x4 = 0) → wjX12_isWord_20 p Post x1 x2 x3 x4 x5 x6 3)
def wlX12_nextToken_0  (Post : St → Prop) (KX : St → Prop) (self : (St) → Prop) (p : St) : Prop := wpX12_byteAt (p.I 12) p (fun (r1 : Int32) => ((¬ r1 = 32) → KX p) ∧ ((r1 = 32) → ∀ p2 : St, p2 = p.sI 12 ((p.I 12) + 1) → self p2))
def wLX12_nextToken_0  (Post : St → Prop) (KX : St → Prop) : Nat → (St) → Prop := itN (fun self x => wlX12_nextToken_0  Post KX self x)
def wjX12_nextToken_355  (Post : St → Prop) (z0 : Int32) (p : St) : Prop := ∀ p12 : St, p12 = p.sI 13 z0 → ∀ p13 : St, p13 = p12.sI 12 ((p12.I 12) + 1) → Post p13
def wjX12_nextToken_287  (Post : St → Prop) (self : (St) → Prop) (KX : St → Prop) (z0 : Int32) (p : St) : Prop := ∀ p16 : St, p16 = p.sI 14 z0 → ∀ p17 : St, p17 = p16.sI 12 ((p16.I 12) + 1) → self p17
def wlX12_nextToken_229  (Post : St → Prop) (KX : St → Prop) (self : (St) → Prop) (p : St) : Prop := wpX12_byteAt (p.I 12) p (fun (r14 : Int32) => wpX12_in (r14.toInt64) 48 57 (fun (r15 : Int32) => ((r15 = 0) → KX p) ∧ ((¬ r15 = 0) → (((p.I 14) ≤ 99) → vp_in (p.I 12) 150 ∧ wjX12_nextToken_287 Post self KX ((((10 : Int32) * (p.I 14)) + ((p.A 10) (p.I 12).toNatClampNeg)) - 48) p) ∧ ((¬ (p.I 14) ≤ 99) → wjX12_nextToken_287 Post self KX (p.I 14) p))))
def wLX12_nextToken_229  (Post : St → Prop) (KX : St → Prop) : Nat → (St) → Prop := itN (fun self x => wlX12_nextToken_229  Post KX self x)
def wjX12_nextToken_323  (Post : St → Prop) (z0 : Int32) (p : St) : Prop := ∀ p19 : St, p19 = p.sI 13 z0 → Post p19
def wlX12_nextToken_81  (Post : St → Prop) (KX : St → Prop) (self : (St) → Prop) (p : St) : Prop := wpX12_byteAt (p.I 12) p (fun (r20 : Int32) => wpX12_in (r20.toInt64) 97 122 (fun (r21 : Int32) => ((r21 = 0) → KX p) ∧ ((¬ r21 = 0) → ∀ p22 : St, p22 = p.sI 12 ((p.I 12) + 1) → self p22)))
def wLX12_nextToken_81  (Post : St → Prop) (KX : St → Prop) : Nat → (St) → Prop := itN (fun self x => wlX12_nextToken_81  Post KX self x)
def wjX12_nextToken_202  (Post : St → Prop) (z0 : Int32) (p : St) : Prop := ∀ p28 : St, p28 = p.sI 13 z0 → Post p28
def wjX12_nextToken_52  (Post : St → Prop) (z0 : Int32) (p : St) : Prop := ∀ p5 : St, p5 = p.sI 13 z0 → ∀ p6 : St, p6 = p5.sI 14 0 → wpX12_byteAt (p6.I 12) p6 (fun (r7 : Int32) => wpX12_in (r7.toInt64) 97 122 (fun (r8 : Int32) => ((r8 = 0) → wpX12_byteAt (p6.I 12) p6 (fun (r9 : Int32) => wpX12_in (r9.toInt64) 48 57 (fun (r10 : Int32) => ((r10 = 0) → ((¬ (p6.I 13) = 0) → Post p6) ∧ (((p6.I 13) = 0) → wpX12_byteAt (p6.I 12) p6 (fun (r11 : Int32) => ((¬ r11 = 59) → wjX12_nextToken_355 Post 0 p6) ∧ ((r11 = 59) → wjX12_nextToken_355 Post 5 p6)))) ∧ ((¬ r10 = 0) → ∃ n, wLX12_nextToken_229 Post (fun (p18 : St) => ((((p18.I 12) - (p18.I 15)) ≤ 2) → wjX12_nextToken_323 Post 6 p18) ∧ ((¬ ((p18.I 12) - (p18.I 15)) ≤ 2) → wjX12_nextToken_323 Post 0 p18)) n p6)))) ∧ ((¬ r8 = 0) → ∃ n, wLX12_nextToken_81 Post (fun (p23 : St) => wpX12_isWord 112 97 100 0 0 0 p23 (fun (r24 : Int32) => ((r24 = 0) → wpX12_isWord 99 97 114 98 111 110 p23 (fun (r25 : Int32) => ((r25 = 0) → wpX12_isWord 110 111 116 101 0 0 p23 (fun (r26 : Int32) => ((r26 = 0) → wpX12_isWord 116 101 97 114 0 0 p23 (fun (r27 : Int32) => ((r27 = 0) → wjX12_nextToken_202 Post 0 p23) ∧ ((¬ r27 = 0) → wjX12_nextToken_202 Post 4 p23))) ∧ ((¬ r26 = 0) → wjX12_nextToken_202 Post 3 p23))) ∧ ((¬ r25 = 0) → wjX12_nextToken_202 Post 2 p23))) ∧ ((¬ r24 = 0) → wjX12_nextToken_202 Post 1 p23))) n p6)))
def wpX12_nextToken  (p : St)  (Post : St → Prop) : Prop := ∃ n, wLX12_nextToken_0 Post (fun (p3 : St) => ∀ p4 : St, p4 = p3.sI 15 (p3.I 12) → ((¬ (p4.I 12) = (p4.I 11)) → wjX12_nextToken_52 Post 0 p4) ∧ (((p4.I 12) = (p4.I 11)) → wjX12_nextToken_52 Post 7 p4)) n p
def wpX12_number (x1 : Int32) (x2 : Int32) (p : St)  (Post : Int32 → St → Prop) : Prop := wpX12_nextToken p (fun (p1 : St) => ((¬ (p1.I 13) = 6) → Post 0 p1) ∧ (((p1.I 13) = 6) → wpX12_in (((p1.I 14)).toInt64) (x1.toInt64) (x2.toInt64) (fun (r2 : Int32) => ((r2 = 0) → Post 0 p1) ∧ ((¬ r2 = 0) → Post 1 p1))))
def wlX12_readNote_55  (Post : Int32 → St → Prop) (KX : Int32 → Int32 → St → Prop) (self : (Int32 × Int32 × Int32 × St) → Prop) (x1 : Int32) (x2 : Int32) (x3 : Int32) (p : St) : Prop := ((¬ (p.I 13) = 6) → KX x1 x2 p) ∧ (((p.I 13) = 6) → wpX12_in (((p.I 14)).toInt64) (((x3 + 1)).toInt64) 11 (fun (r9 : Int32) => ((¬ r9 = 0) → ∀ x3_10 : Int32, x3_10 = (p.I 14) → ∀ x2_11 : Int32, x2_11 = (x2 ||| ((1 : Int32) <<< ((p.I 14) &&& 31))) → wpX12_nextToken p (fun (p12 : St) => self (x1, x2_11, x3_10, p12))) ∧ ((r9 = 0) → Post 0 p)))
def wLX12_readNote_55  (Post : Int32 → St → Prop) (KX : Int32 → Int32 → St → Prop) : Nat → (Int32 × Int32 × Int32 × St) → Prop := itN (fun self x => wlX12_readNote_55  Post KX self x.1 x.2.1 x.2.2.1 x.2.2.2)
def wpX12_readNote (x1 : Int32) (p : St)  (Post : Int32 → St → Prop) : Prop := wpX12_number 0 5 p (fun (r1 : Int32) (p2 : St) => ((¬ r1 = 0) → vp_in (x1 + 1) 600 ∧ ∀ p3 : St, p3 = p2.sA 16 (upd (p2.A 16) (x1 + 1).toNatClampNeg (p2.I 14)) → wpX12_number 1 9 p3 (fun (r4 : Int32) (p5 : St) => ((¬ r4 = 0) → vp_in (x1 + 2) 600 ∧ ∀ p6 : St, p6 = p5.sA 16 (upd (p5.A 16) (x1 + 2).toNatClampNeg (p5.I 14)) → ∀ x3_7 : Int32, x3_7 = (-1) → wpX12_nextToken p6 (fun (p8 : St) => ∃ n, wLX12_readNote_55 Post (fun (y13 : Int32) (y14 : Int32) (p15 : St) => vp_in (y13 + 3) 600 ∧ ∀ p16 : St, p16 = p15.sA 16 (upd (p15.A 16) (y13 + 3).toNatClampNeg y14) → Post 1 p16) n (x1, 0, x3_7, p8))) ∧ ((r4 = 0) → Post 0 p5))) ∧ ((r1 = 0) → Post 0 p2))
def wjX12_readPad_253  (Post : Int32 → St → Prop) (self : (St) → Prop) (KX : St → Prop) (z0 : Int32) (z1 : Int32) (p : St) : Prop := ∀ p16 : St, p16 = p.sI 20 (z1 + z0) → ∀ p17 : St, p17 = p16.sI 17 ((p16.I 17) + 1) → wpX12_nextToken p17 (fun (p18 : St) => self p18)
def wjX12_readPad_235  (Post : Int32 → St → Prop) (self : (St) → Prop) (KX : St → Prop) (x2 : Int32) (z0 : Int32) (z1 : Int32) (p : St) : Prop := ∀ p15 : St, p15 = p.sI 19 (z1 + z0) → ((x2 = 0) → wjX12_readPad_253 Post self KX 0 (p15.I 20) p15) ∧ ((¬ x2 = 0) → wjX12_readPad_253 Post self KX 1 (p15.I 20) p15)
def wjX12_readPad_210  (Post : Int32 → St → Prop) (self : (St) → Prop) (KX : St → Prop) (x1 : Int32) (x2 : Int32) (p : St) : Prop := (((p.I 13) = 5) → ((¬ x1 = 4) → wjX12_readPad_235 Post self KX x2 0 (p.I 19) p) ∧ ((x1 = 4) → wjX12_readPad_235 Post self KX x2 1 (p.I 19) p)) ∧ ((¬ (p.I 13) = 5) → Post 0 p)
def wjX12_readPad_202  (Post : Int32 → St → Prop) (self : (St) → Prop) (KX : St → Prop) (x1 : Int32) (x2 : Int32) (p : St) : Prop := ((¬ x2 = 0) → wjX12_readPad_210 Post self KX x1 x2 p) ∧ ((x2 = 0) → wpX12_nextToken p (fun (p19 : St) => wjX12_readPad_210 Post self KX x1 x2 p19))
def wjX12_readPad_188  (Post : Int32 → St → Prop) (self : (St) → Prop) (KX : St → Prop) (x1 : Int32) (x2 : Int32) (x3 : Int32) (p : St) : Prop := ((x2 = 0) → wjX12_readPad_202 Post self KX x1 x2 p) ∧ ((¬ x2 = 0) → wpX12_readNote x3 p (fun (r20 : Int32) (p21 : St) => ((¬ r20 = 0) → wjX12_readPad_202 Post self KX x1 x2 p21) ∧ ((r20 = 0) → Post 0 p21)))
def wjX12_readPad_141  (Post : Int32 → St → Prop) (self : (St) → Prop) (KX : St → Prop) (x1 : Int32) (x2 : Int32) (p : St) : Prop := ∀ x3_13 : Int32, x3_13 = ((4 : Int32) * (p.I 17)) → vp_in x3_13 600 ∧ ∀ p14 : St, p14 = p.sA 16 (upd (p.A 16) x3_13.toNatClampNeg x1) → ((¬ x1 = 2) → wjX12_readPad_188 Post self KX x1 x2 x3_13 p14) ∧ ((x1 = 2) → wpX12_number 0 ((p14.I 18) - 1) p14 (fun (r22 : Int32) (p23 : St) => ((¬ r22 = 0) → vp_in (x3_13 + 1) 600 ∧ ∀ p24 : St, p24 = p23.sA 16 (upd (p23.A 16) (x3_13 + 1).toNatClampNeg (p23.I 14)) → wjX12_readPad_188 Post self KX x1 x2 x3_13 p24) ∧ ((r22 = 0) → Post 0 p23)))
def wjX12_readPad_126  (Post : Int32 → St → Prop) (self : (St) → Prop) (KX : St → Prop) (x1 : Int32) (x2 : Int32) (p : St) : Prop := ((x2 = 0) → wjX12_readPad_141 Post self KX x1 x2 p) ∧ ((¬ x2 = 0) → ((¬ (p.I 20) = 10) → wjX12_readPad_141 Post self KX x1 x2 p) ∧ (((p.I 20) = 10) → Post 0 p))
def wjX12_readPad_99  (Post : Int32 → St → Prop) (self : (St) → Prop) (KX : St → Prop) (x1 : Int32) (z0 : Int32) (p : St) : Prop := ((x1 < 2) → Post 0 p) ∧ ((¬ x1 < 2) → ((4 < x1) → Post 0 p) ∧ ((¬ 4 < x1) → ((x1 ≤ 2) → wjX12_readPad_126 Post self KX x1 z0 p) ∧ ((¬ x1 ≤ 2) → (((p.I 19) = (p.I 18)) → Post 0 p) ∧ ((¬ (p.I 19) = (p.I 18)) → wjX12_readPad_126 Post self KX x1 z0 p))))
def wlX12_readPad_75  (Post : Int32 → St → Prop) (KX : St → Prop) (self : (St) → Prop) (p : St) : Prop := (((p.I 13) = 7) → KX p) ∧ ((¬ (p.I 13) = 7) → ∀ x1_12 : Int32, x1_12 = (p.I 13) → ((¬ x1_12 = 3) → wjX12_readPad_99 Post self KX x1_12 0 p) ∧ ((x1_12 = 3) → wjX12_readPad_99 Post self KX x1_12 1 p))
def wLX12_readPad_75  (Post : Int32 → St → Prop) (KX : St → Prop) : Nat → (St) → Prop := itN (fun self x => wlX12_readPad_75  Post KX self x)
def wpX12_readPad  (p : St)  (Post : Int32 → St → Prop) : Prop := ∀ p1 : St, p1 = p.sI 12 0 → ∀ p2 : St, p2 = p1.sI 17 0 → ∀ p3 : St, p3 = p2.sI 19 0 → ∀ p4 : St, p4 = p3.sI 20 0 → wpX12_nextToken p4 (fun (p5 : St) => ((¬ (p5.I 13) = 1) → Post 0 p5) ∧ (((p5.I 13) = 1) → wpX12_number 1 6 p5 (fun (r6 : Int32) (p7 : St) => ((¬ r6 = 0) → ∀ p8 : St, p8 = p7.sI 18 (p7.I 14) → wpX12_nextToken p8 (fun (p9 : St) => (((p9.I 13) = 5) → ∀ p10 : St, p10 = p9.sI 17 1 → wpX12_nextToken p10 (fun (p11 : St) => ∃ n, wLX12_readPad_75 Post (fun (p25 : St) => Post 1 p25) n p11)) ∧ ((¬ (p9.I 13) = 5) → Post 0 p9))) ∧ ((r6 = 0) → Post 0 p7))))
def wlX12_read_34  (Post : Int32 → St → Prop) (KX : St → Prop) (self : (Int32 × St) → Prop) (x1 : Int32) (p : St) : Prop := (((p.I 17) ≤ x1) → KX p) ∧ ((¬ (p.I 17) ≤ x1) → ∀ x2_6 : Int32, x2_6 = ((4 : Int32) * x1) → vp_in x2_6 600 ∧ ((¬ ((p.A 16) x2_6.toNatClampNeg) = 2) → vp_in x2_6 600 ∧ ((¬ ((p.A 16) x2_6.toNatClampNeg) = 3) → ∀ p7 : St, p7 = p.sA 4 (upd (p.A 4) 125 (((p.A 4) 125) + 1)) → ∀ x1_8 : Int32, x1_8 = x1 + 1 → self (x1_8, p7)) ∧ ((((p.A 16) x2_6.toNatClampNeg) = 3) → vp_in (x2_6 + 1) 600 ∧ vp_in (x2_6 + 2) 600 ∧ vp_in (x2_6 + 3) 600 ∧ wpX12_writeNow ((p.A 16) (x2_6 + 1).toNatClampNeg) ((p.A 16) (x2_6 + 2).toNatClampNeg) ((p.A 16) (x2_6 + 3).toNatClampNeg) p (fun (p9 : St) => ∀ x1_10 : Int32, x1_10 = x1 + 1 → self (x1_10, p9)))) ∧ ((((p.A 16) x2_6.toNatClampNeg) = 2) → vp_in (x2_6 + 1) 600 ∧ ∀ p11 : St, p11 = p.sI 1 ((p.I 1) ||| ((1 : Int32) <<< (((p.A 16) (x2_6 + 1).toNatClampNeg) &&& 31))) → ∀ x1_12 : Int32, x1_12 = x1 + 1 → self (x1_12, p11)))
def wLX12_read_34  (Post : Int32 → St → Prop) (KX : St → Prop) : Nat → (Int32 × St) → Prop := itN (fun self x => wlX12_read_34  Post KX self x.1 x.2)
def wpX12_read  (p : St)  (Post : Int32 → St → Prop) : Prop := wpX12_readPad p (fun (r1 : Int32) (p2 : St) => ((¬ r1 = 0) → ∀ p3 : St, p3 = p2.sI 0 (p2.I 18) → wpX12_empty p3 (fun (p4 : St) => ∀ p5 : St, p5 = p4.sI 3 0 → ∃ n, wLX12_read_34 Post (fun (p13 : St) => Post (p13.I 17) p13) n (1, p5))) ∧ ((r1 = 0) → Post (((-10) : Int32) - (p2.I 15)) p2))
def wlX12_writtenOn_4 (p : St) (Post : Int32 → Prop) (KX : Int32 → Prop) (self : (Int32 × Int32 × Int32) → Prop) (x1 : Int32) (x2 : Int32) (x3 : Int32) : Prop := ((((p.A 4) 124) ≤ x3) → KX x2) ∧ ((¬ ((p.A 4) 124) ≤ x3) → vp_in (((84 : Int32) + ((4 : Int32) * x3)) + 3) 126 ∧ ((¬ ((p.A 4) (((84 : Int32) + ((4 : Int32) * x3)) + 3).toNatClampNeg) = x1) → ∀ x2_1 : Int32, x2_1 = (x2 ||| 0) → ∀ x3_2 : Int32, x3_2 = x3 + 1 → self (x1, x2_1, x3_2)) ∧ ((((p.A 4) (((84 : Int32) + ((4 : Int32) * x3)) + 3).toNatClampNeg) = x1) → ∀ x2_3 : Int32, x2_3 = (x2 ||| ((1 : Int32) <<< (x3 &&& 31))) → ∀ x3_4 : Int32, x3_4 = x3 + 1 → self (x1, x2_3, x3_4)))
def wLX12_writtenOn_4 (p : St) (Post : Int32 → Prop) (KX : Int32 → Prop) : Nat → (Int32 × Int32 × Int32) → Prop := itN (fun self x => wlX12_writtenOn_4 p Post KX self x.1 x.2.1 x.2.2)
def wpX12_writtenOn (x1 : Int32) (p : St)  (Post : Int32 → Prop) : Prop := ∃ n, wLX12_writtenOn_4 p Post (fun (y5 : Int32) => Post y5) n (x1, 0, 0)
def wpX12_of (x1 : Int32) (x2 : Int32) (p : St)  (Post : Int32 → St → Prop) : Prop := wpX12_isSheet x1 p (fun (r1 : Int32) => ((¬ r1 = 0) → (x2 = 0 → vp_in ((0 : Int32) + x1) 126 ∧ Post ((p.A 4) ((0 : Int32) + x1).toNatClampNeg) p) ∧ (x2 = 1 → vp_in ((6 : Int32) + x1) 126 ∧ Post ((p.A 4) ((6 : Int32) + x1).toNatClampNeg) p) ∧ (x2 = 2 → ((((p.A 4) 125) ≤ x1) → Post (x1 - ((p.A 4) 125)) p) ∧ ((¬ ((p.A 4) 125) ≤ x1) → Post (-1) p)) ∧ (x2 = 3 → wpX12_writtenOn x1 p (fun (r2 : Int32) => Post r2 p)) ∧ (¬ x2 = 0 → ¬ x2 = 1 → ¬ x2 = 2 → ¬ x2 = 3 → wpX12_badLess p (fun (r3 : Int32) (p4 : St) => Post r3 p4))) ∧ ((r1 = 0) → wpX12_badLess p (fun (r5 : Int32) (p6 : St) => Post r5 p6)))
def wpX12_dentOf (x1 : Int32) (x2 : Int32) (p : St)  (Post : Int32 → Prop) : Prop := vp_in (((12 : Int32) + ((12 : Int32) * x1)) + x2) 126 ∧ Post ((p.A 4) (((12 : Int32) + ((12 : Int32) * x1)) + x2).toNatClampNeg)
def wjX12_dent_29  (Post : Int32 → St → Prop) (p : St) : Prop := wpX12_bad p (fun (r2 : Int32) (p3 : St) => Post r2 p3)
def wpX12_dent (x1 : Int32) (x2 : Int32) (p : St)  (Post : Int32 → St → Prop) : Prop := wpX12_isSheet x1 p (fun (r1 : Int32) => ((r1 = 0) → wjX12_dent_29 Post p) ∧ ((¬ r1 = 0) → wpX12_in (x2.toInt64) 0 11 (fun (r4 : Int32) => ((r4 = 0) → wjX12_dent_29 Post p) ∧ ((¬ r4 = 0) → wpX12_dentOf x1 x2 p (fun (r5 : Int32) => Post r5 p)))))
def wpX12_about (x1 : Int32) (x2 : Int32) (p : St)  (Post : Int32 → St → Prop) : Prop := wpX12_in (x1.toInt64) 0 (((((p.A 4) 124) - 1)).toInt64) (fun (r1 : Int32) => ((¬ r1 = 0) → ∀ x3_2 : Int32, x3_2 = ((84 : Int32) + ((4 : Int32) * x1)) → (x2 = 0 → vp_in (x3_2 + x2) 126 ∧ Post ((p.A 4) (x3_2 + x2).toNatClampNeg) p) ∧ (x2 = 1 → vp_in (x3_2 + x2) 126 ∧ Post ((p.A 4) (x3_2 + x2).toNatClampNeg) p) ∧ (x2 = 2 → vp_in (x3_2 + x2) 126 ∧ Post ((p.A 4) (x3_2 + x2).toNatClampNeg) p) ∧ (x2 = 3 → vp_in (x3_2 + x2) 126 ∧ Post ((p.A 4) (x3_2 + x2).toNatClampNeg) p) ∧ (x2 = 4 → vp_in x3_2 126 ∧ vp_in (x3_2 + 1) 126 ∧ wpX12_forceOf ((p.A 4) x3_2.toNatClampNeg) ((p.A 4) (x3_2 + 1).toNatClampNeg) 0 (fun (r3 : Int32) => Post r3 p)) ∧ (x2 = 5 → vp_in x3_2 126 ∧ wpX12_hasInk ((p.A 4) x3_2.toNatClampNeg) (fun (r4 : Int32) => ((r4 = 0) → Post 0 p) ∧ ((¬ r4 = 0) → Post 1 p))) ∧ (¬ x2 = 0 → ¬ x2 = 1 → ¬ x2 = 2 → ¬ x2 = 3 → ¬ x2 = 4 → ¬ x2 = 5 → wpX12_bad p (fun (r5 : Int32) (p6 : St) => Post r5 p6))) ∧ ((r1 = 0) → wpX12_bad p (fun (r7 : Int32) (p8 : St) => Post r7 p8)))
def wjX12_force_29  (Post : Int32 → St → Prop) (p : St) : Prop := wpX12_bad p (fun (r2 : Int32) (p3 : St) => Post r2 p3)
def wpX12_force (x1 : Int32) (x2 : Int32) (x3 : Int32) (p : St)  (Post : Int32 → St → Prop) : Prop := wpX12_isPen x1 x2 (fun (r1 : Int32) => ((r1 = 0) → wjX12_force_29 Post p) ∧ ((¬ r1 = 0) → wpX12_in (x3.toInt64) 0 5 (fun (r4 : Int32) => ((r4 = 0) → wjX12_force_29 Post p) ∧ ((¬ r4 = 0) → wpX12_forceOf x1 x2 x3 (fun (r5 : Int32) => Post r5 p)))))
def wpX12_forceIn (x1 : Int32) (x2 : Int32) (x3 : Int32) (p : St)  (Post : Int32 → Prop) : Prop := ∀ x4_1 : Int32, x4_1 = ((84 : Int32) + ((4 : Int32) * x1)) → vp_in (x4_1 + 3) 126 ∧ ∀ x5_2 : Int32, x5_2 = (x2 - ((p.A 4) (x4_1 + 3).toNatClampNeg)) → ((x5_2 < 0) → Post 0) ∧ ((¬ x5_2 < 0) → vp_in (x4_1 + 2) 126 ∧ wpX12_has ((p.A 4) (x4_1 + 2).toNatClampNeg) x3 (fun (r3 : Int32) => ((r3 = 0) → Post 0) ∧ ((¬ r3 = 0) → vp_in x4_1 126 ∧ vp_in (x4_1 + 1) 126 ∧ wpX12_forceOf ((p.A 4) x4_1.toNatClampNeg) ((p.A 4) (x4_1 + 1).toNatClampNeg) x5_2 (fun (r4 : Int32) => Post r4))))
def wlX12_whoseOf_4 (p : St) (Post : Int32 → Prop) (KX : Int32 → Prop) (self : (Int32 × Int32 × Int32) → Prop) (x1 : Int32) (x2 : Int32) (x3 : Int32) : Prop := ((((12 : Int32) * ((p.A 4) 124)) ≤ x3) → KX x2) ∧ ((¬ ((12 : Int32) * ((p.A 4) 124)) ≤ x3) → wpX12_forceIn (x3 / 12) x1 (x3 - x3 / 12 * 12) p (fun (r1 : Int32) => ((r1 ≤ 0) → ∀ x2_2 : Int32, x2_2 = (x2 ||| 0) → ∀ x3_3 : Int32, x3_3 = x3 + 1 → self (x1, x2_2, x3_3)) ∧ ((¬ r1 ≤ 0) → ∀ x2_4 : Int32, x2_4 = (x2 ||| ((1 : Int32) <<< ((x3 / 12) &&& 31))) → ∀ x3_5 : Int32, x3_5 = x3 + 1 → self (x1, x2_4, x3_5))))
def wLX12_whoseOf_4 (p : St) (Post : Int32 → Prop) (KX : Int32 → Prop) : Nat → (Int32 × Int32 × Int32) → Prop := itN (fun self x => wlX12_whoseOf_4 p Post KX self x.1 x.2.1 x.2.2)
def wpX12_whoseOf (x1 : Int32) (p : St)  (Post : Int32 → Prop) : Prop := ∃ n, wLX12_whoseOf_4 p Post (fun (y6 : Int32) => Post y6) n (x1, 0, 0)
def wpX12_whose (x1 : Int32) (p : St)  (Post : Int32 → St → Prop) : Prop := wpX12_isSheet x1 p (fun (r1 : Int32) => ((r1 = 0) → wpX12_bad p (fun (r2 : Int32) (p3 : St) => Post r2 p3)) ∧ ((¬ r1 = 0) → wpX12_whoseOf x1 p (fun (r4 : Int32) => Post r4 p)))
def wjX12_own_27  (Post : Int32 → St → Prop) (p : St) : Prop := wpX12_bad p (fun (r2 : Int32) (p3 : St) => Post r2 p3)
def wlX12_own_65  (Post : Int32 → St → Prop) (KX : Int32 → Int32 → Int32 → Int32 → Int32 → St → Prop) (self : (Int32 × Int32 × Int32 × Int32 × Int32 × Int32 × St) → Prop) (x1 : Int32) (x2 : Int32) (x3 : Int32) (x4 : Int32) (x5 : Int32) (x6 : Int32) (p : St) : Prop := ((((p.A 4) 124) ≤ x6) → KX x1 x2 x3 x4 x5 p) ∧ ((¬ ((p.A 4) 124) ≤ x6) → ((x5 = 0) → ∀ x6_6 : Int32, x6_6 = x6 + 1 → self (x1, x2, x3, x4, 0, x6_6, p)) ∧ ((¬ x5 = 0) → ((x6 = x1) → ∀ x6_7 : Int32, x6_7 = x6 + 1 → self (x1, x2, x3, x4, 1, x6_7, p)) ∧ ((¬ x6 = x1) → wpX12_forceIn x6 x2 x4 p (fun (r8 : Int32) => ((¬ r8 = 0) → ∀ x6_9 : Int32, x6_9 = x6 + 1 → self (x1, x2, x3, x4, 0, x6_9, p)) ∧ ((r8 = 0) → ∀ x6_10 : Int32, x6_10 = x6 + 1 → self (x1, x2, x3, x4, 1, x6_10, p))))))
def wLX12_own_65  (Post : Int32 → St → Prop) (KX : Int32 → Int32 → Int32 → Int32 → Int32 → St → Prop) : Nat → (Int32 × Int32 × Int32 × Int32 × Int32 × Int32 × St) → Prop := itN (fun self x => wlX12_own_65  Post KX self x.1 x.2.1 x.2.2.1 x.2.2.2.1 x.2.2.2.2.1 x.2.2.2.2.2.1 x.2.2.2.2.2.2)
def wlX12_own_37  (Post : Int32 → St → Prop) (KX : Int32 → St → Prop) (self : (Int32 × Int32 × Int32 × Int32 × St) → Prop) (x1 : Int32) (x2 : Int32) (x3 : Int32) (x4 : Int32) (p : St) : Prop := ((12 ≤ x4) → KX x3 p) ∧ ((¬ 12 ≤ x4) → wpX12_forceIn x1 x2 x4 p (fun (r5 : Int32) => ((r5 ≤ 0) → ∃ n, wLX12_own_65 Post (fun (y11 : Int32) (y12 : Int32) (y13 : Int32) (y14 : Int32) (y15 : Int32) (p16 : St) => ((y15 = 0) → ∀ x3_17 : Int32, x3_17 = (y13 ||| 0) → ∀ x4_18 : Int32, x4_18 = y14 + 1 → self (y11, y12, x3_17, x4_18, p16)) ∧ ((¬ y15 = 0) → ∀ x3_19 : Int32, x3_19 = (y13 ||| ((1 : Int32) <<< (y14 &&& 31))) → ∀ x4_20 : Int32, x4_20 = y14 + 1 → self (y11, y12, x3_19, x4_20, p16))) n (x1, x2, x3, x4, 0, 0, p)) ∧ ((¬ r5 ≤ 0) → ∃ n, wLX12_own_65 Post (fun (y21 : Int32) (y22 : Int32) (y23 : Int32) (y24 : Int32) (y25 : Int32) (p26 : St) => ((y25 = 0) → ∀ x3_27 : Int32, x3_27 = (y23 ||| 0) → ∀ x4_28 : Int32, x4_28 = y24 + 1 → self (y21, y22, x3_27, x4_28, p26)) ∧ ((¬ y25 = 0) → ∀ x3_29 : Int32, x3_29 = (y23 ||| ((1 : Int32) <<< (y24 &&& 31))) → ∀ x4_30 : Int32, x4_30 = y24 + 1 → self (y21, y22, x3_29, x4_30, p26))) n (x1, x2, x3, x4, 1, 0, p))))
def wLX12_own_37  (Post : Int32 → St → Prop) (KX : Int32 → St → Prop) : Nat → (Int32 × Int32 × Int32 × Int32 × St) → Prop := itN (fun self x => wlX12_own_37  Post KX self x.1 x.2.1 x.2.2.1 x.2.2.2.1 x.2.2.2.2)
def wpX12_own (x1 : Int32) (x2 : Int32) (p : St)  (Post : Int32 → St → Prop) : Prop := wpX12_in (x1.toInt64) 0 (((((p.A 4) 124) - 1)).toInt64) (fun (r1 : Int32) => ((r1 = 0) → wjX12_own_27 Post p) ∧ ((¬ r1 = 0) → wpX12_isSheet x2 p (fun (r4 : Int32) => ((¬ r4 = 0) → ∃ n, wLX12_own_37 Post (fun (y31 : Int32) (p32 : St) => Post y31 p32) n (x1, x2, 0, 0, p)) ∧ ((r4 = 0) → wjX12_own_27 Post p))))
def wjX12_shown_20  (Post : Int32 → St → Prop) (p : St) : Prop := wpX12_bad p (fun (r2 : Int32) (p3 : St) => Post r2 p3)
def wlX12_shown_30  (Post : Int32 → St → Prop) (KX : Int32 → St → Prop) (self : (Int32 × Int32 × Int32 × Int32 × St) → Prop) (x1 : Int32) (x2 : Int32) (x3 : Int32) (x4 : Int32) (p : St) : Prop := ((12 ≤ x4) → KX x3 p) ∧ ((¬ 12 ≤ x4) → wpX12_dentOf x1 x4 p (fun (r5 : Int32) => ((r5 < x2) → ∀ x3_6 : Int32, x3_6 = (x3 ||| 0) → ∀ x4_7 : Int32, x4_7 = x4 + 1 → self (x1, x2, x3_6, x4_7, p)) ∧ ((¬ r5 < x2) → ∀ x3_8 : Int32, x3_8 = (x3 ||| ((1 : Int32) <<< (x4 &&& 31))) → ∀ x4_9 : Int32, x4_9 = x4 + 1 → self (x1, x2, x3_8, x4_9, p))))
def wLX12_shown_30  (Post : Int32 → St → Prop) (KX : Int32 → St → Prop) : Nat → (Int32 × Int32 × Int32 × Int32 × St) → Prop := itN (fun self x => wlX12_shown_30  Post KX self x.1 x.2.1 x.2.2.1 x.2.2.2.1 x.2.2.2.2)
def wpX12_shown (x1 : Int32) (x2 : Int32) (p : St)  (Post : Int32 → St → Prop) : Prop := wpX12_isSheet x1 p (fun (r1 : Int32) => ((r1 = 0) → wjX12_shown_20 Post p) ∧ ((¬ r1 = 0) → wpX12_in (x2.toInt64) 1 9 (fun (r4 : Int32) => ((¬ r4 = 0) → ∃ n, wLX12_shown_30 Post (fun (y10 : Int32) (p11 : St) => Post y10 p11) n (x1, x2, 0, 0, p)) ∧ ((r4 = 0) → wjX12_shown_20 Post p))))
def wjX12_explained_39 (p : St) (Post : Int32 → Prop) (self : (Int32 × Int32 × Int32 × Int32 × Int32) → Prop) (KX : Int32 → Prop) (x1 : Int32) (x2 : Int32) (x3 : Int32) (x4 : Int32) (x5 : Int32) (z0 : Int32) : Prop := ((z0 ≤ x4) → ∀ x5_2 : Int32, x5_2 = x5 + 1 → self (x1, x2, x3, x4, x5_2)) ∧ ((¬ z0 ≤ x4) → ∀ x5_3 : Int32, x5_3 = x5 + 1 → self (x1, x2, x3, z0, x5_3))
def wlX12_explained_6 (p : St) (Post : Int32 → Prop) (KX : Int32 → Prop) (self : (Int32 × Int32 × Int32 × Int32 × Int32) → Prop) (x1 : Int32) (x2 : Int32) (x3 : Int32) (x4 : Int32) (x5 : Int32) : Prop := ((((p.A 4) 124) ≤ x5) → KX x4) ∧ ((¬ ((p.A 4) 124) ≤ x5) → wpX12_has x2 x5 (fun (r1 : Int32) => ((r1 = 0) → wjX12_explained_39 p Post self KX x1 x2 x3 x4 x5 0) ∧ ((¬ r1 = 0) → wpX12_forceIn x5 x1 x3 p (fun (r4 : Int32) => wjX12_explained_39 p Post self KX x1 x2 x3 x4 x5 r4))))
def wLX12_explained_6 (p : St) (Post : Int32 → Prop) (KX : Int32 → Prop) : Nat → (Int32 × Int32 × Int32 × Int32 × Int32) → Prop := itN (fun self x => wlX12_explained_6 p Post KX self x.1 x.2.1 x.2.2.1 x.2.2.2.1 x.2.2.2.2)
def wpX12_explained (x1 : Int32) (x2 : Int32) (x3 : Int32) (p : St)  (Post : Int32 → Prop) : Prop := ∃ n, wLX12_explained_6 p Post (fun (y5 : Int32) => Post y5) n (x1, x2, x3, 0, 0)
def wjX12_isLost_125  (Post : Int32 → St → Prop) (self : (Int32 × Int32 × Int32 × Int32 × Int32 × St) → Prop) (KX : Int32 → St → Prop) (x1 : Int32) (x2 : Int32) (x3 : Int32) (x4 : Int32) (x5 : Int32) (z0 : Int32) (z1 : Int32) (p : St) : Prop := ∀ p6 : St, p6 = p.sI 22 (z1 ||| z0) → ∀ x5_7 : Int32, x5_7 = x5 + 1 → self (x1, x2, x3, x4, x5_7, p6)
def wjX12_isLost_117  (Post : Int32 → St → Prop) (self : (Int32 × Int32 × Int32 × Int32 × Int32 × St) → Prop) (KX : Int32 → St → Prop) (x1 : Int32) (x2 : Int32) (x3 : Int32) (x4 : Int32) (x5 : Int32) (z0 : Int32) (p : St) : Prop := wjX12_isLost_125 Post self KX x1 x2 x3 x4 x5 ((1 : Int32) <<< (x5 &&& 31)) z0 p
def wjX12_isLost_95  (Post : Int32 → St → Prop) (self : (Int32 × Int32 × Int32 × Int32 × Int32 × St) → Prop) (KX : Int32 → St → Prop) (x1 : Int32) (x2 : Int32) (x3 : Int32) (x4 : Int32) (x5 : Int32) (x6 : Int32) (x7 : Int32) (z0 : Int32) (z1 : Int32) (p : St) : Prop := ∀ p5 : St, p5 = p.sI 21 (z1 ||| z0) → ((x7 < x6) → wjX12_isLost_117 Post self KX x1 x2 x3 x4 x5 (p5.I 22) p5) ∧ ((¬ x7 < x6) → ((x7 < x3) → wjX12_isLost_125 Post self KX x1 x2 x3 x4 x5 0 (p5.I 22) p5) ∧ ((¬ x7 < x3) → wjX12_isLost_117 Post self KX x1 x2 x3 x4 x5 (p5.I 22) p5))
def wjX12_isLost_73  (Post : Int32 → St → Prop) (self : (Int32 × Int32 × Int32 × Int32 × Int32 × St) → Prop) (KX : Int32 → St → Prop) (x1 : Int32) (x2 : Int32) (x3 : Int32) (x5 : Int32) (x6 : Int32) (x7 : Int32) (z0 : Int32) (p : St) : Prop := ((x6 ≤ x7) → wjX12_isLost_95 Post self KX x1 x2 x3 z0 x5 x6 x7 0 (p.I 21) p) ∧ ((¬ x6 ≤ x7) → wjX12_isLost_95 Post self KX x1 x2 x3 z0 x5 x6 x7 ((1 : Int32) <<< (x5 &&& 31)) (p.I 21) p)
def wlX12_isLost_24  (Post : Int32 → St → Prop) (KX : Int32 → St → Prop) (self : (Int32 × Int32 × Int32 × Int32 × Int32 × St) → Prop) (x1 : Int32) (x2 : Int32) (x3 : Int32) (x4 : Int32) (x5 : Int32) (p : St) : Prop := ((12 ≤ x5) → KX x4 p) ∧ ((¬ 12 ≤ x5) → wpX12_dentOf x1 x5 p (fun (r3 : Int32) => wpX12_explained x1 x2 x5 p (fun (r4 : Int32) => ((x4 = 0) → wjX12_isLost_73 Post self KX x1 x2 x3 x5 r3 r4 0 p) ∧ ((¬ x4 = 0) → ((r3 = r4) → wjX12_isLost_73 Post self KX x1 x2 x3 x5 r3 r4 1 p) ∧ ((¬ r3 = r4) → ((¬ r3 = x3) → wjX12_isLost_73 Post self KX x1 x2 x3 x5 r3 r4 0 p) ∧ ((r3 = x3) → wjX12_isLost_73 Post self KX x1 x2 x3 x5 r3 r4 1 p))))))
def wLX12_isLost_24  (Post : Int32 → St → Prop) (KX : Int32 → St → Prop) : Nat → (Int32 × Int32 × Int32 × Int32 × Int32 × St) → Prop := itN (fun self x => wlX12_isLost_24  Post KX self x.1 x.2.1 x.2.2.1 x.2.2.2.1 x.2.2.2.2.1 x.2.2.2.2.2)
def wpX12_isLost (x1 : Int32) (x2 : Int32) (x3 : Int32) (p : St)  (Post : Int32 → St → Prop) : Prop := ∀ p1 : St, p1 = p.sI 21 0 → ∀ p2 : St, p2 = p1.sI 22 0 → ((x3 ≤ 0) → ∃ n, wLX12_isLost_24 Post (fun (y8 : Int32) (p9 : St) => vb y8 ∧ Post y8 p9) n (x1, x2, x3, 0, 0, p2)) ∧ ((¬ x3 ≤ 0) → ∃ n, wLX12_isLost_24 Post (fun (y10 : Int32) (p11 : St) => vb y10 ∧ Post y10 p11) n (x1, x2, x3, 1, 0, p2))
def wpX12_fits (x1 : Int32) (p : St)  (Post : Int32 → Prop) : Prop := ((¬ ((p.I 21) &&& (x1 ^^^ (-1))) = 0) → Post 0) ∧ ((((p.I 21) &&& (x1 ^^^ (-1))) = 0) → ((¬ (x1 &&& ((p.I 22) ^^^ (-1))) = 0) → Post 0) ∧ (((x1 &&& ((p.I 22) ^^^ (-1))) = 0) → Post 1))
def wjX12_lost_51  (Post : Int32 → St → Prop) (p : St) : Prop := wpX12_badLess p (fun (r2 : Int32) (p3 : St) => Post r2 p3)
def wlX12_lost_110  (Post : Int32 → St → Prop) (KX : Int32 → Int32 → Int32 → St → Prop) (self : (Int32 × Int32 × Int32 × Int32 × St) → Prop) (x6 : Int32) (x7 : Int32) (x8 : Int32) (x9 : Int32) (p : St) : Prop := (((p.I 3) ≤ x9) → KX x6 x7 x8 p) ∧ ((¬ (p.I 3) ≤ x9) → vp_in x9 8 ∧ wpX12_fits ((p.A 2) x9.toNatClampNeg) p (fun (r11 : Int32) => ((r11 = 0) → ∀ x8_12 : Int32, x8_12 = (x8 ||| 0) → ∀ x9_13 : Int32, x9_13 = x9 + 1 → self (x6, x7, x8_12, x9_13, p)) ∧ ((¬ r11 = 0) → ∀ x8_14 : Int32, x8_14 = (x8 ||| ((1 : Int32) <<< (x9 &&& 31))) → ∀ x9_15 : Int32, x9_15 = x9 + 1 → self (x6, x7, x8_14, x9_15, p))))
def wLX12_lost_110  (Post : Int32 → St → Prop) (KX : Int32 → Int32 → Int32 → St → Prop) : Nat → (Int32 × Int32 × Int32 × Int32 × St) → Prop := itN (fun self x => wlX12_lost_110  Post KX self x.1 x.2.1 x.2.2.1 x.2.2.2.1 x.2.2.2.2)
def wpX12_lost (x1 : Int32) (x2 : Int32) (x3 : Int32) (x4 : Int32) (x5 : Int32) (x6 : Int32) (p : St)  (Post : Int32 → St → Prop) : Prop := wpX12_isSheet x1 p (fun (r1 : Int32) => ((r1 = 0) → wjX12_lost_51 Post p) ∧ ((¬ r1 = 0) → wpX12_areNotes x2 p (fun (r4 : Int32) => ((r4 = 0) → wjX12_lost_51 Post p) ∧ ((¬ r4 = 0) → wpX12_isPen x3 x4 (fun (r5 : Int32) => ((r5 = 0) → wjX12_lost_51 Post p) ∧ ((¬ r5 = 0) → wpX12_in (x5.toInt64) 0 5 (fun (r6 : Int32) => ((r6 = 0) → wjX12_lost_51 Post p) ∧ ((¬ r6 = 0) → wpX12_in (x6.toInt64) 0 3 (fun (r7 : Int32) => ((¬ r7 = 0) → wpX12_forceOf x3 x4 x5 (fun (r8 : Int32) => wpX12_isLost x1 x2 r8 p (fun (r9 : Int32) (p10 : St) => ((2 ≤ x6) → ∃ n, wLX12_lost_110 Post (fun (y16 : Int32) (y17 : Int32) (y18 : Int32) (p19 : St) => ((¬ y17 = 0) → ((¬ y16 = 2) → Post y18 p19) ∧ ((y16 = 2) → wpX12_ones ((p19.I 22) &&& ((p19.I 21) ^^^ (-1))) (fun (r20 : Int32) => Post ((1 : Int32) <<< (r20 &&& 31)) p19))) ∧ ((y17 = 0) → Post 0 p19)) n (x6, r9, 0, 0, p10)) ∧ ((¬ 2 ≤ x6) → ((¬ r9 = 0) → ((¬ x6 = 0) → Post (p10.I 22) p10) ∧ ((x6 = 0) → Post (p10.I 21) p10)) ∧ ((r9 = 0) → Post (-1) p10))))) ∧ ((r7 = 0) → wjX12_lost_51 Post p))))))))))
def wjX12_pen_52  (Post : Int32 → St → Prop) (p : St) : Prop := wpX12_badLess p (fun (r2 : Int32) (p3 : St) => Post r2 p3)
def wjX12_pen_125  (Post : Int32 → St → Prop) (self : (Int32 × Int32 × Int32 × Int32 × Int32 × Int32 × Int32 × Int32 × St) → Prop) (KX : Int32 → Int32 → Int32 → St → Prop) (x1 : Int32) (x2 : Int32) (x3 : Int32) (x4 : Int32) (x5 : Int32) (x7 : Int32) (x8 : Int32) (x9 : Int32) (z0 : Int32) (z1 : Int32) (p : St) : Prop := ∀ x6_12 : Int32, x6_12 = (z1 + z0) → ((x9 = 0) → ∀ x8_13 : Int32, x8_13 = x8 + (-1) → self (x1, x2, x3, x4, x5, x6_12, x7, x8_13, p)) ∧ ((¬ x9 = 0) → ∀ x7_14 : Int32, x7_14 = ((((10 : Int32) * (x8 / 9)) + (x8 - x8 / 9 * 9)) + 1) → ∀ x8_15 : Int32, x8_15 = x8 + (-1) → self (x1, x2, x3, x4, x5, x6_12, x7_14, x8_15, p))
def wjX12_pen_111  (Post : Int32 → St → Prop) (self : (Int32 × Int32 × Int32 × Int32 × Int32 × Int32 × Int32 × Int32 × St) → Prop) (KX : Int32 → Int32 → Int32 → St → Prop) (x1 : Int32) (x2 : Int32) (x3 : Int32) (x4 : Int32) (x5 : Int32) (x6 : Int32) (x7 : Int32) (x8 : Int32) (z0 : Int32) (p : St) : Prop := ((z0 = 0) → wjX12_pen_125 Post self KX x1 x2 x3 x4 x5 x7 x8 z0 0 x6 p) ∧ ((¬ z0 = 0) → wjX12_pen_125 Post self KX x1 x2 x3 x4 x5 x7 x8 z0 1 x6 p)
def wlX12_pen_67  (Post : Int32 → St → Prop) (KX : Int32 → Int32 → Int32 → St → Prop) (self : (Int32 × Int32 × Int32 × Int32 × Int32 × Int32 × Int32 × Int32 × St) → Prop) (x1 : Int32) (x2 : Int32) (x3 : Int32) (x4 : Int32) (x5 : Int32) (x6 : Int32) (x7 : Int32) (x8 : Int32) (p : St) : Prop := ((x8 < 0) → KX x5 x6 x7 p) ∧ ((¬ x8 < 0) → wpX12_forceOf (x8 / 9) ((x8 - x8 / 9 * 9) + 1) x3 (fun (r9 : Int32) => wpX12_isLost x1 x2 r9 p (fun (r10 : Int32) (p11 : St) => ((r10 = 0) → wjX12_pen_111 Post self KX x1 x2 x3 x4 x5 x6 x7 x8 0 p11) ∧ ((¬ r10 = 0) → wpX12_fits x4 p11 (fun (r16 : Int32) => ((r16 = 0) → wjX12_pen_111 Post self KX x1 x2 x3 x4 x5 x6 x7 x8 0 p11) ∧ ((¬ r16 = 0) → wjX12_pen_111 Post self KX x1 x2 x3 x4 x5 x6 x7 x8 1 p11))))))
def wLX12_pen_67  (Post : Int32 → St → Prop) (KX : Int32 → Int32 → Int32 → St → Prop) : Nat → (Int32 × Int32 × Int32 × Int32 × Int32 × Int32 × Int32 × Int32 × St) → Prop := itN (fun self x => wlX12_pen_67  Post KX self x.1 x.2.1 x.2.2.1 x.2.2.2.1 x.2.2.2.2.1 x.2.2.2.2.2.1 x.2.2.2.2.2.2.1 x.2.2.2.2.2.2.2.1 x.2.2.2.2.2.2.2.2)
def wpX12_pen (x1 : Int32) (x2 : Int32) (x3 : Int32) (x4 : Int32) (x5 : Int32) (p : St)  (Post : Int32 → St → Prop) : Prop := wpX12_isSheet x1 p (fun (r1 : Int32) => ((r1 = 0) → wjX12_pen_52 Post p) ∧ ((¬ r1 = 0) → wpX12_areNotes x2 p (fun (r4 : Int32) => ((r4 = 0) → wjX12_pen_52 Post p) ∧ ((¬ r4 = 0) → wpX12_in (x3.toInt64) 0 5 (fun (r5 : Int32) => ((r5 = 0) → wjX12_pen_52 Post p) ∧ ((¬ r5 = 0) → wpX12_in (x4.toInt64) 1 4095 (fun (r6 : Int32) => ((r6 = 0) → wjX12_pen_52 Post p) ∧ ((¬ r6 = 0) → wpX12_in (x5.toInt64) 0 1 (fun (r7 : Int32) => ((¬ r7 = 0) → ∀ x7_8 : Int32, x7_8 = (-1) → ∃ n, wLX12_pen_67 Post (fun (y17 : Int32) (y18 : Int32) (y19 : Int32) (p20 : St) => ((¬ y17 = 0) → Post y19 p20) ∧ ((y17 = 0) → Post y18 p20)) n (x1, x2, x3, x4, x5, 0, x7_8, 53, p)) ∧ ((r7 = 0) → wjX12_pen_52 Post p))))))))))
def wpX12_exchange (x1 : Int32) (x2 : Int32) (p : St)  (Post : St → Prop) : Prop := vp_in x1 6 ∧ ∀ x3_1 : Int32, x3_1 = ((p.A 23) x1.toNatClampNeg) → vp_in x2 6 ∧ vp_in x1 6 ∧ ∀ p2 : St, p2 = p.sA 23 (upd (p.A 23) x1.toNatClampNeg ((p.A 23) x2.toNatClampNeg)) → vp_in x2 6 ∧ ∀ p3 : St, p3 = p2.sA 23 (upd (p2.A 23) x2.toNatClampNeg x3_1) → Post p3
def wlX12_nextRow_7  (Post : Int32 → St → Prop) (KX : Int32 → St → Prop) (self : (Int32 × St) → Prop) (x1 : Int32) (p : St) : Prop := ((x1 < 0) → KX x1 p) ∧ ((¬ x1 < 0) → vp_in x1 6 ∧ vp_in (x1 + 1) 6 ∧ ((((p.A 23) x1.toNatClampNeg) ≤ ((p.A 23) (x1 + 1).toNatClampNeg)) → KX x1 p) ∧ ((¬ ((p.A 23) x1.toNatClampNeg) ≤ ((p.A 23) (x1 + 1).toNatClampNeg)) → ∀ x1_2 : Int32, x1_2 = x1 + (-1) → self (x1_2, p)))
def wLX12_nextRow_7  (Post : Int32 → St → Prop) (KX : Int32 → St → Prop) : Nat → (Int32 × St) → Prop := itN (fun self x => wlX12_nextRow_7  Post KX self x.1 x.2)
def wlX12_nextRow_47  (Post : Int32 → St → Prop) (KX : Int32 → Int32 → St → Prop) (self : (Int32 × Int32 × St) → Prop) (x1 : Int32) (x2 : Int32) (p : St) : Prop := vp_in x2 6 ∧ vp_in x1 6 ∧ ((((p.A 23) x1.toNatClampNeg) ≤ ((p.A 23) x2.toNatClampNeg)) → KX x1 x2 p) ∧ ((¬ ((p.A 23) x1.toNatClampNeg) ≤ ((p.A 23) x2.toNatClampNeg)) → ∀ x2_6 : Int32, x2_6 = x2 + (-1) → self (x1, x2_6, p))
def wLX12_nextRow_47  (Post : Int32 → St → Prop) (KX : Int32 → Int32 → St → Prop) : Nat → (Int32 × Int32 × St) → Prop := itN (fun self x => wlX12_nextRow_47  Post KX self x.1 x.2.1 x.2.2)
def wlX12_nextRow_86  (Post : Int32 → St → Prop) (KX : St → Prop) (self : (Int32 × Int32 × St) → Prop) (x3 : Int32) (x4 : Int32) (p : St) : Prop := ((x3 ≤ x4) → KX p) ∧ ((¬ x3 ≤ x4) → wpX12_exchange x4 x3 p (fun (p13 : St) => ∀ x3_14 : Int32, x3_14 = x3 + (-1) → ∀ x4_15 : Int32, x4_15 = x4 + 1 → self (x3_14, x4_15, p13)))
def wLX12_nextRow_86  (Post : Int32 → St → Prop) (KX : St → Prop) : Nat → (Int32 × Int32 × St) → Prop := itN (fun self x => wlX12_nextRow_86  Post KX self x.1 x.2.1 x.2.2)
def wjX12_nextRow_34  (Post : Int32 → St → Prop) (x1 : Int32) (p : St) : Prop := ((0 ≤ x1) → ∀ x2_5 : Int32, x2_5 = ((p.I 0) - 1) → ∃ n, wLX12_nextRow_47 Post (fun (y7 : Int32) (y8 : Int32) (p9 : St) => wpX12_exchange y7 y8 p9 (fun (p10 : St) => ∀ x3_11 : Int32, x3_11 = ((p10.I 0) - 1) → ∀ x4_12 : Int32, x4_12 = (y7 + 1) → ∃ n, wLX12_nextRow_86 Post (fun (p16 : St) => Post 1 p16) n (x3_11, x4_12, p10))) n (x1, x2_5, p)) ∧ ((¬ 0 ≤ x1) → Post 0 p)
def wpX12_nextRow  (p : St)  (Post : Int32 → St → Prop) : Prop := ∀ x1_1 : Int32, x1_1 = ((p.I 0) - 2) → ∃ n, wLX12_nextRow_7 Post (fun (y3 : Int32) (p4 : St) => wjX12_nextRow_34 Post y3 p4) n (x1_1, p)
def wlX12_placeOf_2 (p : St) (Post : Int32 → Prop) (KX : Int32 → Prop) (self : (Int32 × Int32) → Prop) (x1 : Int32) (x2 : Int32) : Prop := vp_in x2 6 ∧ ((((p.A 23) x2.toNatClampNeg) = x1) → KX x2) ∧ ((¬ ((p.A 23) x2.toNatClampNeg) = x1) → ∀ x2_1 : Int32, x2_1 = x2 + 1 → self (x1, x2_1))
def wLX12_placeOf_2 (p : St) (Post : Int32 → Prop) (KX : Int32 → Prop) : Nat → (Int32 × Int32) → Prop := itN (fun self x => wlX12_placeOf_2 p Post KX self x.1 x.2)
def wpX12_placeOf (x1 : Int32) (p : St)  (Post : Int32 → Prop) : Prop := ∃ n, wLX12_placeOf_2 p Post (fun (y2 : Int32) => Post y2) n (x1, 0)
def wjX12_isRow_114 (p : St) (Post : Int32 → Prop) (self : (Int32 × Int32 × Int32 × Int32) → Prop) (KX : Int32 → Int32 → Int32 → Prop) (x1 : Int32) (x2 : Int32) (x3 : Int32) (x4 : Int32) (z0 : Int32) : Prop := ((z0 ≤ x3) → ∀ x4_6 : Int32, x4_6 = x4 + 1 → self (x1, x2, x3, x4_6)) ∧ ((¬ z0 ≤ x3) → ∀ x4_7 : Int32, x4_7 = x4 + 1 → self (x1, x2, z0, x4_7))
def wlX12_isRow_23 (p : St) (Post : Int32 → Prop) (KX : Int32 → Int32 → Int32 → Prop) (self : (Int32 × Int32 × Int32 × Int32) → Prop) (x1 : Int32) (x2 : Int32) (x3 : Int32) (x4 : Int32) : Prop := ((((p.A 4) 124) ≤ x4) → KX x1 x2 x3) ∧ ((¬ ((p.A 4) 124) ≤ x4) → ∀ x5_2 : Int32, x5_2 = ((84 : Int32) + ((4 : Int32) * x4)) → wpX12_placeOf x2 p (fun (r3 : Int32) => vp_in (x5_2 + 3) 126 ∧ wpX12_placeOf ((p.A 4) (x5_2 + 3).toNatClampNeg) p (fun (r4 : Int32) => ∀ x6_5 : Int32, x6_5 = (r3 - r4) → ((x6_5 < 0) → wjX12_isRow_114 p Post self KX x1 x2 x3 x4 0) ∧ ((¬ x6_5 < 0) → vp_in (x5_2 + 2) 126 ∧ wpX12_has ((p.A 4) (x5_2 + 2).toNatClampNeg) (x1 - x1 / 12 * 12) (fun (r8 : Int32) => ((r8 = 0) → wjX12_isRow_114 p Post self KX x1 x2 x3 x4 0) ∧ ((¬ r8 = 0) → vp_in x5_2 126 ∧ vp_in (x5_2 + 1) 126 ∧ wpX12_forceOf ((p.A 4) x5_2.toNatClampNeg) ((p.A 4) (x5_2 + 1).toNatClampNeg) x6_5 (fun (r9 : Int32) => wjX12_isRow_114 p Post self KX x1 x2 x3 x4 r9)))))))
def wLX12_isRow_23 (p : St) (Post : Int32 → Prop) (KX : Int32 → Int32 → Int32 → Prop) : Nat → (Int32 × Int32 × Int32 × Int32) → Prop := itN (fun self x => wlX12_isRow_23 p Post KX self x.1 x.2.1 x.2.2.1 x.2.2.2)
def wlX12_isRow_2 (p : St) (Post : Int32 → Prop) (KX : Prop) (self : (Int32) → Prop) (x1 : Int32) : Prop := ((((12 : Int32) * (p.I 0)) ≤ x1) → KX) ∧ ((¬ ((12 : Int32) * (p.I 0)) ≤ x1) → ∀ x2_1 : Int32, x2_1 = (x1 / 12) → ∃ n, wLX12_isRow_23 p Post (fun (y10 : Int32) (y11 : Int32) (y12 : Int32) => wpX12_dentOf y11 (y10 - y10 / 12 * 12) p (fun (r13 : Int32) => ((y12 = r13) → ∀ x1_14 : Int32, x1_14 = y10 + 1 → self x1_14) ∧ ((¬ y12 = r13) → Post 0))) n (x1, x2_1, 0, 0))
def wLX12_isRow_2 (p : St) (Post : Int32 → Prop) (KX : Prop) : Nat → (Int32) → Prop := itN (fun self x => wlX12_isRow_2 p Post KX self x)
def wpX12_isRow  (p : St)  (Post : Int32 → Prop) : Prop := ∃ n, wLX12_isRow_2 p Post (Post 1) n 0
def wlX12_orders_12  (Post : Int32 → St → Prop) (KX : Int32 → St → Prop) (self : (Int32 × Int32 × St) → Prop) (x1 : Int32) (x2 : Int32) (p : St) : Prop := (((p.I 0) ≤ x2) → KX x1 p) ∧ ((¬ (p.I 0) ≤ x2) → vp_in x2 6 ∧ ∀ p1 : St, p1 = p.sA 23 (upd (p.A 23) x2.toNatClampNeg x2) → ∀ x2_2 : Int32, x2_2 = x2 + 1 → self (x1, x2_2, p1))
def wLX12_orders_12  (Post : Int32 → St → Prop) (KX : Int32 → St → Prop) : Nat → (Int32 × Int32 × St) → Prop := itN (fun self x => wlX12_orders_12  Post KX self x.1 x.2.1 x.2.2)
def wjX12_orders_87  (Post : Int32 → St → Prop) (self : (Int32 × Int32 × Int32 × St) → Prop) (KX : Int32 → Int32 → St → Prop) (x1 : Int32) (x2 : Int32) (p : St) : Prop := wpX12_nextRow p (fun (r6 : Int32) (p7 : St) => self (x1, x2, r6, p7))
def wlX12_orders_51  (Post : Int32 → St → Prop) (KX : Int32 → Int32 → St → Prop) (self : (Int32 × Int32 × Int32 × St) → Prop) (x1 : Int32) (x2 : Int32) (x4 : Int32) (p : St) : Prop := (((p.I 0) ≤ x4) → KX x1 x2 p) ∧ ((¬ (p.I 0) ≤ x4) → ((¬ x2 = 0) → KX x1 x2 p) ∧ ((x2 = 0) → vp_in x4 6 ∧ vp_in x4 6 ∧ ∀ p8 : St, p8 = p.sA 24 (upd (p.A 24) x4.toNatClampNeg ((p.A 23) x4.toNatClampNeg)) → ∀ x4_9 : Int32, x4_9 = x4 + 1 → self (x1, x2, x4_9, p8)))
def wLX12_orders_51  (Post : Int32 → St → Prop) (KX : Int32 → Int32 → St → Prop) : Nat → (Int32 × Int32 × Int32 × St) → Prop := itN (fun self x => wlX12_orders_51  Post KX self x.1 x.2.1 x.2.2.1 x.2.2.2)
def wlX12_orders_37  (Post : Int32 → St → Prop) (KX : Int32 → Int32 → St → Prop) (self : (Int32 × Int32 × Int32 × St) → Prop) (x1 : Int32) (x2 : Int32) (x3 : Int32) (p : St) : Prop := ((x3 = 0) → KX x1 x2 p) ∧ ((¬ x3 = 0) → wpX12_isRow p (fun (r5 : Int32) => ((r5 = 0) → wjX12_orders_87 Post self KX x1 x2 p) ∧ ((¬ r5 = 0) → ∃ n, wLX12_orders_51 Post (fun (y10 : Int32) (y11 : Int32) (p12 : St) => ∀ x2_13 : Int32, x2_13 = y11 + 1 → wjX12_orders_87 Post self KX y10 x2_13 p12) n (x1, x2, 0, p))))
def wLX12_orders_37  (Post : Int32 → St → Prop) (KX : Int32 → Int32 → St → Prop) : Nat → (Int32 × Int32 × Int32 × St) → Prop := itN (fun self x => wlX12_orders_37  Post KX self x.1 x.2.1 x.2.2.1 x.2.2.2)
def wpX12_orders (x1 : Int32) (p : St)  (Post : Int32 → St → Prop) : Prop := (((-1) ≤ x1) → ∃ n, wLX12_orders_12 Post (fun (y3 : Int32) (p4 : St) => ∃ n, wLX12_orders_37 Post (fun (y14 : Int32) (y15 : Int32) (p16 : St) => ((¬ y14 = (-1)) → ((¬ y15 = 0) → ((y14 < (p16.I 0)) → vp_in y14 6 ∧ Post ((p16.A 24) y14.toNatClampNeg) p16) ∧ ((¬ y14 < (p16.I 0)) → Post (-5) p16)) ∧ ((y15 = 0) → Post (-1) p16)) ∧ ((y14 = (-1)) → Post y15 p16)) n (y3, 0, 1, p4)) n (x1, 0, p)) ∧ ((¬ (-1) ≤ x1) → wpX12_badLess p (fun (r17 : Int32) (p18 : St) => Post r17 p18))
def wjX12_press_24  (Post : Int32 → St → Prop) (p : St) : Prop := wpX12_bad p (fun (r2 : Int32) (p3 : St) => Post r2 p3)
def wlX12_press_31  (Post : Int32 → St → Prop) (KX : St → Prop) (self : (Int32 × Int32 × Int32 × St) → Prop) (x1 : Int32) (x2 : Int32) (x3 : Int32) (p : St) : Prop := ((9 < x3) → KX p) ∧ ((¬ 9 < x3) → wpX12_forceOf x1 x3 x2 (fun (r5 : Int32) => ((r5 < 2) → ∀ x3_6 : Int32, x3_6 = x3 + 1 → self (x1, x2, x3_6, p)) ∧ ((¬ r5 < 2) → Post x3 p)))
def wLX12_press_31  (Post : Int32 → St → Prop) (KX : St → Prop) : Nat → (Int32 × Int32 × Int32 × St) → Prop := itN (fun self x => wlX12_press_31  Post KX self x.1 x.2.1 x.2.2.1 x.2.2.2)
def wpX12_press (x1 : Int32) (x2 : Int32) (p : St)  (Post : Int32 → St → Prop) : Prop := wpX12_in (x1.toInt64) 0 5 (fun (r1 : Int32) => ((r1 = 0) → wjX12_press_24 Post p) ∧ ((¬ r1 = 0) → wpX12_in (x2.toInt64) 1 5 (fun (r4 : Int32) => ((¬ r4 = 0) → ∃ n, wLX12_press_31 Post (fun (p7 : St) => Post (-1) p7) n (x1, x2, 1, p)) ∧ ((r4 = 0) → wjX12_press_24 Post p))))
def wjX12_copies_56  (Post : Int32 → St → Prop) (p : St) : Prop := wpX12_badLess p (fun (r2 : Int32) (p3 : St) => Post r2 p3)
def wlX12_copies_67  (Post : Int32 → St → Prop) (KX : Int32 → Int32 → St → Prop) (self : (Int32 × Int32 × Int32 × Int32 × Int32 × Int32 × St) → Prop) (x1 : Int32) (x2 : Int32) (x3 : Int32) (x4 : Int32) (x6 : Int32) (x7 : Int32) (p : St) : Prop := (((p.I 0) ≤ x7) → KX x4 x6 p) ∧ ((¬ (p.I 0) ≤ x7) → wpX12_has x1 x7 (fun (r6 : Int32) => ((r6 = 0) → ∀ x7_7 : Int32, x7_7 = x7 + 1 → self (x1, x2, x3, x4, x6, x7_7, p)) ∧ ((¬ r6 = 0) → ∀ x8_8 : Int32, x8_8 = (x7 - ((p.A 4) 125)) → ((x8_8 = 0) → Post (-1) p) ∧ ((¬ x8_8 = 0) → wpX12_forceOf x2 x3 x8_8 (fun (r9 : Int32) => ((2 ≤ r9) → ∀ x6_10 : Int32, x6_10 = (x6 ||| (((1 : Int32) <<< ((x7 - 1) &&& 31)) &&& ((p.I 1) ^^^ (-1)))) → ∀ x7_11 : Int32, x7_11 = x7 + 1 → self (x1, x2, x3, x4, x6_10, x7_11, p)) ∧ ((¬ 2 ≤ r9) → Post (-1) p))))))
def wLX12_copies_67  (Post : Int32 → St → Prop) (KX : Int32 → Int32 → St → Prop) : Nat → (Int32 × Int32 × Int32 × Int32 × Int32 × Int32 × St) → Prop := itN (fun self x => wlX12_copies_67  Post KX self x.1 x.2.1 x.2.2.1 x.2.2.2.1 x.2.2.2.2.1 x.2.2.2.2.2.1 x.2.2.2.2.2.2)
def wpX12_copies (x1 : Int32) (x2 : Int32) (x3 : Int32) (x4 : Int32) (p : St)  (Post : Int32 → St → Prop) : Prop := ∀ x5_1 : Int32, x5_1 = ((((1 : Int32) <<< ((p.I 0) &&& 31)) - 1) &&& ((((1 : Int32) <<< (((p.A 4) 125) &&& 31)) - 1) ^^^ (-1))) → ((x1 < 0) → wjX12_copies_56 Post p) ∧ ((¬ x1 < 0) → ((¬ (x1 &&& (x5_1 ^^^ (-1))) = 0) → wjX12_copies_56 Post p) ∧ (((x1 &&& (x5_1 ^^^ (-1))) = 0) → wpX12_isPen x2 x3 (fun (r4 : Int32) => ((r4 = 0) → wjX12_copies_56 Post p) ∧ ((¬ r4 = 0) → wpX12_in (x4.toInt64) 0 1 (fun (r5 : Int32) => ((¬ r5 = 0) → ∃ n, wLX12_copies_67 Post (fun (y12 : Int32) (y13 : Int32) (p14 : St) => ((¬ y12 = 0) → Post y13 p14) ∧ ((y12 = 0) → wpX12_ones y13 (fun (r15 : Int32) => Post r15 p14))) n (x1, x2, x3, x4, 0, 0, p)) ∧ ((r5 = 0) → wjX12_copies_56 Post p))))))
def wlX12_common_6  (Post : Int64 → Prop) (KX : Int64 → Prop) (self : (Int64 × Int64) → Prop) (x4 : Int64) (x6 : Int64) : Prop := (((lg_cmp x6 0) = 0) → KX x4) ∧ ((¬ (lg_cmp x6 0) = 0) → ¬ x6 = 0 ∧ ∀ x8_1 : Int64, x8_1 = (x4 - x4 / x6 * x6) → self (x6, x8_1))
def wLX12_common_6  (Post : Int64 → Prop) (KX : Int64 → Prop) : Nat → (Int64 × Int64) → Prop := itN (fun self x => wlX12_common_6  Post KX self x.1 x.2)
def wpX12_common (x0 : Int64) (x2 : Int64)   (Post : Int64 → Prop) : Prop := ∃ n, wLX12_common_6 Post (fun (y2 : Int64) => Post y2) n (x0, x2)
def wjX12_rub_30  (Post : Int32 → St → Prop) (p : St) : Prop := wpX12_bad p (fun (r2 : Int32) (p3 : St) => Post r2 p3)
def wjX12_rub_103  (Post : Int32 → St → Prop) (self : (Int32 × Int32 × Int32 × Int32 × St) → Prop) (KX : St → Prop) (x1 : Int32) (x2 : Int32) (x3 : Int32) (x4 : Int32) (z0 : Int64) (z1 : Int64) (p : St) : Prop := ∀ p11 : St, p11 = p.sL 7 (z1 * z0) → ∀ p12 : St, p12 = p11.sL 8 ((p11.L 8) * 10) → ∀ x4_13 : Int32, x4_13 = x4 + 1 → self (x1, x2, x3, x4_13, p12)
def wjX12_rub_77  (Post : Int32 → St → Prop) (self : (Int32 × Int32 × Int32 × Int32 × St) → Prop) (KX : St → Prop) (x1 : Int32) (x2 : Int32) (x3 : Int32) (x4 : Int32) (x5 : Int32) (p : St) : Prop := wpX12_has x2 x4 (fun (r10 : Int32) => ((r10 = 0) → wjX12_rub_103 Post self KX x1 x2 x3 x4 ((((10 : Int32) - x5)).toInt64) (p.L 7) p) ∧ ((¬ r10 = 0) → wjX12_rub_103 Post self KX x1 x2 x3 x4 (x5.toInt64) (p.L 7) p))
def wlX12_rub_48  (Post : Int32 → St → Prop) (KX : St → Prop) (self : (Int32 × Int32 × Int32 × Int32 × St) → Prop) (x1 : Int32) (x2 : Int32) (x3 : Int32) (x4 : Int32) (p : St) : Prop := ((12 ≤ x4) → KX p) ∧ ((¬ 12 ≤ x4) → wpX12_dentOf x1 x4 p (fun (r8 : Int32) => wpX12_has x2 x4 (fun (r9 : Int32) => ((¬ r9 = 0) → wjX12_rub_77 Post self KX x1 x2 x3 x4 r8 p) ∧ ((r9 = 0) → ((¬ x3 = 0) → ∀ x4_14 : Int32, x4_14 = x4 + 1 → self (x1, x2, x3, x4_14, p)) ∧ ((x3 = 0) → wjX12_rub_77 Post self KX x1 x2 x3 x4 r8 p)))))
def wLX12_rub_48  (Post : Int32 → St → Prop) (KX : St → Prop) : Nat → (Int32 × Int32 × Int32 × Int32 × St) → Prop := itN (fun self x => wlX12_rub_48  Post KX self x.1 x.2.1 x.2.2.1 x.2.2.2.1 x.2.2.2.2)
def wpX12_rub (x1 : Int32) (x2 : Int32) (x3 : Int32) (p : St)  (Post : Int32 → St → Prop) : Prop := wpX12_isSheet x1 p (fun (r1 : Int32) => ((r1 = 0) → wjX12_rub_30 Post p) ∧ ((¬ r1 = 0) → wpX12_in (x2.toInt64) 0 4095 (fun (r4 : Int32) => ((r4 = 0) → wjX12_rub_30 Post p) ∧ ((¬ r4 = 0) → wpX12_in (x3.toInt64) 0 1 (fun (r5 : Int32) => ((¬ r5 = 0) → ∀ p6 : St, p6 = p.sL 7 1 → ∀ p7 : St, p7 = p6.sL 8 1 → ∃ n, wLX12_rub_48 Post (fun (p15 : St) => wpX12_common (p15.L 7) (p15.L 8) (fun (r16 : Int64) => ¬ r16 = 0 ∧ ∀ p17 : St, p17 = p15.sL 7 ((p15.L 7) / r16) → ¬ r16 = 0 ∧ ∀ p18 : St, p18 = p17.sL 8 ((p17.L 8) / r16) → Post 1 p18)) n (x1, x2, x3, 0, p7)) ∧ ((r5 = 0) → wjX12_rub_30 Post p))))))
def wlX12_torn_21  (Post : Int32 → St → Prop) (KX : St → Prop) (self : (Int32 × Int32 × St) → Prop) (x1 : Int32) (x2 : Int32) (p : St) : Prop := (((p.I 0) ≤ x2) → KX p) ∧ ((¬ (p.I 0) ≤ x2) → wpX12_whoseOf x2 p (fun (r3 : Int32) => ((¬ (r3 &&& x1) = 0) → ∀ x2_4 : Int32, x2_4 = x2 + 1 → self (x1, x2_4, p)) ∧ (((r3 &&& x1) = 0) → Post (x2 - ((p.A 4) 125)) p)))
def wLX12_torn_21  (Post : Int32 → St → Prop) (KX : St → Prop) : Nat → (Int32 × Int32 × St) → Prop := itN (fun self x => wlX12_torn_21  Post KX self x.1 x.2.1 x.2.2)
def wpX12_torn (x1 : Int32) (p : St)  (Post : Int32 → St → Prop) : Prop := wpX12_areNotes x1 p (fun (r1 : Int32) => ((¬ r1 = 0) → ∀ x2_2 : Int32, x2_2 = ((p.A 4) 125) → ∃ n, wLX12_torn_21 Post (fun (p5 : St) => Post (-1) p5) n (x1, x2_2, p)) ∧ ((r1 = 0) → wpX12_bad p (fun (r6 : Int32) (p7 : St) => Post r6 p7)))
def wpX12_draw (x1 : Int32) (p : St)  (Post : Int32 → St → Prop) : Prop := ∀ p1 : St, p1 = p.sL 26 ((((p.L 26) * 1103515245) + 12345) - (((p.L 26) * 1103515245) + 12345) / 2147483648 * 2147483648) → ¬ (x1.toInt64) = 0 ∧ Post ((((p1.L 26) / 65536) - ((p1.L 26) / 65536) / (x1.toInt64) * (x1.toInt64)).toInt32) p1
def wjX12_drawn_24  (Post : Int32 → St → Prop) (p : St) : Prop := wpX12_bad p (fun (r2 : Int32) (p3 : St) => Post r2 p3)
def wlX12_drawn_47  (Post : Int32 → St → Prop) (KX : Int32 → Int32 → St → Prop) (self : (Int32 × Int32 × Int32 × St) → Prop) (x1 : Int32) (x2 : Int32) (x3 : Int32) (p : St) : Prop := ((126 ≤ x3) → KX x1 x2 p) ∧ ((¬ 126 ≤ x3) → vp_in x3 126 ∧ vp_in x3 126 ∧ ∀ p5 : St, p5 = p.sA 25 (upd (p.A 25) x3.toNatClampNeg ((p.A 4) x3.toNatClampNeg)) → ∀ x3_6 : Int32, x3_6 = x3 + 1 → self (x1, x2, x3_6, p5))
def wLX12_drawn_47  (Post : Int32 → St → Prop) (KX : Int32 → Int32 → St → Prop) : Nat → (Int32 × Int32 × Int32 × St) → Prop := itN (fun self x => wlX12_drawn_47  Post KX self x.1 x.2.1 x.2.2.1 x.2.2.2)
def wjX12_drawn_153  (Post : Int32 → St → Prop) (self : (Int32 × Int32 × St) → Prop) (KX : St → Prop) (x2 : Int32) (x3 : Int32) (z0 : Int32) (z1 : Int32) (z2 : Int32) (p : St) : Prop := vp_in z2 126 ∧ ∀ p19 : St, p19 = p.sA 4 (upd (p.A 4) z2.toNatClampNeg (z1 + z0)) → ∀ x3_20 : Int32, x3_20 = x3 + 1 → self (x2, x3_20, p19)
def wlX12_drawn_79  (Post : Int32 → St → Prop) (KX : St → Prop) (self : (Int32 × Int32 × St) → Prop) (x2 : Int32) (x3 : Int32) (p : St) : Prop := ((x2 ≤ x3) → KX p) ∧ ((¬ x2 ≤ x3) → wpX12_draw 6 p (fun (r11 : Int32) (p12 : St) => wpX12_draw 9 p12 (fun (r13 : Int32) (p14 : St) => ∀ x5_15 : Int32, x5_15 = (r13 + 1) → wpX12_draw 4096 p14 (fun (r16 : Int32) (p17 : St) => wpX12_dentAll r11 x5_15 r16 p17 (fun (p18 : St) => ((¬ (x3 - x3 / 3 * 3) = 2) → wjX12_drawn_153 Post self KX x2 x3 0 ((p18.A 4) 125) 125 p18) ∧ (((x3 - x3 / 3 * 3) = 2) → (((p18.I 0) ≤ (((p18.A 4) 125) + 1)) → wjX12_drawn_153 Post self KX x2 x3 0 ((p18.A 4) 125) 125 p18) ∧ ((¬ (p18.I 0) ≤ (((p18.A 4) 125) + 1)) → wjX12_drawn_153 Post self KX x2 x3 1 ((p18.A 4) 125) 125 p18)))))))
def wLX12_drawn_79  (Post : Int32 → St → Prop) (KX : St → Prop) : Nat → (Int32 × Int32 × St) → Prop := itN (fun self x => wlX12_drawn_79  Post KX self x.1 x.2.1 x.2.2)
def wlX12_drawn_166  (Post : Int32 → St → Prop) (KX : Int32 → St → Prop) (self : (Int32 × Int32 × St) → Prop) (x3 : Int32) (x4 : Int32) (p : St) : Prop := ((12 ≤ x4) → KX x3 p) ∧ ((¬ 12 ≤ x4) → wpX12_dentOf ((p.I 0) - 1) x4 p (fun (r22 : Int32) => ∀ x3_23 : Int32, x3_23 = (x3 + r22) → ∀ x4_24 : Int32, x4_24 = x4 + 1 → self (x3_23, x4_24, p)))
def wLX12_drawn_166  (Post : Int32 → St → Prop) (KX : Int32 → St → Prop) : Nat → (Int32 × Int32 × St) → Prop := itN (fun self x => wlX12_drawn_166  Post KX self x.1 x.2.1 x.2.2)
def wlX12_drawn_197  (Post : Int32 → St → Prop) (KX : Int32 → St → Prop) (self : (Int32 × Int32 × St) → Prop) (x3 : Int32) (x4 : Int32) (p : St) : Prop := ((126 ≤ x4) → KX x3 p) ∧ ((¬ 126 ≤ x4) → vp_in x4 126 ∧ vp_in x4 126 ∧ ∀ p27 : St, p27 = p.sA 4 (upd (p.A 4) x4.toNatClampNeg ((p.A 25) x4.toNatClampNeg)) → ∀ x4_28 : Int32, x4_28 = x4 + 1 → self (x3, x4_28, p27))
def wLX12_drawn_197  (Post : Int32 → St → Prop) (KX : Int32 → St → Prop) : Nat → (Int32 × Int32 × St) → Prop := itN (fun self x => wlX12_drawn_197  Post KX self x.1 x.2.1 x.2.2)
def wpX12_drawn (x1 : Int32) (x2 : Int32) (p : St)  (Post : Int32 → St → Prop) : Prop := wpX12_in (x1.toInt64) 0 999999 (fun (r1 : Int32) => ((r1 = 0) → wjX12_drawn_24 Post p) ∧ ((¬ r1 = 0) → wpX12_in (x2.toInt64) 0 20 (fun (r4 : Int32) => ((¬ r4 = 0) → ((¬ ((p.A 4) 125) = (p.I 0)) → ∃ n, wLX12_drawn_47 Post (fun (y7 : Int32) (y8 : Int32) (p9 : St) => ∀ p10 : St, p10 = p9.sL 26 (y7.toInt64) → ∃ n, wLX12_drawn_79 Post (fun (p21 : St) => ∃ n, wLX12_drawn_166 Post (fun (y25 : Int32) (p26 : St) => ∃ n, wLX12_drawn_197 Post (fun (y29 : Int32) (p30 : St) => Post y29 p30) n (y25, 0, p26)) n (0, 0, p21)) n (y8, 0, p10)) n (x1, x2, 0, p)) ∧ ((((p.A 4) 125) = (p.I 0)) → Post (-1) p)) ∧ ((r4 = 0) → wjX12_drawn_24 Post p))))
def wpX12_part (x1 : Int32) (p : St)  (Post : Int64 → St → Prop) : Prop := ((¬ x1 = 0) → ((¬ x1 = 1) → wpX12_bad p (fun (r1 : Int32) (p2 : St) => Post (r1.toInt64) p2)) ∧ ((x1 = 1) → Post (p.L 8) p)) ∧ ((x1 = 0) → Post (p.L 7) p)
def wlX12_carry_3 (q : (Nat → Int32)) (n0 : Nat) (n1 : Nat) (Post : (Nat → Int32) → Prop) (KX : (Nat → Int32) → Prop) (self : (Int32 × Int32 × Int32 × Int32 × (Nat → Int32)) → Prop) (x2 : Int32) (x4 : Int32) (x5 : Int32) (x6 : Int32) (p : (Nat → Int32)) : Prop := ((x5 ≤ x6) → KX p) ∧ ((¬ x5 ≤ x6) → vp_in (x4 + x6) n1 ∧ vp_in (x2 + x6) n0 ∧ ∀ p1 : (Nat → Int32), p1 = (upd p (x2 + x6).toNatClampNeg (q (x4 + x6).toNatClampNeg)) → ∀ x6_2 : Int32, x6_2 = x6 + 1 → self (x2, x4, x5, x6_2, p1))
def wLX12_carry_3 (q : (Nat → Int32)) (n0 : Nat) (n1 : Nat) (Post : (Nat → Int32) → Prop) (KX : (Nat → Int32) → Prop) : Nat → (Int32 × Int32 × Int32 × Int32 × (Nat → Int32)) → Prop := itN (fun self x => wlX12_carry_3 q n0 n1 Post KX self x.1 x.2.1 x.2.2.1 x.2.2.2.1 x.2.2.2.2)
def wpX12_carry (x2 : Int32) (x4 : Int32) (x5 : Int32) (p : (Nat → Int32)) (q : (Nat → Int32)) (n0 : Nat) (n1 : Nat) (Post : (Nat → Int32) → Prop) : Prop := ∃ n, wLX12_carry_3 q n0 n1 Post (fun (p3 : (Nat → Int32)) => Post p3) n (x2, x4, x5, 0, p)
def wpX12_image (x1 : Int32) (p : St)  (Post : Int32 → St → Prop) : Prop := wpX12_in (x1.toInt64) 0 1 (fun (r1 : Int32) => ((¬ r1 = 0) → ∀ x2_2 : Int32, x2_2 = ((1154 : Int32) * x1) → wpX12_carry x2_2 0 126 (p.A 28) (p.A 4) 2308 126 (fun (p3 : (Nat → Int32)) => wpX12_carry (x2_2 + 126) 0 1008 ((p.sA 28 p3).A 28) ((p.sA 28 p3).A 5) 2308 1008 (fun (p4 : (Nat → Int32)) => wpX12_carry (x2_2 + 1134) 0 8 (((p.sA 28 p3).sA 28 p4).A 28) (((p.sA 28 p3).sA 28 p4).A 2) 2308 8 (fun (p5 : (Nat → Int32)) => vp_in (x2_2 + 1142) 2308 ∧ ∀ p6 : St, p6 = (((p.sA 28 p3).sA 28 p4).sA 28 p5).sA 28 (upd ((((p.sA 28 p3).sA 28 p4).sA 28 p5).A 28) (x2_2 + 1142).toNatClampNeg ((((p.sA 28 p3).sA 28 p4).sA 28 p5).I 0)) → vp_in (x2_2 + 1143) 2308 ∧ ∀ p7 : St, p7 = p6.sA 28 (upd (p6.A 28) (x2_2 + 1143).toNatClampNeg (p6.I 1)) → vp_in (x2_2 + 1144) 2308 ∧ ∀ p8 : St, p8 = p7.sA 28 (upd (p7.A 28) (x2_2 + 1144).toNatClampNeg (p7.I 3)) → vp_in (x2_2 + 1145) 2308 ∧ ∀ p9 : St, p9 = p8.sA 28 (upd (p8.A 28) (x2_2 + 1145).toNatClampNeg (p8.I 6)) → vp_in x1 2 ∧ ∀ p10 : St, p10 = p9.sA 27 (upd (p9.A 27) x1.toNatClampNeg (vp_nar .boolean 1)) → Post 1 p10)))) ∧ ((r1 = 0) → wpX12_bad p (fun (r11 : Int32) (p12 : St) => Post r11 p12)))
def wpX12_from (x1 : Int32) (p : St)  (Post : Int32 → St → Prop) : Prop := wpX12_in (x1.toInt64) 0 1 (fun (r1 : Int32) => ((¬ r1 = 0) → vp_in x1 2 ∧ ((¬ ((p.A 27) x1.toNatClampNeg) = 0) → ∀ x2_2 : Int32, x2_2 = ((1154 : Int32) * x1) → wpX12_carry 0 x2_2 126 (p.A 4) (p.A 28) 126 2308 (fun (p3 : (Nat → Int32)) => wpX12_carry 0 (x2_2 + 126) 1008 ((p.sA 4 p3).A 5) ((p.sA 4 p3).A 28) 1008 2308 (fun (p4 : (Nat → Int32)) => wpX12_carry 0 (x2_2 + 1134) 8 (((p.sA 4 p3).sA 5 p4).A 2) (((p.sA 4 p3).sA 5 p4).A 28) 8 2308 (fun (p5 : (Nat → Int32)) => vp_in (x2_2 + 1142) 2308 ∧ ∀ p6 : St, p6 = (((p.sA 4 p3).sA 5 p4).sA 2 p5).sI 0 (((((p.sA 4 p3).sA 5 p4).sA 2 p5).A 28) (x2_2 + 1142).toNatClampNeg) → vp_in (x2_2 + 1143) 2308 ∧ ∀ p7 : St, p7 = p6.sI 1 ((p6.A 28) (x2_2 + 1143).toNatClampNeg) → vp_in (x2_2 + 1144) 2308 ∧ ∀ p8 : St, p8 = p7.sI 3 ((p7.A 28) (x2_2 + 1144).toNatClampNeg) → vp_in (x2_2 + 1145) 2308 ∧ ∀ p9 : St, p9 = p8.sI 6 ((p8.A 28) (x2_2 + 1145).toNatClampNeg) → Post 1 p9)))) ∧ ((((p.A 27) x1.toNatClampNeg) = 0) → wpX12_refuse 1 (-3) p (fun (r10 : Int32) (p11 : St) => Post r10 p11))) ∧ ((r1 = 0) → wpX12_bad p (fun (r12 : Int32) (p13 : St) => Post r12 p13)))
def wpX12_status (x1 : Int32) (p : St)  (Post : Int32 → St → Prop) : Prop := wpX12_in (x1.toInt64) 0 2 (fun (r1 : Int32) => ((r1 = 0) → wpX12_refuse 0 (-1) p (fun (r2 : Int32) (p3 : St) => Post r2 p3)) ∧ ((¬ r1 = 0) → vp_in x1 3 ∧ Post ((p.A 9) x1.toNatClampNeg) p))
def wpX12_countOf (x1 : Int32) (p : St)  (Post : Int32 → Prop) : Prop := ((¬ x1 = 0) → ((¬ x1 = 1) → ((¬ x1 = 2) → ((¬ x1 = 3) → ((¬ x1 = 4) → ((¬ x1 = 5) → Post (p.I 11)) ∧ ((x1 = 5) → Post (p.I 6))) ∧ ((x1 = 4) → Post (p.I 1))) ∧ ((x1 = 3) → Post (p.I 3))) ∧ ((x1 = 2) → Post ((p.A 4) 124))) ∧ ((x1 = 1) → Post ((p.A 4) 125))) ∧ ((x1 = 0) → Post (p.I 0))
def wpX12_count (x1 : Int32) (p : St)  (Post : Int32 → St → Prop) : Prop := wpX12_in (x1.toInt64) 0 6 (fun (r1 : Int32) => ((r1 = 0) → wpX12_bad p (fun (r2 : Int32) (p3 : St) => Post r2 p3)) ∧ ((¬ r1 = 0) → wpX12_countOf x1 p (fun (r4 : Int32) => Post r4 p)))
def wpX12_mix (x1 : Int64) (p : St)  (Post : St → Prop) : Prop := ∀ p1 : St, p1 = p.sL 29 ((31 * (p.L 29)) + x1) → Post p1
def wlX12_digest_9  (Post : Int64 → St → Prop) (KX : St → Prop) (self : (Int32 × St) → Prop) (x1 : Int32) (p : St) : Prop := ((7 ≤ x1) → KX p) ∧ ((¬ 7 ≤ x1) → wpX12_countOf x1 p (fun (r2 : Int32) => wpX12_mix (r2.toInt64) p (fun (p3 : St) => ∀ x1_4 : Int32, x1_4 = x1 + 1 → self (x1_4, p3))))
def wLX12_digest_9  (Post : Int64 → St → Prop) (KX : St → Prop) : Nat → (Int32 × St) → Prop := itN (fun self x => wlX12_digest_9  Post KX self x.1 x.2)
def wlX12_digest_70  (Post : Int64 → St → Prop) (KX : Int32 → St → Prop) (self : (Int32 × Int32 × St) → Prop) (x1 : Int32) (x2 : Int32) (p : St) : Prop := ((12 ≤ x2) → KX x1 p) ∧ ((¬ 12 ≤ x2) → wpX12_dentOf x1 x2 p (fun (r8 : Int32) => wpX12_mix (r8.toInt64) p (fun (p9 : St) => ∀ x2_10 : Int32, x2_10 = x2 + 1 → self (x1, x2_10, p9))))
def wLX12_digest_70  (Post : Int64 → St → Prop) (KX : Int32 → St → Prop) : Nat → (Int32 × Int32 × St) → Prop := itN (fun self x => wlX12_digest_70  Post KX self x.1 x.2.1 x.2.2)
def wlX12_digest_33  (Post : Int64 → St → Prop) (KX : St → Prop) (self : (Int32 × St) → Prop) (x1 : Int32) (p : St) : Prop := (((p.I 0) ≤ x1) → KX p) ∧ ((¬ (p.I 0) ≤ x1) → vp_in ((0 : Int32) + x1) 126 ∧ wpX12_mix ((((p.A 4) ((0 : Int32) + x1).toNatClampNeg)).toInt64) p (fun (p6 : St) => vp_in ((6 : Int32) + x1) 126 ∧ wpX12_mix ((((p6.A 4) ((6 : Int32) + x1).toNatClampNeg)).toInt64) p6 (fun (p7 : St) => ∃ n, wLX12_digest_70 Post (fun (y11 : Int32) (p12 : St) => ∀ x1_13 : Int32, x1_13 = y11 + 1 → self (x1_13, p12)) n (x1, 0, p7))))
def wLX12_digest_33  (Post : Int64 → St → Prop) (KX : St → Prop) : Nat → (Int32 × St) → Prop := itN (fun self x => wlX12_digest_33  Post KX self x.1 x.2)
def wlX12_digest_101  (Post : Int64 → St → Prop) (KX : St → Prop) (self : (Int32 × St) → Prop) (x1 : Int32) (p : St) : Prop := ((((4 : Int32) * ((p.A 4) 124)) ≤ x1) → KX p) ∧ ((¬ ((4 : Int32) * ((p.A 4) 124)) ≤ x1) → vp_in ((84 : Int32) + x1) 126 ∧ wpX12_mix ((((p.A 4) ((84 : Int32) + x1).toNatClampNeg)).toInt64) p (fun (p15 : St) => ∀ x1_16 : Int32, x1_16 = x1 + 1 → self (x1_16, p15)))
def wLX12_digest_101  (Post : Int64 → St → Prop) (KX : St → Prop) : Nat → (Int32 × St) → Prop := itN (fun self x => wlX12_digest_101  Post KX self x.1 x.2)
def wlX12_digest_136  (Post : Int64 → St → Prop) (KX : St → Prop) (self : (Int32 × St) → Prop) (x1 : Int32) (p : St) : Prop := (((p.I 3) ≤ x1) → KX p) ∧ ((¬ (p.I 3) ≤ x1) → vp_in x1 8 ∧ wpX12_mix ((((p.A 2) x1.toNatClampNeg)).toInt64) p (fun (p18 : St) => ∀ x1_19 : Int32, x1_19 = x1 + 1 → self (x1_19, p18)))
def wLX12_digest_136  (Post : Int64 → St → Prop) (KX : St → Prop) : Nat → (Int32 × St) → Prop := itN (fun self x => wlX12_digest_136  Post KX self x.1 x.2)
def wpX12_digest  (p : St)  (Post : Int64 → St → Prop) : Prop := ∀ p1 : St, p1 = p.sL 29 919 → ∃ n, wLX12_digest_9 Post (fun (p5 : St) => ∃ n, wLX12_digest_33 Post (fun (p14 : St) => ∃ n, wLX12_digest_101 Post (fun (p17 : St) => ∃ n, wLX12_digest_136 Post (fun (p20 : St) => wpX12_mix (p20.L 7) p20 (fun (p21 : St) => wpX12_mix (p21.L 8) p21 (fun (p22 : St) => Post (p22.L 29) p22))) n (0, p17)) n (0, p14)) n (0, p5)) n (0, p1)
end
section
section
variable {p : Program} {l : Launch} {e : Env} {R : Room} {s : State} {m : MethodId} {args : Array Value} {below : List Frame} {meth : Method} {c : Code} {E : VE} {A : Nat → Prop} {cc : ByteArray} {nL cells slots : Nat} {ret : Option FieldType} {own : String} {Q : State → Prop} {w : va_W} {pc : Nat} {lv : List (Nat × Value)} {st : List Value}
theorem v_iconst (C : VC p s m args meth c E A cc nL ret own) {n : Int} (v : Int32) (hv : Int32.ofInt n = v) (hd : decode cc pc = .ok (.iconst n, 1)) (k : V p l e R s m args below meth c E A nL cells slots Q w (pc + 1) lv (.int v :: st)) : V p l e R s m args below meth c E A nL cells slots Q w pc lv (st) := fun H locs ls hP hD hS hl => lv_iconst C.1 C.2.1 hd hv (k H locs ls hP hD hS hl)
theorem v_bipush (C : VC p s m args meth c E A cc nL ret own) {n : Int} (v : Int32) (hv : (Int8.ofInt n).toInt32 = v) (hd : decode cc pc = .ok (.bipush n, 2)) (k : V p l e R s m args below meth c E A nL cells slots Q w (pc + 2) lv (.int v :: st)) : V p l e R s m args below meth c E A nL cells slots Q w pc lv (st) := fun H locs ls hP hD hS hl => lv_bipush C.1 C.2.1 hd hv (k H locs ls hP hD hS hl)
theorem v_sipush (C : VC p s m args meth c E A cc nL ret own) {n : Int} (v : Int32) (hv : (Int16.ofInt n).toInt32 = v) (hd : decode cc pc = .ok (.sipush n, 3)) (k : V p l e R s m args below meth c E A nL cells slots Q w (pc + 3) lv (.int v :: st)) : V p l e R s m args below meth c E A nL cells slots Q w pc lv (st) := fun H locs ls hP hD hS hl => lv_sipush C.1 C.2.1 hd hv (k H locs ls hP hD hS hl)
theorem v_lconst (C : VC p s m args meth c E A cc nL ret own) {n : Fin 2} (v : Int64) (hv : Int64.ofNat (n : Nat) = v) (hd : decode cc pc = .ok (.lconst n, 1)) (k : V p l e R s m args below meth c E A nL cells slots Q w (pc + 1) lv (.long v :: st)) : V p l e R s m args below meth c E A nL cells slots Q w pc lv (st) := fun H locs ls hP hD hS hl => lv_lconst C.1 C.2.1 hd hv (k H locs ls hP hD hS hl)
theorem v_ldc (C : VC p s m args meth c E A cc nL ret own) {index : Nat} (v : Int32) (hw : Cond.constant own index v ∈ gG) (hd : decode cc pc = .ok (.ldc index, 2)) (k : V p l e R s m args below meth c E A nL cells slots Q w (pc + 2) lv (.int v :: st)) : V p l e R s m args below meth c E A nL cells slots Q w pc lv (st) := fun H locs ls hP hD hS hl => lv_ldc C.1 C.2.1 C.2.2.2.2.1 (C.2.2.2.2.2.1 _ hw) hd (k H locs ls hP hD hS hl)
theorem v_ldcw (C : VC p s m args meth c E A cc nL ret own) {index : Nat} (v : Int32) (hw : Cond.constant own index v ∈ gG) (hd : decode cc pc = .ok (.ldc_w index, 3)) (k : V p l e R s m args below meth c E A nL cells slots Q w (pc + 3) lv (.int v :: st)) : V p l e R s m args below meth c E A nL cells slots Q w pc lv (st) := fun H locs ls hP hD hS hl => lv_ldcw C.1 C.2.1 C.2.2.2.2.1 (C.2.2.2.2.2.1 _ hw) hd (k H locs ls hP hD hS hl)
theorem v_ldc2 (C : VC p s m args meth c E A cc nL ret own) {index : Nat} (v : Int64) (hw : Cond.constantLong own index v ∈ gG) (hd : decode cc pc = .ok (.ldc2_w index, 3)) (k : V p l e R s m args below meth c E A nL cells slots Q w (pc + 3) lv (.long v :: st)) : V p l e R s m args below meth c E A nL cells slots Q w pc lv (st) := fun H locs ls hP hD hS hl => lv_ldc2 C.1 C.2.1 C.2.2.2.2.1 (C.2.2.2.2.2.1 _ hw) hd (k H locs ls hP hD hS hl)
theorem v_iload_n (C : VC p s m args meth c E A cc nL ret own) {k0 : Fin 4} {i : Nat} {x : Int32} (j : Nat) (hj : lv[j]? = some (i, .int x)) (hi : (k0 : Nat) = i) (hd : decode cc pc = .ok (.iload_n k0, 1)) (k : V p l e R s m args below meth c E A nL cells slots Q w (pc + 1) lv (.int x :: st)) : V p l e R s m args below meth c E A nL cells slots Q w pc lv (st) := fun H locs ls hP hD hS hl => lv_iload_n C.1 C.2.1 hd hi (lv_at hl j hj) (k H locs ls hP hD hS hl)
theorem v_iload (C : VC p s m args meth c E A cc nL ret own) {i : Nat} {x : Int32} (j : Nat) (hj : lv[j]? = some (i, .int x)) (hd : decode cc pc = .ok (.iload i, 2)) (k : V p l e R s m args below meth c E A nL cells slots Q w (pc + 2) lv (.int x :: st)) : V p l e R s m args below meth c E A nL cells slots Q w pc lv (st) := fun H locs ls hP hD hS hl => lv_iload C.1 C.2.1 hd (lv_at hl j hj) (k H locs ls hP hD hS hl)
theorem v_istore_n (C : VC p s m args meth c E A cc nL ret own) {k0 : Fin 4} {i : Nat} {x : Int32} (lv' : List (Nat × Value)) (hl' : (i, Value.int x) :: lv.filter (fun q => !(q.1 == i) && !(q.1 + 1 == i && q.2.category == 2)) = lv') (hi : (k0 : Nat) = i) (hn : i < nL) (hd : decode cc pc = .ok (.istore_n k0, 1)) (k : V p l e R s m args below meth c E A nL cells slots Q w (pc + 1) lv' st) : V p l e R s m args below meth c E A nL cells slots Q w pc lv (.int x :: st) := fun H locs ls hP hD hS hl => lv_istore_n C.1 C.2.1 hd hi hl hn hl' (fun ls' h' => k H locs ls' hP hD hS h')
theorem v_istore (C : VC p s m args meth c E A cc nL ret own) {i : Nat} {x : Int32} (lv' : List (Nat × Value)) (hl' : (i, Value.int x) :: lv.filter (fun q => !(q.1 == i) && !(q.1 + 1 == i && q.2.category == 2)) = lv') (hn : i < nL) (hd : decode cc pc = .ok (.istore i, 2)) (k : V p l e R s m args below meth c E A nL cells slots Q w (pc + 2) lv' st) : V p l e R s m args below meth c E A nL cells slots Q w pc lv (.int x :: st) := fun H locs ls hP hD hS hl => lv_istore C.1 C.2.1 hd hl hn hl' (fun ls' h' => k H locs ls' hP hD hS h')
theorem v_lload_n (C : VC p s m args meth c E A cc nL ret own) {k0 : Fin 4} {i : Nat} {x : Int64} (j : Nat) (hj : lv[j]? = some (i, .long x)) (hi : (k0 : Nat) = i) (hd : decode cc pc = .ok (.lload_n k0, 1)) (k : V p l e R s m args below meth c E A nL cells slots Q w (pc + 1) lv (.long x :: st)) : V p l e R s m args below meth c E A nL cells slots Q w pc lv (st) := fun H locs ls hP hD hS hl => lv_lload_n C.1 C.2.1 hd hi (lv_at hl j hj) (k H locs ls hP hD hS hl)
theorem v_lload (C : VC p s m args meth c E A cc nL ret own) {i : Nat} {x : Int64} (j : Nat) (hj : lv[j]? = some (i, .long x)) (hd : decode cc pc = .ok (.lload i, 2)) (k : V p l e R s m args below meth c E A nL cells slots Q w (pc + 2) lv (.long x :: st)) : V p l e R s m args below meth c E A nL cells slots Q w pc lv (st) := fun H locs ls hP hD hS hl => lv_lload C.1 C.2.1 hd (lv_at hl j hj) (k H locs ls hP hD hS hl)
theorem v_lstore_n (C : VC p s m args meth c E A cc nL ret own) {k0 : Fin 4} {i : Nat} {x : Int64} (lv' : List (Nat × Value)) (hl' : (i, Value.long x) :: lv.filter (fun q => !(q.1 == i) && (!(q.1 == i + 1) && !(q.1 + 1 == i && q.2.category == 2))) = lv') (hi : (k0 : Nat) = i) (hn : i + 1 < nL) (hd : decode cc pc = .ok (.lstore_n k0, 1)) (k : V p l e R s m args below meth c E A nL cells slots Q w (pc + 1) lv' st) : V p l e R s m args below meth c E A nL cells slots Q w pc lv (.long x :: st) := fun H locs ls hP hD hS hl => lv_lstore_n C.1 C.2.1 hd hi hl hn hl' (fun ls' h' => k H locs ls' hP hD hS h')
theorem v_lstore (C : VC p s m args meth c E A cc nL ret own) {i : Nat} {x : Int64} (lv' : List (Nat × Value)) (hl' : (i, Value.long x) :: lv.filter (fun q => !(q.1 == i) && (!(q.1 == i + 1) && !(q.1 + 1 == i && q.2.category == 2))) = lv') (hn : i + 1 < nL) (hd : decode cc pc = .ok (.lstore i, 2)) (k : V p l e R s m args below meth c E A nL cells slots Q w (pc + 2) lv' st) : V p l e R s m args below meth c E A nL cells slots Q w pc lv (.long x :: st) := fun H locs ls hP hD hS hl => lv_lstore C.1 C.2.1 hd hl hn hl' (fun ls' h' => k H locs ls' hP hD hS h')
theorem v_aload_n (C : VC p s m args meth c E A cc nL ret own) {k0 : Fin 4} {i : Nat} {x : Nat} (j : Nat) (hj : lv[j]? = some (i, .ref x)) (hi : (k0 : Nat) = i) (hd : decode cc pc = .ok (.aload_n k0, 1)) (k : V p l e R s m args below meth c E A nL cells slots Q w (pc + 1) lv (.ref x :: st)) : V p l e R s m args below meth c E A nL cells slots Q w pc lv (st) := fun H locs ls hP hD hS hl => lv_aload_n C.1 C.2.1 hd hi (lv_at hl j hj) (k H locs ls hP hD hS hl)
theorem v_aload (C : VC p s m args meth c E A cc nL ret own) {i : Nat} {x : Nat} (j : Nat) (hj : lv[j]? = some (i, .ref x)) (hd : decode cc pc = .ok (.aload i, 2)) (k : V p l e R s m args below meth c E A nL cells slots Q w (pc + 2) lv (.ref x :: st)) : V p l e R s m args below meth c E A nL cells slots Q w pc lv (st) := fun H locs ls hP hD hS hl => lv_aload C.1 C.2.1 hd (lv_at hl j hj) (k H locs ls hP hD hS hl)
theorem v_astore_n (C : VC p s m args meth c E A cc nL ret own) {k0 : Fin 4} {i : Nat} {x : Nat} (lv' : List (Nat × Value)) (hl' : (i, Value.ref x) :: lv.filter (fun q => !(q.1 == i) && !(q.1 + 1 == i && q.2.category == 2)) = lv') (hi : (k0 : Nat) = i) (hn : i < nL) (hd : decode cc pc = .ok (.astore_n k0, 1)) (k : V p l e R s m args below meth c E A nL cells slots Q w (pc + 1) lv' st) : V p l e R s m args below meth c E A nL cells slots Q w pc lv (.ref x :: st) := fun H locs ls hP hD hS hl => lv_astore_n C.1 C.2.1 hd hi hl hn hl' (fun ls' h' => k H locs ls' hP hD hS h')
theorem v_astore (C : VC p s m args meth c E A cc nL ret own) {i : Nat} {x : Nat} (lv' : List (Nat × Value)) (hl' : (i, Value.ref x) :: lv.filter (fun q => !(q.1 == i) && !(q.1 + 1 == i && q.2.category == 2)) = lv') (hn : i < nL) (hd : decode cc pc = .ok (.astore i, 2)) (k : V p l e R s m args below meth c E A nL cells slots Q w (pc + 2) lv' st) : V p l e R s m args below meth c E A nL cells slots Q w pc lv (.ref x :: st) := fun H locs ls hP hD hS hl => lv_astore C.1 C.2.1 hd hl hn hl' (fun ls' h' => k H locs ls' hP hD hS h')
theorem v_iinc (C : VC p s m args meth c E A cc nL ret own) {i : Nat} {n : Int} {x v : Int32} (j : Nat) (hj : lv[j]? = some (i, .int x)) (hv : x + Int32.ofInt n = v) (lv' : List (Nat × Value)) (hl' : (i, Value.int v) :: lv.filter (fun q => !(q.1 == i) && !(q.1 + 1 == i && q.2.category == 2)) = lv') (hn : i < nL) (hd : decode cc pc = .ok (.iinc i n, 3)) (k : V p l e R s m args below meth c E A nL cells slots Q w (pc + 3) lv' st) : V p l e R s m args below meth c E A nL cells slots Q w pc lv st := fun H locs ls hP hD hS hl => lv_iinc C.1 C.2.1 hd hl hj hv hn hl' (fun ls' h' => k H locs ls' hP hD hS h')
theorem v_iadd (C : VC p s m args meth c E A cc nL ret own) {x y : Int32} (hd : decode cc pc = .ok (.iadd, 1)) (k : V p l e R s m args below meth c E A nL cells slots Q w (pc + 1) lv (.int (x + y) :: st)) : V p l e R s m args below meth c E A nL cells slots Q w pc lv (.int y :: .int x :: st) := fun H locs ls hP hD hS hl => lv_iadd C.1 C.2.1 hd (k H locs ls hP hD hS hl)
theorem v_isub (C : VC p s m args meth c E A cc nL ret own) {x y : Int32} (hd : decode cc pc = .ok (.isub, 1)) (k : V p l e R s m args below meth c E A nL cells slots Q w (pc + 1) lv (.int (x - y) :: st)) : V p l e R s m args below meth c E A nL cells slots Q w pc lv (.int y :: .int x :: st) := fun H locs ls hP hD hS hl => lv_isub C.1 C.2.1 hd (k H locs ls hP hD hS hl)
theorem v_imul (C : VC p s m args meth c E A cc nL ret own) {x y : Int32} (hd : decode cc pc = .ok (.imul, 1)) (k : V p l e R s m args below meth c E A nL cells slots Q w (pc + 1) lv (.int (x * y) :: st)) : V p l e R s m args below meth c E A nL cells slots Q w pc lv (.int y :: .int x :: st) := fun H locs ls hP hD hS hl => lv_imul C.1 C.2.1 hd (k H locs ls hP hD hS hl)
theorem v_iand (C : VC p s m args meth c E A cc nL ret own) {x y : Int32} (hd : decode cc pc = .ok (.iand, 1)) (k : V p l e R s m args below meth c E A nL cells slots Q w (pc + 1) lv (.int (x &&& y) :: st)) : V p l e R s m args below meth c E A nL cells slots Q w pc lv (.int y :: .int x :: st) := fun H locs ls hP hD hS hl => lv_iand C.1 C.2.1 hd (k H locs ls hP hD hS hl)
theorem v_ior (C : VC p s m args meth c E A cc nL ret own) {x y : Int32} (hd : decode cc pc = .ok (.ior, 1)) (k : V p l e R s m args below meth c E A nL cells slots Q w (pc + 1) lv (.int (x ||| y) :: st)) : V p l e R s m args below meth c E A nL cells slots Q w pc lv (.int y :: .int x :: st) := fun H locs ls hP hD hS hl => lv_ior C.1 C.2.1 hd (k H locs ls hP hD hS hl)
theorem v_ixor (C : VC p s m args meth c E A cc nL ret own) {x y : Int32} (hd : decode cc pc = .ok (.ixor, 1)) (k : V p l e R s m args below meth c E A nL cells slots Q w (pc + 1) lv (.int (x ^^^ y) :: st)) : V p l e R s m args below meth c E A nL cells slots Q w pc lv (.int y :: .int x :: st) := fun H locs ls hP hD hS hl => lv_ixor C.1 C.2.1 hd (k H locs ls hP hD hS hl)
theorem v_ishl (C : VC p s m args meth c E A cc nL ret own) {x y : Int32} (hd : decode cc pc = .ok (.ishl, 1)) (k : V p l e R s m args below meth c E A nL cells slots Q w (pc + 1) lv (.int (x <<< (y &&& 31)) :: st)) : V p l e R s m args below meth c E A nL cells slots Q w pc lv (.int y :: .int x :: st) := fun H locs ls hP hD hS hl => lv_ishl C.1 C.2.1 hd (k H locs ls hP hD hS hl)
theorem v_ishr (C : VC p s m args meth c E A cc nL ret own) {x y : Int32} (hd : decode cc pc = .ok (.ishr, 1)) (k : V p l e R s m args below meth c E A nL cells slots Q w (pc + 1) lv (.int (x >>> (y &&& 31)) :: st)) : V p l e R s m args below meth c E A nL cells slots Q w pc lv (.int y :: .int x :: st) := fun H locs ls hP hD hS hl => lv_ishr C.1 C.2.1 hd (k H locs ls hP hD hS hl)
theorem v_idiv (C : VC p s m args meth c E A cc nL ret own) {x y : Int32} (hne : ¬ y = 0) (hd : decode cc pc = .ok (.idiv, 1)) (k : V p l e R s m args below meth c E A nL cells slots Q w (pc + 1) lv (.int (x / y) :: st)) : V p l e R s m args below meth c E A nL cells slots Q w pc lv (.int y :: .int x :: st) := fun H locs ls hP hD hS hl => lv_idiv C.1 C.2.1 hd hne (k H locs ls hP hD hS hl)
theorem v_irem (C : VC p s m args meth c E A cc nL ret own) {x y : Int32} (hne : ¬ y = 0) (hd : decode cc pc = .ok (.irem, 1)) (k : V p l e R s m args below meth c E A nL cells slots Q w (pc + 1) lv (.int (x - x / y * y) :: st)) : V p l e R s m args below meth c E A nL cells slots Q w pc lv (.int y :: .int x :: st) := fun H locs ls hP hD hS hl => lv_irem C.1 C.2.1 hd hne (k H locs ls hP hD hS hl)
theorem v_iushr (C : VC p s m args meth c E A cc nL ret own) {x y : Int32} (hd : decode cc pc = .ok (.iushr, 1)) (k : V p l e R s m args below meth c E A nL cells slots Q w (pc + 1) lv (.int ((x.toUInt32 >>> (y.toUInt32 &&& Int32.toUInt32 31)).toInt32) :: st)) : V p l e R s m args below meth c E A nL cells slots Q w pc lv (.int y :: .int x :: st) := fun H locs ls hP hD hS hl => lv_iushr C.1 C.2.1 hd rfl (k H locs ls hP hD hS hl)
theorem v_ladd (C : VC p s m args meth c E A cc nL ret own) {x y : Int64} (hd : decode cc pc = .ok (.ladd, 1)) (k : V p l e R s m args below meth c E A nL cells slots Q w (pc + 1) lv (.long (x + y) :: st)) : V p l e R s m args below meth c E A nL cells slots Q w pc lv (.long y :: .long x :: st) := fun H locs ls hP hD hS hl => lv_ladd C.1 C.2.1 hd (k H locs ls hP hD hS hl)
theorem v_lsub (C : VC p s m args meth c E A cc nL ret own) {x y : Int64} (hd : decode cc pc = .ok (.lsub, 1)) (k : V p l e R s m args below meth c E A nL cells slots Q w (pc + 1) lv (.long (x - y) :: st)) : V p l e R s m args below meth c E A nL cells slots Q w pc lv (.long y :: .long x :: st) := fun H locs ls hP hD hS hl => lv_lsub C.1 C.2.1 hd (k H locs ls hP hD hS hl)
theorem v_lmul (C : VC p s m args meth c E A cc nL ret own) {x y : Int64} (hd : decode cc pc = .ok (.lmul, 1)) (k : V p l e R s m args below meth c E A nL cells slots Q w (pc + 1) lv (.long (x * y) :: st)) : V p l e R s m args below meth c E A nL cells slots Q w pc lv (.long y :: .long x :: st) := fun H locs ls hP hD hS hl => lv_lmul C.1 C.2.1 hd (k H locs ls hP hD hS hl)
theorem v_ldiv (C : VC p s m args meth c E A cc nL ret own) {x y : Int64} (hne : ¬ y = 0) (hd : decode cc pc = .ok (.ldiv, 1)) (k : V p l e R s m args below meth c E A nL cells slots Q w (pc + 1) lv (.long (x / y) :: st)) : V p l e R s m args below meth c E A nL cells slots Q w pc lv (.long y :: .long x :: st) := fun H locs ls hP hD hS hl => lv_ldiv C.1 C.2.1 hd hne (k H locs ls hP hD hS hl)
theorem v_lrem (C : VC p s m args meth c E A cc nL ret own) {x y : Int64} (hne : ¬ y = 0) (hd : decode cc pc = .ok (.lrem, 1)) (k : V p l e R s m args below meth c E A nL cells slots Q w (pc + 1) lv (.long (x - x / y * y) :: st)) : V p l e R s m args below meth c E A nL cells slots Q w pc lv (.long y :: .long x :: st) := fun H locs ls hP hD hS hl => lv_lrem C.1 C.2.1 hd hne (k H locs ls hP hD hS hl)
theorem v_lcmp (C : VC p s m args meth c E A cc nL ret own) {x y : Int64} (hd : decode cc pc = .ok (.lcmp, 1)) (k : V p l e R s m args below meth c E A nL cells slots Q w (pc + 1) lv (.int (lg_cmp x y) :: st)) : V p l e R s m args below meth c E A nL cells slots Q w pc lv (.long y :: .long x :: st) := fun H locs ls hP hD hS hl => W.lcmp C.1 C.2.1 hd (k H locs ls hP hD hS hl)
theorem v_i2l (C : VC p s m args meth c E A cc nL ret own) {x : Int32} (hd : decode cc pc = .ok (.i2l, 1)) (k : V p l e R s m args below meth c E A nL cells slots Q w (pc + 1) lv (.long x.toInt64 :: st)) : V p l e R s m args below meth c E A nL cells slots Q w pc lv (.int x :: st) := fun H locs ls hP hD hS hl => lv_i2l C.1 C.2.1 hd rfl (k H locs ls hP hD hS hl)
theorem v_l2i (C : VC p s m args meth c E A cc nL ret own) {x : Int64} (hd : decode cc pc = .ok (.l2i, 1)) (k : V p l e R s m args below meth c E A nL cells slots Q w (pc + 1) lv (.int x.toInt32 :: st)) : V p l e R s m args below meth c E A nL cells slots Q w pc lv (.long x :: st) := fun H locs ls hP hD hS hl => lv_l2i C.1 C.2.1 hd rfl (k H locs ls hP hD hS hl)
theorem v_i2c (C : VC p s m args meth c E A cc nL ret own) {x : Int32} (hd : decode cc pc = .ok (.i2c, 1)) (k : V p l e R s m args below meth c E A nL cells slots Q w (pc + 1) lv (.int (x.toUInt32 % 65536).toInt32 :: st)) : V p l e R s m args below meth c E A nL cells slots Q w pc lv (.int x :: st) := fun H locs ls hP hD hS hl => lv_i2c C.1 C.2.1 hd rfl (k H locs ls hP hD hS hl)
theorem v_dup (C : VC p s m args meth c E A cc nL ret own) {va : Value} (hc : va.category = 1) (hd : decode cc pc = .ok (.dup, 1)) (k : V p l e R s m args below meth c E A nL cells slots Q w (pc + 1) lv (va :: va :: st)) : V p l e R s m args below meth c E A nL cells slots Q w pc lv (va :: st) := fun H locs ls hP hD hS hl => lv_dup C.1 C.2.1 hd hc (k H locs ls hP hD hS hl)
theorem v_pop (C : VC p s m args meth c E A cc nL ret own) {va : Value} (hc : va.category = 1) (hd : decode cc pc = .ok (.pop, 1)) (k : V p l e R s m args below meth c E A nL cells slots Q w (pc + 1) lv (st)) : V p l e R s m args below meth c E A nL cells slots Q w pc lv (va :: st) := fun H locs ls hP hD hS hl => lv_pop C.1 C.2.1 hd hc (k H locs ls hP hD hS hl)
theorem v_dup2 (C : VC p s m args meth c E A cc nL ret own) {va vb : Value} (hc : va.category = 1) (hb : vb.category = 1) (hd : decode cc pc = .ok (.dup2, 1)) (k : V p l e R s m args below meth c E A nL cells slots Q w (pc + 1) lv (va :: vb :: va :: vb :: st)) : V p l e R s m args below meth c E A nL cells slots Q w pc lv (va :: vb :: st) := fun H locs ls hP hD hS hl => lv_dup2_11 C.1 C.2.1 hd hc hb (k H locs ls hP hD hS hl)
theorem v_if_eq (C : VC p s m args meth c E A cc nL ret own) {x : Int32} {off : Int} (tgt : Nat) (ht : (pc : Int) + off = (tgt : Int)) (hd : decode cc pc = .ok (.ifCond .eq off, 3)) (kt : x = 0 → V p l e R s m args below meth c E A nL cells slots Q w tgt lv st) (kf : ¬ x = 0 → V p l e R s m args below meth c E A nL cells slots Q w (pc + 3) lv st) : V p l e R s m args below meth c E A nL cells slots Q w pc lv (.int x :: st) := fun H locs ls hP hD hS hl => lv_if_eq C.1 C.2.1 hd ht (fun h => kt h H locs ls hP hD hS hl) (fun h => kf h H locs ls hP hD hS hl)
theorem v_if_ne (C : VC p s m args meth c E A cc nL ret own) {x : Int32} {off : Int} (tgt : Nat) (ht : (pc : Int) + off = (tgt : Int)) (hd : decode cc pc = .ok (.ifCond .ne off, 3)) (kt : ¬ x = 0 → V p l e R s m args below meth c E A nL cells slots Q w tgt lv st) (kf : x = 0 → V p l e R s m args below meth c E A nL cells slots Q w (pc + 3) lv st) : V p l e R s m args below meth c E A nL cells slots Q w pc lv (.int x :: st) := fun H locs ls hP hD hS hl => lv_if_ne C.1 C.2.1 hd ht (fun h => kt h H locs ls hP hD hS hl) (fun h => kf h H locs ls hP hD hS hl)
theorem v_if_lt (C : VC p s m args meth c E A cc nL ret own) {x : Int32} {off : Int} (tgt : Nat) (ht : (pc : Int) + off = (tgt : Int)) (hd : decode cc pc = .ok (.ifCond .lt off, 3)) (kt : x < 0 → V p l e R s m args below meth c E A nL cells slots Q w tgt lv st) (kf : ¬ x < 0 → V p l e R s m args below meth c E A nL cells slots Q w (pc + 3) lv st) : V p l e R s m args below meth c E A nL cells slots Q w pc lv (.int x :: st) := fun H locs ls hP hD hS hl => lv_if_lt C.1 C.2.1 hd ht (fun h => kt h H locs ls hP hD hS hl) (fun h => kf h H locs ls hP hD hS hl)
theorem v_if_ge (C : VC p s m args meth c E A cc nL ret own) {x : Int32} {off : Int} (tgt : Nat) (ht : (pc : Int) + off = (tgt : Int)) (hd : decode cc pc = .ok (.ifCond .ge off, 3)) (kt : 0 ≤ x → V p l e R s m args below meth c E A nL cells slots Q w tgt lv st) (kf : ¬ 0 ≤ x → V p l e R s m args below meth c E A nL cells slots Q w (pc + 3) lv st) : V p l e R s m args below meth c E A nL cells slots Q w pc lv (.int x :: st) := fun H locs ls hP hD hS hl => lv_if_ge C.1 C.2.1 hd ht (fun h => kt h H locs ls hP hD hS hl) (fun h => kf h H locs ls hP hD hS hl)
theorem v_if_gt (C : VC p s m args meth c E A cc nL ret own) {x : Int32} {off : Int} (tgt : Nat) (ht : (pc : Int) + off = (tgt : Int)) (hd : decode cc pc = .ok (.ifCond .gt off, 3)) (kt : 0 < x → V p l e R s m args below meth c E A nL cells slots Q w tgt lv st) (kf : ¬ 0 < x → V p l e R s m args below meth c E A nL cells slots Q w (pc + 3) lv st) : V p l e R s m args below meth c E A nL cells slots Q w pc lv (.int x :: st) := fun H locs ls hP hD hS hl => lv_if_gt C.1 C.2.1 hd ht (fun h => kt h H locs ls hP hD hS hl) (fun h => kf h H locs ls hP hD hS hl)
theorem v_if_le (C : VC p s m args meth c E A cc nL ret own) {x : Int32} {off : Int} (tgt : Nat) (ht : (pc : Int) + off = (tgt : Int)) (hd : decode cc pc = .ok (.ifCond .le off, 3)) (kt : x ≤ 0 → V p l e R s m args below meth c E A nL cells slots Q w tgt lv st) (kf : ¬ x ≤ 0 → V p l e R s m args below meth c E A nL cells slots Q w (pc + 3) lv st) : V p l e R s m args below meth c E A nL cells slots Q w pc lv (.int x :: st) := fun H locs ls hP hD hS hl => lv_if_le C.1 C.2.1 hd ht (fun h => kt h H locs ls hP hD hS hl) (fun h => kf h H locs ls hP hD hS hl)
theorem v_icmp_eq (C : VC p s m args meth c E A cc nL ret own) {x y : Int32} {off : Int} (tgt : Nat) (ht : (pc : Int) + off = (tgt : Int)) (hd : decode cc pc = .ok (.if_icmp .eq off, 3)) (kt : x = y → V p l e R s m args below meth c E A nL cells slots Q w tgt lv st) (kf : ¬ x = y → V p l e R s m args below meth c E A nL cells slots Q w (pc + 3) lv st) : V p l e R s m args below meth c E A nL cells slots Q w pc lv (.int y :: .int x :: st) := fun H locs ls hP hD hS hl => lv_icmp_eq C.1 C.2.1 hd ht (fun h => kt h H locs ls hP hD hS hl) (fun h => kf h H locs ls hP hD hS hl)
theorem v_icmp_ne (C : VC p s m args meth c E A cc nL ret own) {x y : Int32} {off : Int} (tgt : Nat) (ht : (pc : Int) + off = (tgt : Int)) (hd : decode cc pc = .ok (.if_icmp .ne off, 3)) (kt : ¬ x = y → V p l e R s m args below meth c E A nL cells slots Q w tgt lv st) (kf : x = y → V p l e R s m args below meth c E A nL cells slots Q w (pc + 3) lv st) : V p l e R s m args below meth c E A nL cells slots Q w pc lv (.int y :: .int x :: st) := fun H locs ls hP hD hS hl => lv_icmp_ne C.1 C.2.1 hd ht (fun h => kt h H locs ls hP hD hS hl) (fun h => kf h H locs ls hP hD hS hl)
theorem v_icmp_lt (C : VC p s m args meth c E A cc nL ret own) {x y : Int32} {off : Int} (tgt : Nat) (ht : (pc : Int) + off = (tgt : Int)) (hd : decode cc pc = .ok (.if_icmp .lt off, 3)) (kt : x < y → V p l e R s m args below meth c E A nL cells slots Q w tgt lv st) (kf : ¬ x < y → V p l e R s m args below meth c E A nL cells slots Q w (pc + 3) lv st) : V p l e R s m args below meth c E A nL cells slots Q w pc lv (.int y :: .int x :: st) := fun H locs ls hP hD hS hl => lv_icmp_lt C.1 C.2.1 hd ht (fun h => kt h H locs ls hP hD hS hl) (fun h => kf h H locs ls hP hD hS hl)
theorem v_icmp_ge (C : VC p s m args meth c E A cc nL ret own) {x y : Int32} {off : Int} (tgt : Nat) (ht : (pc : Int) + off = (tgt : Int)) (hd : decode cc pc = .ok (.if_icmp .ge off, 3)) (kt : y ≤ x → V p l e R s m args below meth c E A nL cells slots Q w tgt lv st) (kf : ¬ y ≤ x → V p l e R s m args below meth c E A nL cells slots Q w (pc + 3) lv st) : V p l e R s m args below meth c E A nL cells slots Q w pc lv (.int y :: .int x :: st) := fun H locs ls hP hD hS hl => lv_icmp_ge C.1 C.2.1 hd ht (fun h => kt h H locs ls hP hD hS hl) (fun h => kf h H locs ls hP hD hS hl)
theorem v_icmp_gt (C : VC p s m args meth c E A cc nL ret own) {x y : Int32} {off : Int} (tgt : Nat) (ht : (pc : Int) + off = (tgt : Int)) (hd : decode cc pc = .ok (.if_icmp .gt off, 3)) (kt : y < x → V p l e R s m args below meth c E A nL cells slots Q w tgt lv st) (kf : ¬ y < x → V p l e R s m args below meth c E A nL cells slots Q w (pc + 3) lv st) : V p l e R s m args below meth c E A nL cells slots Q w pc lv (.int y :: .int x :: st) := fun H locs ls hP hD hS hl => lv_icmp_gt C.1 C.2.1 hd ht (fun h => kt h H locs ls hP hD hS hl) (fun h => kf h H locs ls hP hD hS hl)
theorem v_icmp_le (C : VC p s m args meth c E A cc nL ret own) {x y : Int32} {off : Int} (tgt : Nat) (ht : (pc : Int) + off = (tgt : Int)) (hd : decode cc pc = .ok (.if_icmp .le off, 3)) (kt : x ≤ y → V p l e R s m args below meth c E A nL cells slots Q w tgt lv st) (kf : ¬ x ≤ y → V p l e R s m args below meth c E A nL cells slots Q w (pc + 3) lv st) : V p l e R s m args below meth c E A nL cells slots Q w pc lv (.int y :: .int x :: st) := fun H locs ls hP hD hS hl => lv_icmp_le C.1 C.2.1 hd ht (fun h => kt h H locs ls hP hD hS hl) (fun h => kf h H locs ls hP hD hS hl)
theorem v_goto (C : VC p s m args meth c E A cc nL ret own) {off : Int} (tgt : Nat) (ht : (pc : Int) + off = (tgt : Int)) (hd : decode cc pc = .ok (.goto off, 3)) (k : V p l e R s m args below meth c E A nL cells slots Q w tgt lv st) : V p l e R s m args below meth c E A nL cells slots Q w pc lv st := fun H locs ls hP hD hS hl => lv_goto C.1 C.2.1 hd ht (k H locs ls hP hD hS hl)
theorem v_tblOut (C : VC p s m args meth c E A cc nL ret own) {dflt lo hi : Int} {offs : Array Int} {len : Nat} {x : Int32} (tgt : Nat) (ht : (pc : Int) + dflt = (tgt : Int)) (hd : decode cc pc = .ok (.tableswitch dflt lo hi offs, len)) (h : x.toInt < lo ∨ hi < x.toInt) (k : V p l e R s m args below meth c E A nL cells slots Q w tgt lv st) : V p l e R s m args below meth c E A nL cells slots Q w pc lv (.int x :: st) := fun H locs ls hP hD hS hl => lv_tableOut C.1 C.2.1 hd h ht (k H locs ls hP hD hS hl)
theorem v_tblIn (C : VC p s m args meth c E A cc nL ret own) {dflt lo hi off : Int} {offs : Array Int} {len : Nat} {x : Int32} (tgt : Nat) (hd : decode cc pc = .ok (.tableswitch dflt lo hi offs, len)) (h1 : ¬ x.toInt < lo) (h2 : ¬ hi < x.toInt) (ho : offs[(x.toInt - lo).toNat]? = some off) (ht : (pc : Int) + off = (tgt : Int)) (k : V p l e R s m args below meth c E A nL cells slots Q w tgt lv st) : V p l e R s m args below meth c E A nL cells slots Q w pc lv (.int x :: st) := fun H locs ls hP hD hS hl => lv_tableIn C.1 C.2.1 hd h1 h2 ho ht (k H locs ls hP hD hS hl)
theorem v_topi {x : Int32} (k : ∀ y : Int32, y = x → V p l e R s m args below meth c E A nL cells slots Q w pc lv (.int y :: st)) : V p l e R s m args below meth c E A nL cells slots Q w pc lv (.int x :: st) := k x rfl
theorem v_topl {x : Int64} (k : ∀ y : Int64, y = x → V p l e R s m args below meth c E A nL cells slots Q w pc lv (.long y :: st)) : V p l e R s m args below meth c E A nL cells slots Q w pc lv (.long x :: st) := k x rfl
theorem v_sub {lv' : List (Nat × Value)} (ks : List Nat) (hl' : lv_pick lv ks = lv') (k : V p l e R s m args below meth c E A nL cells slots Q w pc lv' st) : V p l e R s m args below meth c E A nL cells slots Q w pc lv st := fun H locs ls hP hD hS hl => k H locs ls hP hD hS (lv_sub hl ks hl')
theorem v_w {w' : va_W} (h : w = w') (k : V p l e R s m args below meth c E A nL cells slots Q w' pc lv st) : V p l e R s m args below meth c E A nL cells slots Q w pc lv st := h ▸ k
/-- what is known of a made class -/
def CF (K : String) (T : u_T) (N : Nat) (ty0 : Nat → FieldType) : Prop := (∀ x ∈ u_ws K T N, x ∈ gG) ∧ (∀ k, k < N → parseFieldDescriptor (T k).2.2.1 = some (ty0 k)) ∧ (∀ a, a < N → ∀ b, b < N → a ≠ b → (T a).2.1 ≠ (T b).2.1)
theorem v_get (C : VC p s m args meth c E A cc nL ret own) {K : String} {T : u_T} {N ci index : Nat} {ty0 : Nat → FieldType} (cf : CF K T N ty0) (hc : vwCl[ci]? = some (K, T, N)) (q0 k : Nat) {a : Nat} {fs : List Value} {v : Value} (he : w[q0]? = some (a, .inr (ci, fs))) (hk : k < N) (hlk : Cond.fieldLink own index (T k).1 (T k).2.1 (T k).2.2.1 ∈ gG) (hv : fs[k]? = some v) (hd : decode cc pc = .ok (.getfield index, 3)) (kk : V p l e R s m args below meth c E A nL cells slots Q w (pc + 3) lv (v :: st)) : V p l e R s m args below meth c E A nL cells slots Q w pc lv (.ref a :: st) := fun H locs ls hP hD hS hl => va_get C.1 C.2.1 C.2.2.2.2.2.1 cf.1 C.2.2.2.2.1 C.2.2.2.2.2.2.1 hP q0 he hc k hk (C.2.2.2.2.2.1 _ hlk) (fun _ h => h) hv hd (kk H locs ls hP hD hS hl)
theorem v_put (C : VC p s m args meth c E A cc nL ret own) {K : String} {T : u_T} {N ci index : Nat} {ty0 : Nat → FieldType} (cf : CF K T N ty0) (hc : vwCl[ci]? = some (K, T, N)) (q0 k : Nat) {a : Nat} {fs : List Value} {v : Value} {ty : FieldType} {w' : va_W} (he : w[q0]? = some (a, .inr (ci, fs))) (hw : w.set q0 (a, .inr (ci, fs.set k v)) = w') (hk : k < N) (hlk : Cond.fieldLink own index (T k).1 (T k).2.1 (T k).2.2.1 ∈ gG) (hfin : (T k).2.2.2 = false) (ht : ty0 k = ty) (hn : narrow ty v = v) (hfit : fits ty v = true) (hlf : k < fs.length) (hd : decode cc pc = .ok (.putfield index, 3)) (kk : V p l e R s m args below meth c E A nL cells slots Q w' (pc + 3) lv st) : V p l e R s m args below meth c E A nL cells slots Q w pc lv (v :: .ref a :: st) := fun H locs ls hP hD hS hl => va_put C.1 C.2.1 C.2.2.2.2.2.1 cf.1 ty0 cf.2.1 cf.2.2 C.2.2.2.2.1 C.2.2.2.2.2.2.1 hP hD hS q0 he hc k hk (C.2.2.2.2.2.1 _ hlk) (fun _ h => h) hfin (ht ▸ cf.2.1 k hk) hn hfit hlf hd (fun H1 locs1 hP1 hD1 hS1 => kk H1 locs1 ls (hw ▸ hP1) (hw ▸ hD1) hS1 hl)
theorem v_getN (C : VC p s m args meth c E A cc nL ret own) {host : String} {K : String} {T : u_T} {N ci index : Nat} {ty0 : Nat → FieldType} (cf : CF K T N ty0) (hc : vwCl[ci]? = some (K, T, N)) (q0 k : Nat) {a : Nat} {fs : List Value} {v : Value} (he : w[q0]? = some (a, .inr (ci, fs))) (hk : k < N) (hlk : Cond.fieldLinkNest own index (T k).1 (T k).2.1 (T k).2.2.1 host ∈ nW) (hv : fs[k]? = some v) (hd : decode cc pc = .ok (.getfield index, 3)) (kk : V p l e R s m args below meth c E A nL cells slots Q w (pc + 3) lv (v :: st)) : V p l e R s m args below meth c E A nL cells slots Q w pc lv (.ref a :: st) := fun H locs ls hP hD hS hl => va_getN C.1 C.2.1 C.2.2.2.2.2.1 cf.1 C.2.2.2.2.1 C.2.2.2.2.2.2.1 hP q0 he hc k hk (va_Nw.use (nst_tab (List.mem_filter.mp hlk).2) (C.2.2.2.2.2.2.2.2.2.1 _ hlk)) (fun _ h => h) hv hd (kk H locs ls hP hD hS hl)
theorem v_putN (C : VC p s m args meth c E A cc nL ret own) {host : String} {K : String} {T : u_T} {N ci index : Nat} {ty0 : Nat → FieldType} (cf : CF K T N ty0) (hc : vwCl[ci]? = some (K, T, N)) (q0 k : Nat) {a : Nat} {fs : List Value} {v : Value} {ty : FieldType} {w' : va_W} (he : w[q0]? = some (a, .inr (ci, fs))) (hw : w.set q0 (a, .inr (ci, fs.set k v)) = w') (hk : k < N) (hlk : Cond.fieldLinkNest own index (T k).1 (T k).2.1 (T k).2.2.1 host ∈ nW) (hfin : (T k).2.2.2 = false) (ht : ty0 k = ty) (hn : narrow ty v = v) (hfit : fits ty v = true) (hlf : k < fs.length) (hd : decode cc pc = .ok (.putfield index, 3)) (kk : V p l e R s m args below meth c E A nL cells slots Q w' (pc + 3) lv st) : V p l e R s m args below meth c E A nL cells slots Q w pc lv (v :: .ref a :: st) := fun H locs ls hP hD hS hl => va_putN C.1 C.2.1 C.2.2.2.2.2.1 cf.1 ty0 cf.2.1 cf.2.2 C.2.2.2.2.1 C.2.2.2.2.2.2.1 hP hD hS q0 he hc k hk (va_Nw.use (nst_tab (List.mem_filter.mp hlk).2) (C.2.2.2.2.2.2.2.2.2.1 _ hlk)) (fun _ h => h) hfin (ht ▸ cf.2.1 k hk) hn hfit hlf hd (fun H1 locs1 hP1 hD1 hS1 => kk H1 locs1 ls (hw ▸ hP1) (hw ▸ hD1) hS1 hl)
theorem v_iald (C : VC p s m args meth c E A cc nL ret own) (q0 : Nat) {a n : Nat} {f : Nat → Int32} {i : Int32} (ha : w[q0]? = some (a, .inl (E.2.1, n, .inl f))) (hin : vp_in i n) {j : Nat} (hj : i.toNatClampNeg = j) (hd : decode cc pc = .ok (.iaload, 1)) (kk : V p l e R s m args below meth c E A nL cells slots Q w (pc + 1) lv (.int (f j) :: st)) : V p l e R s m args below meth c E A nL cells slots Q w pc lv (.int i :: .ref a :: st) := fun H locs ls hP hD hS hl => va_iald C.1 C.2.1 C.2.2.2.2.2.2.1 hP q0 0 ha rfl hin hd (hj ▸ kk H locs ls hP hD hS hl)
theorem v_zald (C : VC p s m args meth c E A cc nL ret own) (q0 : Nat) {a n : Nat} {f : Nat → Int32} {i : Int32} (ha : w[q0]? = some (a, .inl (E.2.2.1, n, .inl f))) (hin : vp_in i n) {j : Nat} (hj : i.toNatClampNeg = j) (hd : decode cc pc = .ok (.baload, 1)) (kk : V p l e R s m args below meth c E A nL cells slots Q w (pc + 1) lv (.int (f j) :: st)) : V p l e R s m args below meth c E A nL cells slots Q w pc lv (.int i :: .ref a :: st) := fun H locs ls hP hD hS hl => va_zald C.1 C.2.1 C.2.2.2.2.2.2.1 hP q0 1 ha rfl hin hd (hj ▸ kk H locs ls hP hD hS hl)
theorem v_iast (C : VC p s m args meth c E A cc nL ret own) (q0 : Nat) {a n : Nat} {f : Nat → Int32} {i x : Int32} {w' : va_W} (ha : w[q0]? = some (a, .inl (E.2.1, n, .inl f))) {j : Nat} (hj : i.toNatClampNeg = j) (hw : w.set q0 (a, .inl (E.2.1, n, .inl (upd f j x))) = w') (hin : vp_in i n) (hd : decode cc pc = .ok (.iastore, 1)) (kk : V p l e R s m args below meth c E A nL cells slots Q w' (pc + 1) lv st) : V p l e R s m args below meth c E A nL cells slots Q w pc lv (.int x :: .int i :: .ref a :: st) := fun H locs ls hP hD hS hl => va_iast C.1 C.2.1 C.2.2.2.2.2.2.1 hP hD hS q0 0 ha rfl hin hd (fun H1 locs1 hP1 hD1 hS1 => kk H1 locs1 ls (hw ▸ hj ▸ hP1) (hw ▸ hj ▸ hD1) hS1 hl)
theorem v_zast (C : VC p s m args meth c E A cc nL ret own) (q0 : Nat) {a n : Nat} {f : Nat → Int32} {i x : Int32} {w' : va_W} (ha : w[q0]? = some (a, .inl (E.2.2.1, n, .inl f))) {j : Nat} (hj : i.toNatClampNeg = j) (hw : w.set q0 (a, .inl (E.2.2.1, n, .inl (upd f j (vp_nar .boolean x)))) = w') (hin : vp_in i n) (hd : decode cc pc = .ok (.bastore, 1)) (kk : V p l e R s m args below meth c E A nL cells slots Q w' (pc + 1) lv st) : V p l e R s m args below meth c E A nL cells slots Q w pc lv (.int x :: .int i :: .ref a :: st) := fun H locs ls hP hD hS hl => va_zast C.1 C.2.1 C.2.2.2.2.2.2.1 hP hD hS q0 1 ha rfl hin hd (fun H1 locs1 hP1 hD1 hS1 => kk H1 locs1 ls (hw ▸ hj ▸ hP1) (hw ▸ hj ▸ hD1) hS1 hl)
theorem v_alen (C : VC p s m args meth c E A cc nL ret own) (q0 : Nat) {a : Nat} {x : vp_A} {v : Int32} (ha : w[q0]? = some (a, .inl (E.2.1, x))) (hv : Int32.ofNat x.1 = v) (hd : decode cc pc = .ok (.arraylength, 1)) (kk : V p l e R s m args below meth c E A nL cells slots Q w (pc + 1) lv (.int v :: st)) : V p l e R s m args below meth c E A nL cells slots Q w pc lv (.ref a :: st) := fun H locs ls hP hD hS hl => va_alen C.1 C.2.1 C.2.2.2.2.2.2.1 hP q0 0 ha rfl hv hd (kk H locs ls hP hD hS hl)
end
end
section
def MF (y : MethodName) (cy : ByteArray) (ny : Nat) (ry : Option FieldType) (n : Nat) : Prop := Cond.code y cy ny ry ∈ gG ∧ Cond.initialized y.cls ∈ gG ∧ (y.cls ≠ "java/lang/invoke/MethodHandle" ∧ y.cls ≠ "java/lang/invoke/VarHandle" ∧ (parseMethodDescriptor y.desc).map (fun d => d.parameters.length) = some n)
def MFv (y : MethodName) (K : String) : Prop := Cond.instanceMethod y ∈ gG ∧ Cond.selects K y y ∈ gG
/-! blocks of cells -/
def fl (bs : List va_W) : va_W := bs.flatten
def putb : List va_W → List Nat → List va_W → List va_W
  | bs, i :: js, x :: xs => putb (bs.set i x) js xs
  | bs, _, _ => bs
theorem putb_mem : ∀ (js : List Nat) (xs bs : List va_W) (k : Nat) (b : va_W), (putb bs js xs)[k]? = some b → (b ∈ xs) ∨ (bs[k]? = some b ∧ (xs.length = js.length → k ∉ js))
  | [], xs, bs, k, q, h => by
    have h' : bs[k]? = some q := by cases xs <;> exact h
    exact Or.inr ⟨h', fun _ => List.not_mem_nil⟩
  | i :: is, [], w, k, q, h => Or.inr ⟨h, fun e => by simp at e⟩
  | i :: is, x :: xs, w, k, q, h => by
    have h1 : (putb (w.set i x) is xs)[k]? = some q := h
    rcases putb_mem is xs (w.set i x) k q h1 with h2 | ⟨h2, h3⟩
    · exact Or.inl (List.mem_cons_of_mem _ h2)
    · by_cases hk : i = k
      · subst hk
        by_cases hl : i < w.length
        · rw [List.getElem?_set_self hl] at h2
          exact Or.inl (by rw [← Option.some.inj h2]; exact List.mem_cons_self)
        · rw [List.getElem?_eq_none (by rw [List.length_set]; omega)] at h2
          cases h2
      · rw [List.getElem?_set_ne hk] at h2
        refine Or.inr ⟨h2, fun e => ?_⟩
        have e' : xs.length = is.length := by simpa using e
        intro hm
        rcases List.mem_cons.mp hm with h4 | h4
        · exact hk h4.symm
        · exact h3 e' h4
theorem putb_adr : ∀ (js : List Nat) (xs bs : List va_W), js.map (fun i => (bs.map (List.map Prod.fst))[i]?) = (xs.map (List.map Prod.fst)).map some → (putb bs js xs).map (List.map Prod.fst) = bs.map (List.map Prod.fst)
  | [], xs, w, _ => by cases xs <;> rfl
  | i :: is, [], w, h => by simp at h
  | i :: is, x :: xs, w, h => by
    have h1 : (w.map (List.map Prod.fst))[i]? = some (x.map Prod.fst) := by
      have := congrArg List.head? h
      simpa using this
    have h2 : is.map (fun i => (w.map (List.map Prod.fst))[i]?) = (xs.map (List.map Prod.fst)).map some := by
      have := congrArg List.tail h
      simpa using this
    have e : (w.set i x).map (List.map Prod.fst) = w.map (List.map Prod.fst) := by
      rw [List.map_set]
      apply List.ext_getElem?
      intro k
      by_cases hk : i = k
      · subst hk
        rw [h1, List.getElem?_set_self (List.getElem?_eq_some_iff.mp h1).1]
      · rw [List.getElem?_set_ne hk]
    show (putb (w.set i x) is xs).map (List.map Prod.fst) = _
    rw [putb_adr is xs (w.set i x) (by rw [e]; exact h2), e]
theorem va_D_app {A : Nat → Prop} {x y : va_W} (h : va_D A (x ++ y)) : va_D A x ∧ va_D A y ∧ ∀ p ∈ x, ∀ q ∈ y, p.1 ≠ q.1 := by
  have hx : ∀ (k : Nat) (q : Nat × va_E), x[k]? = some q → (x ++ y)[k]? = some q := fun k q hq => by
    rw [List.getElem?_append_left (List.getElem?_eq_some_iff.mp hq).1]; exact hq
  have hy : ∀ (k : Nat) (q : Nat × va_E), y[k]? = some q → (x ++ y)[x.length + k]? = some q := fun k q hq => by
    rw [List.getElem?_append_right (by omega)]; simpa using hq
  refine ⟨⟨fun i j p q hp hq e => h.1 i j p q (hx i p hp) (hx j q hq) e, fun k q hq => h.2 k q (hx k q hq)⟩, ⟨fun i j p q hp hq e => ?_, fun k q hq => h.2 _ q (hy k q hq)⟩, fun p hp q hq e => ?_⟩
  · have := h.1 _ _ p q (hy i p hp) (hy j q hq) e
    omega
  · obtain ⟨i, hi⟩ := List.getElem?_of_mem hp
    obtain ⟨j, hj⟩ := List.getElem?_of_mem hq
    have h1 := h.1 _ _ p q (hx i p hi) (hy j q hj) e
    have h2 := (List.getElem?_eq_some_iff.mp hi).1
    omega
theorem va_D_blk {A : Nat → Prop} : ∀ (bs : List va_W), va_D A bs.flatten → ∀ (i : Nat) (b : va_W), bs[i]? = some b → va_D A b
  | [], _, i, b, h => by simp at h
  | x :: bs, hD, 0, b, h => by
    have e : x = b := by simpa using h
    subst e
    exact (va_D_app (by simpa using hD)).1
  | x :: bs, hD, i + 1, b, h => va_D_blk bs (va_D_app (x := x) (by simpa using hD)).2.1 i b (by simpa using h)
theorem va_D_dis {A : Nat → Prop} : ∀ (bs : List va_W), va_D A bs.flatten → ∀ (i j : Nat) (b b' : va_W), i ≠ j → bs[i]? = some b → bs[j]? = some b' → ∀ p ∈ b, ∀ q ∈ b', p.1 ≠ q.1
  | [], _, i, j, b, b', _, h, _ => by simp at h
  | x :: bs, hD, 0, 0, b, b', hij, _, _ => absurd rfl hij
  | x :: bs, hD, 0, j + 1, b, b', _, h, h' => by
    have e : x = b := by simpa using h
    subst e
    intro p hp q hq
    exact (va_D_app (x := x) (by simpa using hD)).2.2 p hp q (List.mem_flatten.mpr ⟨b', List.mem_of_getElem? (by simpa using h'), hq⟩)
  | x :: bs, hD, i + 1, 0, b, b', _, h, h' => by
    have e : x = b' := by simpa using h'
    subst e
    intro p hp q hq e2
    exact (va_D_app (x := x) (by simpa using hD)).2.2 q hq p (List.mem_flatten.mpr ⟨b, List.mem_of_getElem? (by simpa using h), hp⟩) e2.symm
  | x :: bs, hD, i + 1, j + 1, b, b', hij, h, h' => va_D_dis bs (va_D_app (x := x) (by simpa using hD)).2.1 i j b b' (fun e => hij (by rw [e])) (by simpa using h) (by simpa using h')
theorem va_D_mk {A : Nat → Prop} : ∀ (cs : List va_W), (∀ b ∈ cs, va_D A b) → (∀ (i j : Nat) (b b' : va_W), i ≠ j → cs[i]? = some b → cs[j]? = some b' → ∀ p ∈ b, ∀ q ∈ b', p.1 ≠ q.1) → va_D A cs.flatten
  | [], _, _ => ⟨fun i j p q hp => by simp at hp, fun k q hq => by simp at hq⟩
  | x :: cs, h, hd => by
    rw [List.flatten_cons]
    refine va_D.app (h x List.mem_cons_self) (va_D_mk cs (fun b hb => h b (List.mem_cons_of_mem _ hb)) (fun i j b b' hij hb hb' => hd (i + 1) (j + 1) b b' (fun e => hij (by omega)) (by simpa using hb) (by simpa using hb'))) (fun i j p q hp hq => ?_)
    obtain ⟨b', hb', hq'⟩ := List.mem_flatten.mp (List.mem_of_getElem? hq)
    obtain ⟨k, hk⟩ := List.getElem?_of_mem hb'
    exact hd 0 (k + 1) x b' (by omega) (by simp) (by simpa using hk) p (List.mem_of_getElem? hp) q hq'
theorem pickB {bs cs : List va_W} {js : List Nat} (hC : js.map (fun i => bs[i]?) = cs.map some) {k : Nat} {b : va_W} (h : cs[k]? = some b) : ∃ i, js[k]? = some i ∧ bs[i]? = some b := by
  have h4 : (js.map (fun i => bs[i]?))[k]? = some (some b) := by rw [hC, List.getElem?_map, h]; rfl
  rw [List.getElem?_map] at h4
  cases hi : js[k]? with
  | none => rw [hi] at h4; cases h4
  | some i =>
    rw [hi] at h4
    exact ⟨i, rfl, Option.some.inj h4⟩
theorem va_P_iff {D : va_G} {w : va_W} {H : Heap} : va_P D vwCl w H ↔ ∀ q ∈ w, va_at D vwCl q H :=
  ⟨fun h q hq => by obtain ⟨k, hk⟩ := List.getElem?_of_mem hq; exact h k q hk, fun h k q hq => h q (List.mem_of_getElem? hq)⟩
theorem pickB_P {D : va_G} {bs cs : List va_W} {js : List Nat} {H : Heap} (hP : va_P D vwCl (fl bs) H) (hC : js.map (fun i => bs[i]?) = cs.map some) : va_P D vwCl (fl cs) H := by
  rw [va_P_iff] at hP ⊢
  intro q hq
  obtain ⟨b, hb, hq⟩ := List.mem_flatten.mp hq
  obtain ⟨k, hk⟩ := List.getElem?_of_mem hb
  obtain ⟨i, -, hi⟩ := pickB hC hk
  exact hP q (List.mem_flatten.mpr ⟨b, List.mem_of_getElem? hi, hq⟩)
theorem pickB_D {A : Nat → Prop} {bs cs : List va_W} {js : List Nat} (hD : va_D A (fl bs)) (hC : js.map (fun i => bs[i]?) = cs.map some) (hnd : va_nd js = true) : va_D A (fl cs) := by
  refine va_D_mk cs (fun b hb => ?_) (fun i j b b' hij hb hb' => ?_)
  · obtain ⟨k, hk⟩ := List.getElem?_of_mem hb
    obtain ⟨i, -, hi⟩ := pickB hC hk
    exact va_D_blk bs hD i b hi
  · obtain ⟨i', h1, h2⟩ := pickB hC hb
    obtain ⟨j', h3, h4⟩ := pickB hC hb'
    exact va_D_dis bs hD i' j' b b' (fun e => hij (va_nd_inj js hnd i j i' h1 (by rw [e]; exact h3))) h2 h4
theorem pickB_A {A : Nat → Prop} {bs cs : List va_W} {js : List Nat} {H0 H : Heap} {locs : List Loc} (hD : va_D A (fl bs)) (hS : va_S A H0 H locs) (hA : ∀ q : Nat, H0.size ≤ q → A q) (hC : js.map (fun i => bs[i]?) = cs.map some) : ∀ q, va_A (fl cs) H.size q → A q := by
  intro q h
  rcases h with ⟨k, x, h⟩ | h
  · obtain ⟨b, hb, hq⟩ := List.mem_flatten.mp (List.mem_of_getElem? h)
    obtain ⟨k2, hk⟩ := List.getElem?_of_mem hb
    obtain ⟨i, -, hi⟩ := pickB hC hk
    obtain ⟨k3, h3⟩ := List.getElem?_of_mem (List.mem_flatten.mpr ⟨b, List.mem_of_getElem? hi, hq⟩)
    exact hD.2 k3 (q, x) h3
  · exact hA q (Nat.le_trans hS.1 h)
theorem joinB {A : Nat → Prop} {D : va_G} {bs cs cs' : List va_W} {H H1 : Heap} (hP : va_P D vwCl (fl bs) H) (hD : va_D A (fl bs)) (js : List Nat) (hC : js.map (fun i => bs[i]?) = cs.map some) (hadr : cs'.map (List.map Prod.fst) = cs.map (List.map Prod.fst))
    (hk : ∀ q : Nat, q < H.size → ¬ va_A (fl cs) H.size q → H1[q]? = H[q]?) (hP1 : va_P D vwCl (fl cs') H1) : va_P D vwCl (fl (putb bs js cs')) H1 ∧ va_D A (fl (putb bs js cs')) := by
  have hlen : cs'.length = js.length := by
    have h1 := congrArg List.length hC
    have h2 := congrArg List.length hadr
    simp at h1 h2
    omega
  refine ⟨?_, va_D_adr hD ?_⟩
  · rw [va_P_iff] at hP hP1 ⊢
    intro q hq
    obtain ⟨b, hb, hq⟩ := List.mem_flatten.mp hq
    obtain ⟨k, hb⟩ := List.getElem?_of_mem hb
    rcases putb_mem js cs' bs k b hb with h | ⟨h, h2⟩
    · exact hP1 q (List.mem_flatten.mpr ⟨b, h, hq⟩)
    · have hat := hP q (List.mem_flatten.mpr ⟨b, List.mem_of_getElem? h, hq⟩)
      refine hat.kept (hk q.1 hat.lt (fun hA => ?_))
      rcases hA with ⟨k2, e, h3⟩ | h3
      · obtain ⟨b2, hb2, hq2⟩ := List.mem_flatten.mp (List.mem_of_getElem? h3)
        obtain ⟨k3, hb2⟩ := List.getElem?_of_mem hb2
        obtain ⟨i, h4, h5⟩ := pickB hC hb2
        exact va_D_dis bs hD k i b b2 (fun e => h2 hlen (by rw [e]; exact List.mem_of_getElem? h4)) h h5 q hq _ hq2 rfl
      · exact absurd hat.lt (Nat.not_lt.mpr h3)
  · have h0 := putb_adr js cs' bs (by
      rw [hadr]
      have h1 : js.map (fun i => (bs.map (List.map Prod.fst))[i]?) = (js.map (fun i => bs[i]?)).map (Option.map (List.map Prod.fst)) := by
        rw [List.map_map]
        apply List.map_congr_left
        intro i _
        simp [List.getElem?_map]
      rw [h1, hC, List.map_map, List.map_map]
      rfl)
    show ((putb bs js cs').flatten).map Prod.fst = (bs.flatten).map Prod.fst
    rw [List.map_flatten, List.map_flatten, h0]
section
variable {p : Program} {l : Launch} {e : Env} {R : Room} {s : State} {m : MethodId} {args : Array Value} {below : List Frame} {meth : Method} {c : Code} {E : VE} {A : Nat → Prop} {cc : ByteArray} {nL cells slots : Nat} {ret : Option FieldType} {own : String} {Q : State → Prop} {w : va_W} {pc : Nat} {lv : List (Nat × Value)} {st : List Value}
variable {y : MethodName} {cy : ByteArray} {ny n idx : Nat} {ry : Option FieldType} {rm : Room} {S : Type} {b : Nat} {K : String}
theorem v_freeA (C : VC p s m args meth c E A cc nL ret own) {H : Heap} {locs : List Loc} (hD : va_D A w) (hS : va_S A s.heap H locs) : ∀ q, va_A w H.size q → A q := by
  intro q h
  rcases h with ⟨k, x, h⟩ | h
  · exact hD.2 k (q, x) h
  · exact C.2.2.2.2.2.2.2.1 q (Nat.le_trans hS.1 h)
theorem v_goi (C : VC p s m args meth c E A cc nL ret own) {Post : Int32 → S → Prop} {wc : va_W} {wc' w' : S → va_W} {rest : List Value} {a : Array Value} (is : List Nat)
    (hC : is.map (fun i => w[i]?) = wc.map some) (hadr : ∀ u, (wc' u).map Prod.fst = wc.map Prod.fst) (hw' : ∀ u, putc w is (wc' u) = w' u)
    (run : ∀ (H : Heap) (locs : List Loc) (ls : Array Slot), va_P E.1 vwCl w H → va_D A w → va_S A s.heap H locs → lv_has ls nL lv → va_Run p l e R s m args below meth c H locs cells slots 0 0 (F0 m pc ls st) rest (CQi E Post wc' wc H.size a) (va_A wc H.size))
    (kk : ∀ (r : Int32) (u : S), Post r u → V p l e R s m args below meth c E A nL cells slots Q (w' u) (pc + 3) lv (.int r :: rest)) : V p l e R s m args below meth c E A nL cells slots Q w pc lv st := by
  intro H locs ls hP hD hS hl
  have hF := va_free hD hS C.2.2.2.2.2.2.2.1 is hC
  refine va_calli (run H locs ls hP hD hS hl) hS (fun q _ h => hF q h) hF (fun r u t H1 locs1 ht hvm hp hB hz hk hS1 => ?_)
  have hP1 : va_P E.1 vwCl (wc' u) H1 := ht ▸ hB
  obtain ⟨h1, h2⟩ := put_join hP hD is hC (hadr u) hk hP1
  exact kk r u hp H1 locs1 ls (hw' u ▸ h1) (hw' u ▸ h2) hS1 hl
theorem v_gol (C : VC p s m args meth c E A cc nL ret own) {Post : Int64 → S → Prop} {wc : va_W} {wc' w' : S → va_W} {rest : List Value} {a : Array Value} (is : List Nat)
    (hC : is.map (fun i => w[i]?) = wc.map some) (hadr : ∀ u, (wc' u).map Prod.fst = wc.map Prod.fst) (hw' : ∀ u, putc w is (wc' u) = w' u)
    (run : ∀ (H : Heap) (locs : List Loc) (ls : Array Slot), va_P E.1 vwCl w H → va_D A w → va_S A s.heap H locs → lv_has ls nL lv → va_Run p l e R s m args below meth c H locs cells slots 0 0 (F0 m pc ls st) rest (CQl E Post wc' wc H.size a) (va_A wc H.size))
    (kk : ∀ (r : Int64) (u : S), Post r u → V p l e R s m args below meth c E A nL cells slots Q (w' u) (pc + 3) lv (.long r :: rest)) : V p l e R s m args below meth c E A nL cells slots Q w pc lv st := by
  intro H locs ls hP hD hS hl
  have hF := va_free hD hS C.2.2.2.2.2.2.2.1 is hC
  refine va_calll (run H locs ls hP hD hS hl) hS (fun q _ h => hF q h) hF (fun r u t H1 locs1 ht hvm hp hB hz hk hS1 => ?_)
  have hP1 : va_P E.1 vwCl (wc' u) H1 := ht ▸ hB
  obtain ⟨h1, h2⟩ := put_join hP hD is hC (hadr u) hk hP1
  exact kk r u hp H1 locs1 ls (hw' u ▸ h1) (hw' u ▸ h2) hS1 hl
theorem v_gov (C : VC p s m args meth c E A cc nL ret own) {Post : S → Prop} {wc : va_W} {wc' w' : S → va_W} {rest : List Value} {a : Array Value} (is : List Nat)
    (hC : is.map (fun i => w[i]?) = wc.map some) (hadr : ∀ u, (wc' u).map Prod.fst = wc.map Prod.fst) (hw' : ∀ u, putc w is (wc' u) = w' u)
    (run : ∀ (H : Heap) (locs : List Loc) (ls : Array Slot), va_P E.1 vwCl w H → va_D A w → va_S A s.heap H locs → lv_has ls nL lv → va_Run p l e R s m args below meth c H locs cells slots 0 0 (F0 m pc ls st) rest (CQv E Post wc' wc H.size a) (va_A wc H.size))
    (kk : ∀ (u : S), Post u → V p l e R s m args below meth c E A nL cells slots Q (w' u) (pc + 3) lv rest) : V p l e R s m args below meth c E A nL cells slots Q w pc lv st := by
  intro H locs ls hP hD hS hl
  have hF := va_free hD hS C.2.2.2.2.2.2.2.1 is hC
  refine va_callv (run H locs ls hP hD hS hl) hS (fun q _ h => hF q h) hF (fun u t H1 locs1 ht hvm hp hB hz hk hS1 => ?_)
  have hP1 : va_P E.1 vwCl (wc' u) H1 := ht ▸ hB
  obtain ⟨h1, h2⟩ := put_join hP hD is hC (hadr u) hk hP1
  exact kk u hp H1 locs1 ls (hw' u ▸ h1) (hw' u ▸ h2) hS1 hl
/-- the start of a callee's contract -/
theorem v_pre (C : VC p s m args meth c E A cc nL ret own) {wc : va_W} {H : Heap} (is : List Nat) (hC : is.map (fun i => w[i]?) = wc.map some) (hnd : va_nd is = true) {locs : List Loc} (hP : va_P E.1 vwCl w H) (hD : va_D A w) (hS : va_S A s.heap H locs) (av : List Value) : ∀ U : State, U.heap = H → s.WarmedH U.vm → CPre E av H.size wc av.toArray U := by
  intro U hU hW
  exact ⟨rfl, by rw [hU], by rw [hU]; exact pick_P hP is hC, va_K.moved hW.alike C.2.2.2.2.2.2.1, (hD.sub is hnd hC).weaken (fun _ _ _ _ => trivial), fun x hx => nst_warm (List.mem_filter.mp hx).2 hW (C.2.2.2.2.2.2.2.2.2.1 x hx), sF_go C.2.2.2.2.2.2.2.2.2.2 hS (va_free hD hS C.2.2.2.2.2.2.2.1 is hC) hW hU⟩
/-- a virtual call -/
theorem v_runV (C : VC p s m args meth c E A cc nL ret own) {Qc : Nat → Array Value → State → Outcome → State → Prop} {wc : va_W} (As rest : List Value) (hM : ∀ sz, Met l y (mW y cy ny ry) rm (CPre E (.ref b :: As) sz wc) (Qc sz) 0 0 (va_A wc sz)) (is : List Nat) (hC : is.map (fun i => w[i]?) = wc.map some) (hnd : va_nd is = true)
    (mf : MF y cy ny ry n) (mv : MFv y K) (hlk : Cond.methodLink own idx y ∈ gG) (hn : As.length = n) (hR : rm.frames + 1 ≤ R.frames ∧ 8 + (ny + 11) + rm.locals ≤ R.locals) (hz : rm.cells = 0 ∧ rm.slots = 0)
    (qr : Nat) {ci : Nat} {fs : List Value} {qc : vw_C} (hcr : vwCl[ci]? = some qc) (hK : qc.1 = K) (her : w[qr]? = some (b, .inr (ci, fs))) (hst : st = As.reverse ++ .ref b :: rest) (hroom : (rest.map fun v => v.category).sum ≤ 8) (hf : cells ≤ R.cells ∧ slots ≤ R.slots) (hd : decode cc pc = .ok (.invokevirtual idx, 3)) :
    ∀ (H : Heap) (locs : List Loc) (ls : Array Slot), va_P E.1 vwCl w H → va_D A w → va_S A s.heap H locs → lv_has ls nL lv → va_Run p l e R s m args below meth c H locs cells slots 0 0 (F0 m pc ls st) rest (Qc H.size (Value.ref b :: As).toArray) (va_A wc H.size) := by
  intro H locs ls hP hD hS hl
  subst hst
  subst hK
  have cb : CallB R s args own idx y cy ny ry (mW y cy ny ry) rm 0 0 n := callB_of n C.2.2.2.2.2.1 (mW_good (fun _ h => h) mf.1) rfl hz.1 hz.2 (C.2.2.2.2.2.1 _ mf.2.1) (C.2.2.2.2.2.1 _ hlk) mf.2.2 hR
  exact va_runV ⟨C.1, C.2.1, C.2.2.1, C.2.2.2.2.1, C.2.2.2.2.2.1⟩ (hM H.size) ⟨cb, C.2.2.2.2.2.1 _ mv.1, C.2.2.2.2.2.1 _ mv.2⟩ ⟨CPre_blind, va_recv C.2.2.2.2.2.2.1 hP hcr her, v_pre C is hC hnd hP hD hS (.ref b :: As)⟩ rfl hn hl.1 rfl (lv_room hroom) hd hf
theorem v_runS (C : VC p s m args meth c E A cc nL ret own) {Qc : Nat → Array Value → State → Outcome → State → Prop} {wc : va_W} (As rest : List Value) (hM : ∀ sz, Met l y (mW y cy ny ry) rm (CPre E As sz wc) (Qc sz) 0 0 (va_A wc sz)) (is : List Nat) (hC : is.map (fun i => w[i]?) = wc.map some) (hnd : va_nd is = true)
    (mf : MF y cy ny ry n) (ms : Cond.static y ∈ gG) (hlk : Cond.methodLink own idx y ∈ gG) (hn : As.length = n) (hR : rm.frames + 1 ≤ R.frames ∧ 8 + (ny + 11) + rm.locals ≤ R.locals) (hz : rm.cells = 0 ∧ rm.slots = 0)
    (hst : st = As.reverse ++ rest) (hroom : (rest.map fun v => v.category).sum ≤ 8) (hf : cells ≤ R.cells ∧ slots ≤ R.slots) (hd : decode cc pc = .ok (.invokestatic idx, 3)) :
    ∀ (H : Heap) (locs : List Loc) (ls : Array Slot), va_P E.1 vwCl w H → va_D A w → va_S A s.heap H locs → lv_has ls nL lv → va_Run p l e R s m args below meth c H locs cells slots 0 0 (F0 m pc ls st) rest (Qc H.size As.toArray) (va_A wc H.size) := by
  intro H locs ls hP hD hS hl
  subst hst
  have cb : CallB R s args own idx y cy ny ry (mW y cy ny ry) rm 0 0 n := callB_of n C.2.2.2.2.2.1 (mW_good (fun _ h => h) mf.1) rfl hz.1 hz.2 (C.2.2.2.2.2.1 _ mf.2.1) (C.2.2.2.2.2.1 _ hlk) mf.2.2 hR
  exact va_runS ⟨C.1, C.2.1, C.2.2.1, C.2.2.2.2.1, C.2.2.2.2.2.1⟩ (hM H.size) ⟨cb, C.2.2.2.2.2.1 _ ms⟩ ⟨CPre_blind, v_pre C is hC hnd hP hD hS As⟩ rfl hn hl.1 rfl (lv_room hroom) hd hf
theorem v_runSN (C : VC p s m args meth c E A cc nL ret own) {Qc : Nat → Array Value → State → Outcome → State → Prop} {wc : va_W} {host : String} (As rest : List Value) (hM : ∀ sz, Met l y (mW y cy ny ry) rm (CPre E As sz wc) (Qc sz) 0 0 (va_A wc sz)) (is : List Nat) (hC : is.map (fun i => w[i]?) = wc.map some) (hnd : va_nd is = true)
    (mf : MF y cy ny ry n) (ms : Cond.static y ∈ gG) (hlk : Cond.methodLinkNest own idx y host ∈ nW) (hn : As.length = n) (hR : rm.frames + 1 ≤ R.frames ∧ 8 + (ny + 11) + rm.locals ≤ R.locals) (hz : rm.cells = 0 ∧ rm.slots = 0)
    (hst : st = As.reverse ++ rest) (hroom : (rest.map fun v => v.category).sum ≤ 8) (hf : cells ≤ R.cells ∧ slots ≤ R.slots) (hd : decode cc pc = .ok (.invokestatic idx, 3)) :
    ∀ (H : Heap) (locs : List Loc) (ls : Array Slot), va_P E.1 vwCl w H → va_D A w → va_S A s.heap H locs → lv_has ls nL lv → va_Run p l e R s m args below meth c H locs cells slots 0 0 (F0 m pc ls st) rest (Qc H.size As.toArray) (va_A wc H.size) := by
  intro H locs ls hP hD hS hl
  subst hst
  exact va_runSN ⟨C.1, C.2.1, C.2.2.1, C.2.2.2.2.1, C.2.2.2.2.2.1⟩ (hM H.size) ⟨va_cnB n C.2.2.2.2.2.1 (mW_good (fun _ h => h) mf.1) rfl hz.1 hz.2 (C.2.2.2.2.2.2.2.2.2.1 _ hlk) (C.2.2.2.2.2.1 _ mf.2.1) mf.2.2 hR, C.2.2.2.2.2.1 _ ms, trivial⟩ ⟨CPre_blind, v_pre C is hC hnd hP hD hS As⟩ rfl hn hl.1 rfl (lv_room hroom) hd hf
theorem v_goBi (C : VC p s m args meth c E A cc nL ret own) {Post : Int32 → S → Prop} {bs cs : List va_W} {cs' bs' : S → List va_W} {w' : S → va_W} {rest : List Value} {a : Array Value} (js : List Nat) (hw : w = fl bs)
    (hC : js.map (fun i => bs[i]?) = cs.map some) (hadr : ∀ u, (cs' u).map (List.map Prod.fst) = cs.map (List.map Prod.fst)) (hb : ∀ u, putb bs js (cs' u) = bs' u) (hw' : ∀ u, fl (bs' u) = w' u)
    (run : ∀ (H : Heap) (locs : List Loc) (ls : Array Slot), va_P E.1 vwCl w H → va_D A w → va_S A s.heap H locs → lv_has ls nL lv → va_Run p l e R s m args below meth c H locs cells slots 0 0 (F0 m pc ls st) rest (CQi E Post (fun u => fl (cs' u)) (fl cs) H.size a) (va_A (fl cs) H.size))
    (kk : ∀ (r : Int32) (u : S), Post r u → V p l e R s m args below meth c E A nL cells slots Q (w' u) (pc + 3) lv (.int r :: rest)) : V p l e R s m args below meth c E A nL cells slots Q w pc lv st := by
  intro H locs ls hP hD hS hl
  subst hw
  have hF := pickB_A hD hS C.2.2.2.2.2.2.2.1 hC
  refine va_calli (run H locs ls hP hD hS hl) hS (fun q _ h => hF q h) hF (fun r u t H1 locs1 ht hvm hp hB hz hk hS1 => ?_)
  have hP1 : va_P E.1 vwCl (fl (cs' u)) H1 := ht ▸ hB
  obtain ⟨h1, h2⟩ := joinB hP hD js hC (hadr u) hk hP1
  exact kk r u hp H1 locs1 ls (hw' u ▸ hb u ▸ h1) (hw' u ▸ hb u ▸ h2) hS1 hl
theorem v_goBl (C : VC p s m args meth c E A cc nL ret own) {Post : Int64 → S → Prop} {bs cs : List va_W} {cs' bs' : S → List va_W} {w' : S → va_W} {rest : List Value} {a : Array Value} (js : List Nat) (hw : w = fl bs)
    (hC : js.map (fun i => bs[i]?) = cs.map some) (hadr : ∀ u, (cs' u).map (List.map Prod.fst) = cs.map (List.map Prod.fst)) (hb : ∀ u, putb bs js (cs' u) = bs' u) (hw' : ∀ u, fl (bs' u) = w' u)
    (run : ∀ (H : Heap) (locs : List Loc) (ls : Array Slot), va_P E.1 vwCl w H → va_D A w → va_S A s.heap H locs → lv_has ls nL lv → va_Run p l e R s m args below meth c H locs cells slots 0 0 (F0 m pc ls st) rest (CQl E Post (fun u => fl (cs' u)) (fl cs) H.size a) (va_A (fl cs) H.size))
    (kk : ∀ (r : Int64) (u : S), Post r u → V p l e R s m args below meth c E A nL cells slots Q (w' u) (pc + 3) lv (.long r :: rest)) : V p l e R s m args below meth c E A nL cells slots Q w pc lv st := by
  intro H locs ls hP hD hS hl
  subst hw
  have hF := pickB_A hD hS C.2.2.2.2.2.2.2.1 hC
  refine va_calll (run H locs ls hP hD hS hl) hS (fun q _ h => hF q h) hF (fun r u t H1 locs1 ht hvm hp hB hz hk hS1 => ?_)
  have hP1 : va_P E.1 vwCl (fl (cs' u)) H1 := ht ▸ hB
  obtain ⟨h1, h2⟩ := joinB hP hD js hC (hadr u) hk hP1
  exact kk r u hp H1 locs1 ls (hw' u ▸ hb u ▸ h1) (hw' u ▸ hb u ▸ h2) hS1 hl
theorem v_goBv (C : VC p s m args meth c E A cc nL ret own) {Post : S → Prop} {bs cs : List va_W} {cs' bs' : S → List va_W} {w' : S → va_W} {rest : List Value} {a : Array Value} (js : List Nat) (hw : w = fl bs)
    (hC : js.map (fun i => bs[i]?) = cs.map some) (hadr : ∀ u, (cs' u).map (List.map Prod.fst) = cs.map (List.map Prod.fst)) (hb : ∀ u, putb bs js (cs' u) = bs' u) (hw' : ∀ u, fl (bs' u) = w' u)
    (run : ∀ (H : Heap) (locs : List Loc) (ls : Array Slot), va_P E.1 vwCl w H → va_D A w → va_S A s.heap H locs → lv_has ls nL lv → va_Run p l e R s m args below meth c H locs cells slots 0 0 (F0 m pc ls st) rest (CQv E Post (fun u => fl (cs' u)) (fl cs) H.size a) (va_A (fl cs) H.size))
    (kk : ∀ (u : S), Post u → V p l e R s m args below meth c E A nL cells slots Q (w' u) (pc + 3) lv rest) : V p l e R s m args below meth c E A nL cells slots Q w pc lv st := by
  intro H locs ls hP hD hS hl
  subst hw
  have hF := pickB_A hD hS C.2.2.2.2.2.2.2.1 hC
  refine va_callv (run H locs ls hP hD hS hl) hS (fun q _ h => hF q h) hF (fun u t H1 locs1 ht hvm hp hB hz hk hS1 => ?_)
  have hP1 : va_P E.1 vwCl (fl (cs' u)) H1 := ht ▸ hB
  obtain ⟨h1, h2⟩ := joinB hP hD js hC (hadr u) hk hP1
  exact kk u hp H1 locs1 ls (hw' u ▸ hb u ▸ h1) (hw' u ▸ hb u ▸ h2) hS1 hl
theorem v_preB (C : VC p s m args meth c E A cc nL ret own) {bs cs : List va_W} {H : Heap} (js : List Nat) (hC : js.map (fun i => bs[i]?) = cs.map some) (hnd : va_nd js = true) {locs : List Loc} (hP : va_P E.1 vwCl (fl bs) H) (hD : va_D A (fl bs)) (hS : va_S A s.heap H locs) (av : List Value) : ∀ U : State, U.heap = H → s.WarmedH U.vm → CPre E av H.size (fl cs) av.toArray U := by
  intro U hU hW
  exact ⟨rfl, by rw [hU], by rw [hU]; exact pickB_P hP hC, va_K.moved hW.alike C.2.2.2.2.2.2.1, (pickB_D hD hC hnd).weaken (fun _ _ _ _ => trivial), fun x hx => nst_warm (List.mem_filter.mp hx).2 hW (C.2.2.2.2.2.2.2.2.2.1 x hx), sF_go C.2.2.2.2.2.2.2.2.2.2 hS (pickB_A hD hS C.2.2.2.2.2.2.2.1 hC) hW hU⟩
theorem v_runVB (C : VC p s m args meth c E A cc nL ret own) {Qc : Nat → Array Value → State → Outcome → State → Prop} {bs cs : List va_W} (As rest : List Value) (hM : ∀ sz, Met l y (mW y cy ny ry) rm (CPre E (.ref b :: As) sz (fl cs)) (Qc sz) 0 0 (va_A (fl cs) sz)) (js : List Nat) (hwb : w = fl bs) (hC : js.map (fun i => bs[i]?) = cs.map some) (hnd : va_nd js = true)
    (mf : MF y cy ny ry n) (mv : MFv y K) (hlk : Cond.methodLink own idx y ∈ gG) (hn : As.length = n) (hR : rm.frames + 1 ≤ R.frames ∧ 8 + (ny + 11) + rm.locals ≤ R.locals) (hz : rm.cells = 0 ∧ rm.slots = 0)
    (qr : Nat) {ci : Nat} {fs : List Value} {qc : vw_C} (hcr : vwCl[ci]? = some qc) (hK : qc.1 = K) (her : w[qr]? = some (b, .inr (ci, fs))) (hst : st = As.reverse ++ .ref b :: rest) (hroom : (rest.map fun v => v.category).sum ≤ 8) (hf : cells ≤ R.cells ∧ slots ≤ R.slots) (hd : decode cc pc = .ok (.invokevirtual idx, 3)) :
    ∀ (H : Heap) (locs : List Loc) (ls : Array Slot), va_P E.1 vwCl w H → va_D A w → va_S A s.heap H locs → lv_has ls nL lv → va_Run p l e R s m args below meth c H locs cells slots 0 0 (F0 m pc ls st) rest (Qc H.size (Value.ref b :: As).toArray) (va_A (fl cs) H.size) := by
  intro H locs ls hP hD hS hl
  subst hst
  subst hwb
  subst hK
  have cb : CallB R s args own idx y cy ny ry (mW y cy ny ry) rm 0 0 n := callB_of n C.2.2.2.2.2.1 (mW_good (fun _ h => h) mf.1) rfl hz.1 hz.2 (C.2.2.2.2.2.1 _ mf.2.1) (C.2.2.2.2.2.1 _ hlk) mf.2.2 hR
  exact va_runV ⟨C.1, C.2.1, C.2.2.1, C.2.2.2.2.1, C.2.2.2.2.2.1⟩ (hM H.size) ⟨cb, C.2.2.2.2.2.1 _ mv.1, C.2.2.2.2.2.1 _ mv.2⟩ ⟨CPre_blind, va_recv C.2.2.2.2.2.2.1 hP hcr her, v_preB C js hC hnd hP hD hS (.ref b :: As)⟩ rfl hn hl.1 rfl (lv_room hroom) hd hf
theorem v_runSB (C : VC p s m args meth c E A cc nL ret own) {Qc : Nat → Array Value → State → Outcome → State → Prop} {bs cs : List va_W} (As rest : List Value) (hM : ∀ sz, Met l y (mW y cy ny ry) rm (CPre E As sz (fl cs)) (Qc sz) 0 0 (va_A (fl cs) sz)) (js : List Nat) (hwb : w = fl bs) (hC : js.map (fun i => bs[i]?) = cs.map some) (hnd : va_nd js = true)
    (mf : MF y cy ny ry n) (ms : Cond.static y ∈ gG) (hlk : Cond.methodLink own idx y ∈ gG) (hn : As.length = n) (hR : rm.frames + 1 ≤ R.frames ∧ 8 + (ny + 11) + rm.locals ≤ R.locals) (hz : rm.cells = 0 ∧ rm.slots = 0)
    (hst : st = As.reverse ++ rest) (hroom : (rest.map fun v => v.category).sum ≤ 8) (hf : cells ≤ R.cells ∧ slots ≤ R.slots) (hd : decode cc pc = .ok (.invokestatic idx, 3)) :
    ∀ (H : Heap) (locs : List Loc) (ls : Array Slot), va_P E.1 vwCl w H → va_D A w → va_S A s.heap H locs → lv_has ls nL lv → va_Run p l e R s m args below meth c H locs cells slots 0 0 (F0 m pc ls st) rest (Qc H.size As.toArray) (va_A (fl cs) H.size) := by
  intro H locs ls hP hD hS hl
  subst hst
  subst hwb
  have cb : CallB R s args own idx y cy ny ry (mW y cy ny ry) rm 0 0 n := callB_of n C.2.2.2.2.2.1 (mW_good (fun _ h => h) mf.1) rfl hz.1 hz.2 (C.2.2.2.2.2.1 _ mf.2.1) (C.2.2.2.2.2.1 _ hlk) mf.2.2 hR
  exact va_runS ⟨C.1, C.2.1, C.2.2.1, C.2.2.2.2.1, C.2.2.2.2.2.1⟩ (hM H.size) ⟨cb, C.2.2.2.2.2.1 _ ms⟩ ⟨CPre_blind, v_preB C js hC hnd hP hD hS As⟩ rfl hn hl.1 rfl (lv_room hroom) hd hf
theorem v_runSNB (C : VC p s m args meth c E A cc nL ret own) {Qc : Nat → Array Value → State → Outcome → State → Prop} {bs cs : List va_W} {host : String} (As rest : List Value) (hM : ∀ sz, Met l y (mW y cy ny ry) rm (CPre E As sz (fl cs)) (Qc sz) 0 0 (va_A (fl cs) sz)) (js : List Nat) (hwb : w = fl bs) (hC : js.map (fun i => bs[i]?) = cs.map some) (hnd : va_nd js = true)
    (mf : MF y cy ny ry n) (ms : Cond.static y ∈ gG) (hlk : Cond.methodLinkNest own idx y host ∈ nW) (hn : As.length = n) (hR : rm.frames + 1 ≤ R.frames ∧ 8 + (ny + 11) + rm.locals ≤ R.locals) (hz : rm.cells = 0 ∧ rm.slots = 0)
    (hst : st = As.reverse ++ rest) (hroom : (rest.map fun v => v.category).sum ≤ 8) (hf : cells ≤ R.cells ∧ slots ≤ R.slots) (hd : decode cc pc = .ok (.invokestatic idx, 3)) :
    ∀ (H : Heap) (locs : List Loc) (ls : Array Slot), va_P E.1 vwCl w H → va_D A w → va_S A s.heap H locs → lv_has ls nL lv → va_Run p l e R s m args below meth c H locs cells slots 0 0 (F0 m pc ls st) rest (Qc H.size As.toArray) (va_A (fl cs) H.size) := by
  intro H locs ls hP hD hS hl
  subst hst
  subst hwb
  exact va_runSN ⟨C.1, C.2.1, C.2.2.1, C.2.2.2.2.1, C.2.2.2.2.2.1⟩ (hM H.size) ⟨va_cnB n C.2.2.2.2.2.1 (mW_good (fun _ h => h) mf.1) rfl hz.1 hz.2 (C.2.2.2.2.2.2.2.2.2.1 _ hlk) (C.2.2.2.2.2.1 _ mf.2.1) mf.2.2 hR, C.2.2.2.2.2.1 _ ms, trivial⟩ ⟨CPre_blind, v_preB C js hC hnd hP hD hS As⟩ rfl hn hl.1 rfl (lv_room hroom) hd hf
/-- a call whose callee has the whole world -/
theorem v_preA (C : VC p s m args meth c E A cc nL ret own) {H : Heap} {locs : List Loc} (hP : va_P E.1 vwCl w H) (hD : va_D A w) (hS : va_S A s.heap H locs) (av : List Value) : ∀ U : State, U.heap = H → s.WarmedH U.vm → CPre E av H.size w av.toArray U := by
  intro U hU hW
  exact ⟨rfl, by rw [hU], by rw [hU]; exact hP, va_K.moved hW.alike C.2.2.2.2.2.2.1, hD.weaken (fun _ _ _ _ => trivial), fun x hx => nst_warm (List.mem_filter.mp hx).2 hW (C.2.2.2.2.2.2.2.2.2.1 x hx), sF_go C.2.2.2.2.2.2.2.2.2.2 hS (v_freeA C hD hS) hW hU⟩
theorem v_runVA (C : VC p s m args meth c E A cc nL ret own) {Qc : Nat → Array Value → State → Outcome → State → Prop} (As rest : List Value) (hM : ∀ sz, Met l y (mW y cy ny ry) rm (CPre E (.ref b :: As) sz w) (Qc sz) 0 0 (va_A w sz))
    (mf : MF y cy ny ry n) (mv : MFv y K) (hlk : Cond.methodLink own idx y ∈ gG) (hn : As.length = n) (hR : rm.frames + 1 ≤ R.frames ∧ 8 + (ny + 11) + rm.locals ≤ R.locals) (hz : rm.cells = 0 ∧ rm.slots = 0)
    (qr : Nat) {ci : Nat} {fs : List Value} {qc : vw_C} (hcr : vwCl[ci]? = some qc) (hK : qc.1 = K) (her : w[qr]? = some (b, .inr (ci, fs))) (hst : st = As.reverse ++ .ref b :: rest) (hroom : (rest.map fun v => v.category).sum ≤ 8) (hf : cells ≤ R.cells ∧ slots ≤ R.slots) (hd : decode cc pc = .ok (.invokevirtual idx, 3)) :
    ∀ (H : Heap) (locs : List Loc) (ls : Array Slot), va_P E.1 vwCl w H → va_D A w → va_S A s.heap H locs → lv_has ls nL lv → va_Run p l e R s m args below meth c H locs cells slots 0 0 (F0 m pc ls st) rest (Qc H.size (Value.ref b :: As).toArray) (va_A w H.size) := by
  intro H locs ls hP hD hS hl
  subst hst
  subst hK
  have cb : CallB R s args own idx y cy ny ry (mW y cy ny ry) rm 0 0 n := callB_of n C.2.2.2.2.2.1 (mW_good (fun _ h => h) mf.1) rfl hz.1 hz.2 (C.2.2.2.2.2.1 _ mf.2.1) (C.2.2.2.2.2.1 _ hlk) mf.2.2 hR
  exact va_runV ⟨C.1, C.2.1, C.2.2.1, C.2.2.2.2.1, C.2.2.2.2.2.1⟩ (hM H.size) ⟨cb, C.2.2.2.2.2.1 _ mv.1, C.2.2.2.2.2.1 _ mv.2⟩ ⟨CPre_blind, va_recv C.2.2.2.2.2.2.1 hP hcr her, v_preA C hP hD hS (.ref b :: As)⟩ rfl hn hl.1 rfl (lv_room hroom) hd hf
theorem v_goAi (C : VC p s m args meth c E A cc nL ret own) {Post : Int32 → S → Prop} {wc' : S → va_W} {rest : List Value} {a : Array Value} (hadr : ∀ u, (wc' u).map Prod.fst = w.map Prod.fst)
    (run : ∀ (H : Heap) (locs : List Loc) (ls : Array Slot), va_P E.1 vwCl w H → va_D A w → va_S A s.heap H locs → lv_has ls nL lv → va_Run p l e R s m args below meth c H locs cells slots 0 0 (F0 m pc ls st) rest (CQi E Post wc' w H.size a) (va_A w H.size))
    (kk : ∀ (r : Int32) (u : S), Post r u → V p l e R s m args below meth c E A nL cells slots Q (wc' u) (pc + 3) lv (.int r :: rest)) : V p l e R s m args below meth c E A nL cells slots Q w pc lv st := by
  intro H locs ls hP hD hS hl
  have hF := v_freeA C hD hS
  refine va_calli (run H locs ls hP hD hS hl) hS (fun q _ h => hF q h) hF (fun r u t H1 locs1 ht hvm hp hB hz hk hS1 => ?_)
  exact kk r u hp H1 locs1 ls (ht ▸ hB) (va_D_adr hD (hadr u)) hS1 hl
theorem v_goAl (C : VC p s m args meth c E A cc nL ret own) {Post : Int64 → S → Prop} {wc' : S → va_W} {rest : List Value} {a : Array Value} (hadr : ∀ u, (wc' u).map Prod.fst = w.map Prod.fst)
    (run : ∀ (H : Heap) (locs : List Loc) (ls : Array Slot), va_P E.1 vwCl w H → va_D A w → va_S A s.heap H locs → lv_has ls nL lv → va_Run p l e R s m args below meth c H locs cells slots 0 0 (F0 m pc ls st) rest (CQl E Post wc' w H.size a) (va_A w H.size))
    (kk : ∀ (r : Int64) (u : S), Post r u → V p l e R s m args below meth c E A nL cells slots Q (wc' u) (pc + 3) lv (.long r :: rest)) : V p l e R s m args below meth c E A nL cells slots Q w pc lv st := by
  intro H locs ls hP hD hS hl
  have hF := v_freeA C hD hS
  refine va_calll (run H locs ls hP hD hS hl) hS (fun q _ h => hF q h) hF (fun r u t H1 locs1 ht hvm hp hB hz hk hS1 => ?_)
  exact kk r u hp H1 locs1 ls (ht ▸ hB) (va_D_adr hD (hadr u)) hS1 hl
theorem v_goAv (C : VC p s m args meth c E A cc nL ret own) {Post : S → Prop} {wc' : S → va_W} {rest : List Value} {a : Array Value} (hadr : ∀ u, (wc' u).map Prod.fst = w.map Prod.fst)
    (run : ∀ (H : Heap) (locs : List Loc) (ls : Array Slot), va_P E.1 vwCl w H → va_D A w → va_S A s.heap H locs → lv_has ls nL lv → va_Run p l e R s m args below meth c H locs cells slots 0 0 (F0 m pc ls st) rest (CQv E Post wc' w H.size a) (va_A w H.size))
    (kk : ∀ (u : S), Post u → V p l e R s m args below meth c E A nL cells slots Q (wc' u) (pc + 3) lv rest) : V p l e R s m args below meth c E A nL cells slots Q w pc lv st := by
  intro H locs ls hP hD hS hl
  have hF := v_freeA C hD hS
  refine va_callv (run H locs ls hP hD hS hl) hS (fun q _ h => hF q h) hF (fun u t H1 locs1 ht hvm hp hB hz hk hS1 => ?_)
  exact kk u hp H1 locs1 ls (ht ▸ hB) (va_D_adr hD (hadr u)) hS1 hl
/-- returns -/
theorem v_ireti (C : VC p s m args meth c E A cc nL (some .int) own) {Post : Int32 → S → Prop} {wf : S → va_W} {w0 : va_W} {x : Int32} (u : S) (hA : va_A w0 s.heap.size = A) (hw : w = wf u) (h : Post x u) (hd : decode cc pc = .ok (.ireturn, 1)) : V p l e R s m args below meth c E A nL cells slots (MQ below (CQi E Post wf w0 s.heap.size) args s cells slots A) w pc lv [.int x] := by
  intro H locs ls hP hD hS hl
  subst hw
  exact W.iret C.1 C.2.1 C.2.2.2.1 (fun t ht hW => ⟨⟨x, u, rfl, h, by show va_P _ _ _ t.heap; rw [ht]; exact hP⟩, hA ▸ hS.F ht⟩) hS.2.2 hd C.2.2.2.2.2.2.2.2.1
theorem v_iretz (C : VC p s m args meth c E A cc nL (some .boolean) own) {Post : Int32 → S → Prop} {wf : S → va_W} {w0 : va_W} {x : Int32} (hz : narrow .boolean (.int x) = .int x) (u : S) (hA : va_A w0 s.heap.size = A) (hw : w = wf u) (h : Post x u) (hd : decode cc pc = .ok (.ireturn, 1)) : V p l e R s m args below meth c E A nL cells slots (MQ below (CQi E Post wf w0 s.heap.size) args s cells slots A) w pc lv [.int x] := by
  intro H locs ls hP hD hS hl
  subst hw
  exact W.zret C.1 C.2.1 C.2.2.2.1 hz (fun t ht hW => ⟨⟨x, u, rfl, h, by show va_P _ _ _ t.heap; rw [ht]; exact hP⟩, hA ▸ hS.F ht⟩) hS.2.2 hd C.2.2.2.2.2.2.2.2.1
theorem v_lret (C : VC p s m args meth c E A cc nL (some .long) own) {Post : Int64 → S → Prop} {wf : S → va_W} {w0 : va_W} {x : Int64} (u : S) (hA : va_A w0 s.heap.size = A) (hw : w = wf u) (h : Post x u) (hd : decode cc pc = .ok (.lreturn, 1)) : V p l e R s m args below meth c E A nL cells slots (MQ below (CQl E Post wf w0 s.heap.size) args s cells slots A) w pc lv [.long x] := by
  intro H locs ls hP hD hS hl
  subst hw
  exact W.lret C.1 C.2.1 C.2.2.2.1 (fun t ht hW => ⟨⟨x, u, rfl, h, by show va_P _ _ _ t.heap; rw [ht]; exact hP⟩, hA ▸ hS.F ht⟩) hS.2.2 hd C.2.2.2.2.2.2.2.2.1
theorem v_vret (C : VC p s m args meth c E A cc nL none own) {Post : S → Prop} {wf : S → va_W} {w0 : va_W} (u : S) (hA : va_A w0 s.heap.size = A) (hw : w = wf u) (h : Post u) (hd : decode cc pc = .ok (.return_, 1)) : V p l e R s m args below meth c E A nL cells slots (MQ below (CQv E Post wf w0 s.heap.size) args s cells slots A) w pc lv [] := by
  intro H locs ls hP hD hS hl
  subst hw
  exact W.vret C.1 C.2.1 C.2.2.2.1 (fun t ht hW => ⟨⟨u, rfl, h, by show va_P _ _ _ t.heap; rw [ht]; exact hP⟩, hA ▸ hS.F ht⟩) hS.2.2 hd C.2.2.2.2.2.2.2.2.1
/-- System.arraycopy of ints -/
theorem v_copy (C : VC p s m args meth c E A cc nL ret own) (q0 q1 : Nat) {a a0 n0 n1 : Nat} {f g : Nat → Int32} {w' : va_W} {sp dp cn : Int32} {js jd jn : Nat} (ha0 : w[q0]? = some (a0, .inl (E.2.1, n0, .inl f))) (ha1 : w[q1]? = some (a, .inl (E.2.1, n1, .inl g)))
    (hw : w.set q1 (a, .inl (E.2.1, n1, .inl (va_cpy f g js jd jn))) = w') (h1 : ¬ sp < 0) (h2 : ¬ dp < 0) (h3 : ¬ cn < 0) (e1 : sp.toNatClampNeg = js) (e2 : dp.toNatClampNeg = jd) (e3 : cn.toNatClampNeg = jn) (h4 : js + jn ≤ n0) (h5 : jd + jn ≤ n1)
    (hlk : Cond.methodLink own idx arraycopyName ∈ gG) (hnat : Cond.native arraycopyName ∈ gG) (hsta : Cond.static arraycopyName ∈ gG) (hini : Cond.initialized "java/lang/System" ∈ gG) (hfr : 1 ≤ R.frames) (hlo : (st.map fun v => v.category).sum + (nativeFrameWords "java/lang/System" "arraycopy" 5 + 11) ≤ R.locals) (hd : decode cc pc = .ok (.invokestatic idx, 3))
    (kk : V p l e R s m args below meth c E A nL cells slots Q w' (pc + 3) lv st) : V p l e R s m args below meth c E A nL cells slots Q w pc lv (.int cn :: .int dp :: .ref a :: .int sp :: .ref a0 :: st) := by
  subst e1; subst e2; subst e3
  exact fun H locs ls hP hD hS hl => va_copyi C.1 C.2.1 (C.2.2.1.trans hl.1.symm) C.2.2.2.2.1 (C.2.2.2.2.2.1 _ hlk) (C.2.2.2.2.2.1 _ hnat) (C.2.2.2.2.2.1 _ hsta) (C.2.2.2.2.2.1 _ hini) C.2.2.2.2.2.2.1 hP hD hS q0 q1 0 0 ha0 ha1 rfl rfl rfl h1 h2 h3 h4 h5 (fun i _ => rfl) hfr hlo hd (fun H1 locs1 hP1 hD1 hS1 => kk H1 locs1 ls (hw ▸ hP1) (hw ▸ hD1) hS1 hl)
end
/-- a contract out of the walk of the body -/
theorem v_met {l : Launch} {E : VE} {y : MethodName} {cc : ByteArray} {nL : Nat} {ret : Option FieldType} {rm : Room} {Qc : Array Value → State → Outcome → State → Prop} {av : List Value} {sz : Nat} {w : va_W} (hy : plainName y.cls = true) (hlen : (lg_sl av).length ≤ nL)
    (body : ∀ (p : Program) (e : Env) (s : State) (m : MethodId) (below : List Frame) (meth : Method) (c : Code) (A : Nat → Prop), s.heap.size = sz → va_A w sz = A → VC p s m av.toArray meth c E A cc nL ret y.cls → V p l e rm s m av.toArray below meth c E A nL 0 0 (MQ below Qc av.toArray s 0 0 A) w 0 (lv_args 0 av) []) :
    Met l y (mW y cc nL ret) rm (CPre E av sz w) Qc 0 0 (va_A w sz) := by
  refine Met.ofW (cc := cc) (maxL := nL) (ret := ret) hy rfl ?_
  intro p e s m args below meth c s₁ B hml hv
  obtain ⟨rfl, hsz, hP, hK, hD0, hN, hF⟩ := hv
  have hts := atoms_spec (ws := mW y cc nL ret) B.pre
  have hA : ∀ q : Nat, s.heap.size ≤ q → va_A w sz q := fun q h => Or.inr (hsz ▸ h)
  have hl := lv_entry av (n := nL) hlen
  rw [lg_entry_eq]
  exact body p e s m below meth c _ hsz rfl ⟨B.exec, B.bytes, hml, B.returns, findClass_of_methodNamed B.named, fun x hx => hts x (List.mem_cons_of_mem _ hx), hK, hA, B.notSynchronized, hN, hF⟩ s.heap [] _ hP (hD0.self) va_S.rf hl
/-- the way out of a table of jumps -/
theorem tblo {x : Int32} {k : Nat} (hk : k < 2 ^ 31) (h : ∀ j, j ≤ k → ¬ x = nI j) : x.toInt < 0 ∨ (k : Int) < x.toInt := by
  by_cases hx : x < 0
  · exact Or.inl (by have := Int32.lt_iff_toInt_lt.mp hx; simpa using this)
  · obtain ⟨j, hj, rfl⟩ := nI_of hx
    by_cases hjk : j ≤ k
    · exact absurd rfl (h j hjk)
    · exact Or.inr (by rw [nI_toInt hj]; omega)
end
section
def bPad (E : VE) (a : Nat → Nat) (x : St) : va_W := [(a 0, .inr (4, [.ref (a 1), .ref (a 2), .int (x.I 2), .int (x.I 3), .int (x.I 4), .ref (a 3), .ref (a 4), .ref (a 5), .ref (a 6), .ref (a 7), .ref (a 8), .int (x.I 11)])), (a 1, .inl (E.2.1, 86, .inl (x.A 0))), (a 2, .inl (E.2.1, 688, .inl (x.A 1))), (a 3, .inl (E.2.1, 10, .inl (x.A 5))), (a 4, .inl (E.2.1, 10, .inl (x.A 6))), (a 5, .inl (E.2.1, 10, .inl (x.A 7))), (a 6, .inl (E.2.1, 10, .inl (x.A 8))), (a 7, .inl (E.2.1, 60, .inl (x.A 9))), (a 8, .inl (E.2.1, 8, .inl (x.A 10)))]
def bLost (E : VE) (a : Nat → Nat) (x : St) : va_W := [(a 0, .inr (2, [.ref (a 1), .ref (a 2), .int (x.I 2), .int (x.I 3)])), (a 1, .inl (E.2.1, 12, .inl (x.A 0))), (a 2, .inl (E.2.1, 12, .inl (x.A 1)))]
def bRows (E : VE) (a : Nat → Nat) (x : St) : va_W := [(a 0, .inr (8, [.ref (a 1), .ref (a 2), .ref (a 3), .ref (a 4), .int (x.I 4)])), (a 1, .inl (E.2.1, 6, .inl (x.A 0))), (a 2, .inl (E.2.1, 6, .inl (x.A 1))), (a 3, .inl (E.2.1, 60, .inl (x.A 2))), (a 4, .inl (E.2.1, 10, .inl (x.A 3)))]
def bReader (E : VE) (a : Nat → Nat) (x : St) : va_W := [(a 0, .inr (7, [.ref (a 1), .int (x.I 1), .int (x.I 2), .int (x.I 3), .int (x.I 4), .int (x.I 5), .int (x.I 6), .int (x.I 7)])), (a 1, .inl (E.2.1, 150, .inl (x.A 0)))]
def bModel (E : VE) (a : Nat → Nat) (x : St) : va_W := [(a 0, .inr (12, [.int (x.I 0), .int (x.I 1), .ref (a 1), .int (x.I 3), .ref (a 2), .ref (a 3), .int (x.I 6), .long (x.L 7), .long (x.L 8), .ref (a 4), .ref (a 5), .int (x.I 11), .int (x.I 12), .int (x.I 13), .int (x.I 14), .int (x.I 15), .ref (a 6), .int (x.I 17), .int (x.I 18), .int (x.I 19), .int (x.I 20), .int (x.I 21), .int (x.I 22), .ref (a 7), .ref (a 8), .ref (a 9), .long (x.L 26), .ref (a 10), .ref (a 11), .long (x.L 29)])), (a 1, .inl (E.2.1, 8, .inl (x.A 2))), (a 2, .inl (E.2.1, 126, .inl (x.A 4))), (a 3, .inl (E.2.1, 1008, .inl (x.A 5))), (a 4, .inl (E.2.1, 3, .inl (x.A 9))), (a 5, .inl (E.2.1, 150, .inl (x.A 10))), (a 6, .inl (E.2.1, 600, .inl (x.A 16))), (a 7, .inl (E.2.1, 6, .inl (x.A 23))), (a 8, .inl (E.2.1, 6, .inl (x.A 24))), (a 9, .inl (E.2.1, 126, .inl (x.A 25))), (a 10, .inl (E.2.2.1, 2, .inl (x.A 27))), (a 11, .inl (E.2.1, 2308, .inl (x.A 28)))]
def bBox (E : VE) (a : Nat → Nat) : va_W := [(a 0, .inr (5, [.ref (a 1)])), (a 1, .inl (E.2.2.2.1, 6, .inr (.inr (.inr (.inr (fun k => some (a (2 + k)))))))), (a 2, .inr (6, [])),  (a 3, .inr (0, [])),  (a 4, .inr (3, [])),  (a 5, .inr (9, [])),  (a 6, .inr (1, [])),  (a 7, .inr (10, []))]
def bArr (E : VE) (a : Nat → Nat) (n : Nat) (f : Nat → Int32) : va_W := [(a 0, .inl (E.2.1, n, .inl f))]
def bObj (E : VE) (a : Nat → Nat → Nat) (t : Nat → St) : va_W := [(a 0 0, .inr (11, [.ref (a 1 0), .ref (a 2 0), .ref (a 3 0), .ref (a 4 0), .ref (a 5 0), .ref (a 6 0), .ref (a 7 0), .ref (a 8 0), .ref (a 0 1), .int ((t 0).I 9), .long ((t 0).L 10), .long ((t 0).L 11), .int ((t 0).I 12), .int ((t 0).I 13), .int ((t 0).I 14)])), (a 0 1, .inl (E.2.1, 12, .inl ((t 0).A 8)))]
def wBig (E : VE) (a : Nat → Nat → Nat) (t : Nat → St) : va_W := [(a 0 0, .inr (11, [.ref (a 1 0), .ref (a 2 0), .ref (a 3 0), .ref (a 4 0), .ref (a 5 0), .ref (a 6 0), .ref (a 7 0), .ref (a 8 0), .ref (a 0 1), .int ((t 0).I 9), .long ((t 0).L 10), .long ((t 0).L 11), .int ((t 0).I 12), .int ((t 0).I 13), .int ((t 0).I 14)])), (a 0 1, .inl (E.2.1, 12, .inl ((t 0).A 8))), (a 1 0, .inr (5, [.ref (a 1 1)])), (a 1 1, .inl (E.2.2.2.1, 6, .inr (.inr (.inr (.inr (fun k => some (a 1 (2 + k)))))))), (a 1 2, .inr (6, [])), (a 1 3, .inr (0, [])), (a 1 4, .inr (3, [])), (a 1 5, .inr (9, [])), (a 1 6, .inr (1, [])), (a 1 7, .inr (10, [])), (a 2 0, .inr (4, [.ref (a 2 1), .ref (a 2 2), .int ((t 2).I 2), .int ((t 2).I 3), .int ((t 2).I 4), .ref (a 2 3), .ref (a 2 4), .ref (a 2 5), .ref (a 2 6), .ref (a 2 7), .ref (a 2 8), .int ((t 2).I 11)])), (a 2 1, .inl (E.2.1, 86, .inl ((t 2).A 0))), (a 2 2, .inl (E.2.1, 688, .inl ((t 2).A 1))), (a 2 3, .inl (E.2.1, 10, .inl ((t 2).A 5))), (a 2 4, .inl (E.2.1, 10, .inl ((t 2).A 6))), (a 2 5, .inl (E.2.1, 10, .inl ((t 2).A 7))), (a 2 6, .inl (E.2.1, 10, .inl ((t 2).A 8))), (a 2 7, .inl (E.2.1, 60, .inl ((t 2).A 9))), (a 2 8, .inl (E.2.1, 8, .inl ((t 2).A 10))), (a 3 0, .inr (4, [.ref (a 3 1), .ref (a 3 2), .int ((t 3).I 2), .int ((t 3).I 3), .int ((t 3).I 4), .ref (a 3 3), .ref (a 3 4), .ref (a 3 5), .ref (a 3 6), .ref (a 3 7), .ref (a 3 8), .int ((t 3).I 11)])), (a 3 1, .inl (E.2.1, 86, .inl ((t 3).A 0))), (a 3 2, .inl (E.2.1, 688, .inl ((t 3).A 1))), (a 3 3, .inl (E.2.1, 10, .inl ((t 3).A 5))), (a 3 4, .inl (E.2.1, 10, .inl ((t 3).A 6))), (a 3 5, .inl (E.2.1, 10, .inl ((t 3).A 7))), (a 3 6, .inl (E.2.1, 10, .inl ((t 3).A 8))), (a 3 7, .inl (E.2.1, 60, .inl ((t 3).A 9))), (a 3 8, .inl (E.2.1, 8, .inl ((t 3).A 10))), (a 4 0, .inr (4, [.ref (a 4 1), .ref (a 4 2), .int ((t 4).I 2), .int ((t 4).I 3), .int ((t 4).I 4), .ref (a 4 3), .ref (a 4 4), .ref (a 4 5), .ref (a 4 6), .ref (a 4 7), .ref (a 4 8), .int ((t 4).I 11)])), (a 4 1, .inl (E.2.1, 86, .inl ((t 4).A 0))), (a 4 2, .inl (E.2.1, 688, .inl ((t 4).A 1))), (a 4 3, .inl (E.2.1, 10, .inl ((t 4).A 5))), (a 4 4, .inl (E.2.1, 10, .inl ((t 4).A 6))), (a 4 5, .inl (E.2.1, 10, .inl ((t 4).A 7))), (a 4 6, .inl (E.2.1, 10, .inl ((t 4).A 8))), (a 4 7, .inl (E.2.1, 60, .inl ((t 4).A 9))), (a 4 8, .inl (E.2.1, 8, .inl ((t 4).A 10))), (a 5 0, .inr (4, [.ref (a 5 1), .ref (a 5 2), .int ((t 5).I 2), .int ((t 5).I 3), .int ((t 5).I 4), .ref (a 5 3), .ref (a 5 4), .ref (a 5 5), .ref (a 5 6), .ref (a 5 7), .ref (a 5 8), .int ((t 5).I 11)])), (a 5 1, .inl (E.2.1, 86, .inl ((t 5).A 0))), (a 5 2, .inl (E.2.1, 688, .inl ((t 5).A 1))), (a 5 3, .inl (E.2.1, 10, .inl ((t 5).A 5))), (a 5 4, .inl (E.2.1, 10, .inl ((t 5).A 6))), (a 5 5, .inl (E.2.1, 10, .inl ((t 5).A 7))), (a 5 6, .inl (E.2.1, 10, .inl ((t 5).A 8))), (a 5 7, .inl (E.2.1, 60, .inl ((t 5).A 9))), (a 5 8, .inl (E.2.1, 8, .inl ((t 5).A 10))), (a 6 0, .inr (2, [.ref (a 6 1), .ref (a 6 2), .int ((t 6).I 2), .int ((t 6).I 3)])), (a 6 1, .inl (E.2.1, 12, .inl ((t 6).A 0))), (a 6 2, .inl (E.2.1, 12, .inl ((t 6).A 1))), (a 7 0, .inr (8, [.ref (a 7 1), .ref (a 7 2), .ref (a 7 3), .ref (a 7 4), .int ((t 7).I 4)])), (a 7 1, .inl (E.2.1, 6, .inl ((t 7).A 0))), (a 7 2, .inl (E.2.1, 6, .inl ((t 7).A 1))), (a 7 3, .inl (E.2.1, 60, .inl ((t 7).A 2))), (a 7 4, .inl (E.2.1, 10, .inl ((t 7).A 3))), (a 8 0, .inr (7, [.ref (a 8 1), .int ((t 8).I 1), .int ((t 8).I 2), .int ((t 8).I 3), .int ((t 8).I 4), .int ((t 8).I 5), .int ((t 8).I 6), .int ((t 8).I 7)])), (a 8 1, .inl (E.2.1, 150, .inl ((t 8).A 0)))]
def bsBig (E : VE) (a : Nat → Nat → Nat) (t : Nat → St) : List va_W := [bObj E a t, bBox E (a 1), bPad E (a 2) (t 2), bPad E (a 3) (t 3), bPad E (a 4) (t 4), bPad E (a 5) (t 5), bLost E (a 6) (t 6), bRows E (a 7) (t 7), bReader E (a 8) (t 8)]
theorem wBig_fl (E : VE) (a : Nat → Nat → Nat) (t : Nat → St) : wBig E a t = fl (bsBig E a t) := rfl
def rmX5_forceOf : Room := { frames := 4, cells := 0, slots := 0, locals := 120 }
def rmX5_hasInk : Room := { frames := 3, cells := 0, slots := 0, locals := 100 }
def rmX4_placeOf : Room := { frames := 0, cells := 0, slots := 0, locals := 0 }
def rmX4_dentOf : Room := { frames := 1, cells := 0, slots := 0, locals := 21 }
def rmX4_noteCount : Room := { frames := 0, cells := 0, slots := 0, locals := 0 }
def rmX4_forceDown : Room := { frames := 0, cells := 0, slots := 0, locals := 0 }
def rmX4_forceOn : Room := { frames := 1, cells := 0, slots := 0, locals := 22 }
def rmX11_dentInto : Room := { frames := 0, cells := 0, slots := 0, locals := 0 }
def rmX2_look : Room := { frames := 2, cells := 0, slots := 0, locals := 44 }
def rmX2_guess : Room := { frames := 0, cells := 0, slots := 0, locals := 0 }
def rmX2_isFit : Room := { frames := 0, cells := 0, slots := 0, locals := 0 }
def rmX4_beginAnew : Room := { frames := 0, cells := 0, slots := 0, locals := 0 }
def rmX4_copyFrom : Room := { frames := 1, cells := 0, slots := 0, locals := 200 }
def rmX4_keepForUndo : Room := { frames := 1, cells := 0, slots := 0, locals := 200 }
def rmX4_goBack : Room := { frames := 1, cells := 0, slots := 0, locals := 200 }
def rmX4_top : Room := { frames := 0, cells := 0, slots := 0, locals := 0 }
def rmX4_isUsedUp : Room := { frames := 0, cells := 0, slots := 0, locals := 0 }
def rmX4_hasSheet : Room := { frames := 0, cells := 0, slots := 0, locals := 0 }
def rmX4_hasSheets : Room := { frames := 0, cells := 0, slots := 0, locals := 0 }
def rmX4_hasNote : Room := { frames := 0, cells := 0, slots := 0, locals := 0 }
def rmX4_hasNotes : Room := { frames := 0, cells := 0, slots := 0, locals := 0 }
def rmX4_inkOf : Room := { frames := 1, cells := 0, slots := 0, locals := 21 }
def rmX4_copyOf : Room := { frames := 1, cells := 0, slots := 0, locals := 21 }
def rmX4_tearTop : Room := { frames := 0, cells := 0, slots := 0, locals := 0 }
def rmX4_pressInto : Room := { frames := 1, cells := 0, slots := 0, locals := 25 }
def rmX4_putNote : Room := { frames := 5, cells := 0, slots := 0, locals := 144 }
def rmX4_writtenOn : Room := { frames := 0, cells := 0, slots := 0, locals := 0 }
def rmX4_cellsDented : Room := { frames := 2, cells := 0, slots := 0, locals := 44 }
def rmX4_dentedBy : Room := { frames := 3, cells := 0, slots := 0, locals := 66 }
def rmX4_dentedAtLeast : Room := { frames := 2, cells := 0, slots := 0, locals := 43 }
def rmX4_digestFrom : Room := { frames := 1, cells := 0, slots := 0, locals := 21 }
def rmX7_fault : Room := { frames := 0, cells := 0, slots := 0, locals := 0 }
def rmX7_isWithin : Room := { frames := 0, cells := 0, slots := 0, locals := 0 }
def rmX7_passWord : Room := { frames := 1, cells := 0, slots := 0, locals := 23 }
def rmX7_passFigures : Room := { frames := 1, cells := 0, slots := 0, locals := 23 }
def rmX7_step : Room := { frames := 2, cells := 0, slots := 0, locals := 43 }
def rmX7_isWord : Room := { frames := 5, cells := 0, slots := 0, locals := 200 }
def rmX7_isNumber : Room := { frames := 0, cells := 0, slots := 0, locals := 0 }
def rmX7_passStop : Room := { frames := 3, cells := 0, slots := 0, locals := 63 }
def rmX7_readFirst : Room := { frames := 6, cells := 0, slots := 0, locals := 222 }
def rmX7_readCarbon : Room := { frames := 4, cells := 0, slots := 0, locals := 83 }
def rmX7_readPen : Room := { frames := 3, cells := 0, slots := 0, locals := 63 }
def rmX7_readCells : Room := { frames := 3, cells := 0, slots := 0, locals := 63 }
def rmX7_readItem : Room := { frames := 6, cells := 0, slots := 0, locals := 222 }
def rmX7_readInto : Room := { frames := 7, cells := 0, slots := 0, locals := 247 }
def rmX8_sheetAt : Room := { frames := 0, cells := 0, slots := 0, locals := 0 }
def rmX8_mayLie : Room := { frames := 1, cells := 0, slots := 0, locals := 22 }
def rmX8_layFrom (d : Nat) : Room := { frames := 10 + 2 * d, cells := 0, slots := 0, locals := 400 + 100 * d }
def rmX8_search : Room := { frames := 25, cells := 0, slots := 0, locals := 1125 }
def rmX11_bad : Room := { frames := 0, cells := 0, slots := 0, locals := 0 }
def rmX11_pad : Room := { frames := 1, cells := 0, slots := 0, locals := 22 }
def rmX11_carbons : Room := { frames := 1, cells := 0, slots := 0, locals := 21 }
def rmX11_isPen : Room := { frames := 0, cells := 0, slots := 0, locals := 0 }
def rmX11_isCells : Room := { frames := 0, cells := 0, slots := 0, locals := 0 }
def rmX11_no : Room := { frames := 0, cells := 0, slots := 0, locals := 0 }
def rmX11_full : Room := { frames := 0, cells := 0, slots := 0, locals := 0 }
def rmX11_write : Room := { frames := 6, cells := 0, slots := 0, locals := 220 }
def rmX11_tear : Room := { frames := 2, cells := 0, slots := 0, locals := 220 }
def rmX11_undo : Room := { frames := 2, cells := 0, slots := 0, locals := 220 }
def rmX11_word : Room := { frames := 1, cells := 0, slots := 0, locals := 21 }
def rmX11_forget : Room := { frames := 0, cells := 0, slots := 0, locals := 0 }
def rmX11_type : Room := { frames := 1, cells := 0, slots := 0, locals := 21 }
def rmX11_clear : Room := { frames := 0, cells := 0, slots := 0, locals := 0 }
def rmX11_read : Room := { frames := 8, cells := 0, slots := 0, locals := 271 }
def rmX11_of : Room := { frames := 2, cells := 0, slots := 0, locals := 42 }
def rmX11_dent : Room := { frames := 2, cells := 0, slots := 0, locals := 43 }
def rmX11_about : Room := { frames := 4, cells := 0, slots := 0, locals := 122 }
def rmX11_isDepth : Room := { frames := 0, cells := 0, slots := 0, locals := 0 }
def rmX11_force : Room := { frames := 5, cells := 0, slots := 0, locals := 144 }
def rmX11_whose : Room := { frames := 4, cells := 0, slots := 0, locals := 89 }
def rmX11_own : Room := { frames := 3, cells := 0, slots := 0, locals := 66 }
def rmX11_shown : Room := { frames := 3, cells := 0, slots := 0, locals := 67 }
def rmJ6_bitCount_0f7a4 : Room := { frames := 0, cells := 0, slots := 0, locals := 0 }
def rmX11_wordsThatFit : Room := { frames := 1, cells := 0, slots := 0, locals := 21 }
def rmX11_lost : Room := { frames := 5, cells := 0, slots := 0, locals := 144 }
def rmX11_pen : Room := { frames := 5, cells := 0, slots := 0, locals := 144 }
def rmX11_orders : Room := { frames := 26, cells := 0, slots := 0, locals := 1149 }
def rmX11_press : Room := { frames := 5, cells := 0, slots := 0, locals := 144 }
def rmX11_copies : Room := { frames := 5, cells := 0, slots := 0, locals := 144 }
def rmX11_keepFraction : Room := { frames := 0, cells := 0, slots := 0, locals := 0 }
def rmX11_rub : Room := { frames := 2, cells := 0, slots := 0, locals := 43 }
def rmX11_torn : Room := { frames := 4, cells := 0, slots := 0, locals := 89 }
def rmX11_nextDraw : Room := { frames := 0, cells := 0, slots := 0, locals := 0 }
def rmX11_drawOf : Room := { frames := 0, cells := 0, slots := 0, locals := 0 }
def rmX11_sumOfLast : Room := { frames := 0, cells := 0, slots := 0, locals := 0 }
def rmX11_drawn : Room := { frames := 5, cells := 0, slots := 0, locals := 144 }
def rmX11_part : Room := { frames := 1, cells := 0, slots := 0, locals := 21 }
def rmX11_image : Room := { frames := 2, cells := 0, slots := 0, locals := 221 }
def rmX11_from : Room := { frames := 2, cells := 0, slots := 0, locals := 221 }
def rmX11_status : Room := { frames := 1, cells := 0, slots := 0, locals := 21 }
def rmX11_amountOf : Room := { frames := 1, cells := 0, slots := 0, locals := 20 }
def rmX11_count : Room := { frames := 2, cells := 0, slots := 0, locals := 41 }
def rmX11_digest : Room := { frames := 2, cells := 0, slots := 0, locals := 47 }
def rmX12_in : Room := { frames := 0, cells := 0, slots := 0, locals := 0 }
def rmX12_has : Room := { frames := 0, cells := 0, slots := 0, locals := 0 }
def rmX12_ones : Room := { frames := 0, cells := 0, slots := 0, locals := 0 }
def rmX12_refuse : Room := { frames := 0, cells := 0, slots := 0, locals := 0 }
def rmX12_bad : Room := { frames := 1, cells := 0, slots := 0, locals := 22 }
def rmX12_badLess : Room := { frames := 1, cells := 0, slots := 0, locals := 22 }
def rmX12_isSheet : Room := { frames := 1, cells := 0, slots := 0, locals := 25 }
def rmX12_areNotes : Room := { frames := 1, cells := 0, slots := 0, locals := 25 }
def rmX12_isPen : Room := { frames := 1, cells := 0, slots := 0, locals := 25 }
def rmX12_pencil : Room := { frames := 0, cells := 0, slots := 0, locals := 0 }
def rmX12_forceOf : Room := { frames := 1, cells := 0, slots := 0, locals := 22 }
def rmX12_hasInk : Room := { frames := 0, cells := 0, slots := 0, locals := 0 }
def rmX12_empty : Room := { frames := 0, cells := 0, slots := 0, locals := 0 }
def rmX12_pad : Room := { frames := 2, cells := 0, slots := 0, locals := 42 }
def rmX12_carbons : Room := { frames := 2, cells := 0, slots := 0, locals := 42 }
def rmX12_note : Room := { frames := 0, cells := 0, slots := 0, locals := 0 }
def rmX12_dentAll : Room := { frames := 2, cells := 0, slots := 0, locals := 44 }
def rmX12_writeNow : Room := { frames := 3, cells := 0, slots := 0, locals := 72 }
def rmX12_write : Room := { frames := 4, cells := 0, slots := 0, locals := 96 }
def rmX12_tear : Room := { frames := 1, cells := 0, slots := 0, locals := 22 }
def rmX12_undo : Room := { frames := 1, cells := 0, slots := 0, locals := 22 }
def rmX12_word : Room := { frames := 2, cells := 0, slots := 0, locals := 42 }
def rmX12_forget : Room := { frames := 0, cells := 0, slots := 0, locals := 0 }
def rmX12_type : Room := { frames := 2, cells := 0, slots := 0, locals := 42 }
def rmX12_clear : Room := { frames := 0, cells := 0, slots := 0, locals := 0 }
def rmX12_byteAt : Room := { frames := 0, cells := 0, slots := 0, locals := 0 }
def rmX12_isWord : Room := { frames := 0, cells := 0, slots := 0, locals := 0 }
def rmX12_nextToken : Room := { frames := 1, cells := 0, slots := 0, locals := 28 }
def rmX12_number : Room := { frames := 2, cells := 0, slots := 0, locals := 48 }
def rmX12_readNote : Room := { frames := 3, cells := 0, slots := 0, locals := 70 }
def rmX12_readPad : Room := { frames := 4, cells := 0, slots := 0, locals := 93 }
def rmX12_read : Room := { frames := 5, cells := 0, slots := 0, locals := 116 }
def rmX12_writtenOn : Room := { frames := 0, cells := 0, slots := 0, locals := 0 }
def rmX12_of : Room := { frames := 2, cells := 0, slots := 0, locals := 46 }
def rmX12_dentOf : Room := { frames := 0, cells := 0, slots := 0, locals := 0 }
def rmX12_dent : Room := { frames := 2, cells := 0, slots := 0, locals := 46 }
def rmX12_about : Room := { frames := 2, cells := 0, slots := 0, locals := 44 }
def rmX12_force : Room := { frames := 2, cells := 0, slots := 0, locals := 46 }
def rmX12_forceIn : Room := { frames := 2, cells := 0, slots := 0, locals := 44 }
def rmX12_whoseOf : Room := { frames := 3, cells := 0, slots := 0, locals := 69 }
def rmX12_whose : Room := { frames := 4, cells := 0, slots := 0, locals := 92 }
def rmX12_own : Room := { frames := 3, cells := 0, slots := 0, locals := 69 }
def rmX12_shown : Room := { frames := 2, cells := 0, slots := 0, locals := 46 }
def rmX12_explained : Room := { frames := 3, cells := 0, slots := 0, locals := 69 }
def rmX12_isLost : Room := { frames := 4, cells := 0, slots := 0, locals := 95 }
def rmX12_fits : Room := { frames := 0, cells := 0, slots := 0, locals := 0 }
def rmX12_lost : Room := { frames := 5, cells := 0, slots := 0, locals := 122 }
def rmX12_pen : Room := { frames := 5, cells := 0, slots := 0, locals := 122 }
def rmX12_exchange : Room := { frames := 0, cells := 0, slots := 0, locals := 0 }
def rmX12_nextRow : Room := { frames := 1, cells := 0, slots := 0, locals := 23 }
def rmX12_placeOf : Room := { frames := 0, cells := 0, slots := 0, locals := 0 }
def rmX12_isRow : Room := { frames := 2, cells := 0, slots := 0, locals := 44 }
def rmX12_orders : Room := { frames := 3, cells := 0, slots := 0, locals := 71 }
def rmX12_press : Room := { frames := 2, cells := 0, slots := 0, locals := 44 }
def rmX12_copies : Room := { frames := 2, cells := 0, slots := 0, locals := 46 }
def rmX12_common : Room := { frames := 0, cells := 0, slots := 0, locals := 0 }
def rmX12_rub : Room := { frames := 2, cells := 0, slots := 0, locals := 46 }
def rmX12_torn : Room := { frames := 4, cells := 0, slots := 0, locals := 92 }
def rmX12_draw : Room := { frames := 0, cells := 0, slots := 0, locals := 0 }
def rmX12_drawn : Room := { frames := 3, cells := 0, slots := 0, locals := 72 }
def rmX12_part : Room := { frames := 2, cells := 0, slots := 0, locals := 42 }
def rmX12_carry : Room := { frames := 0, cells := 0, slots := 0, locals := 0 }
def rmX12_image : Room := { frames := 2, cells := 0, slots := 0, locals := 42 }
def rmX12_from : Room := { frames := 2, cells := 0, slots := 0, locals := 42 }
def rmX12_status : Room := { frames := 1, cells := 0, slots := 0, locals := 25 }
def rmX12_countOf : Room := { frames := 0, cells := 0, slots := 0, locals := 0 }
def rmX12_count : Room := { frames := 2, cells := 0, slots := 0, locals := 42 }
def rmX12_mix : Room := { frames := 0, cells := 0, slots := 0, locals := 0 }
def rmX12_digest : Room := { frames := 1, cells := 0, slots := 0, locals := 22 }
end
section
theorem tinp {w : Cond} (h : w ∈ k2_sels lw_privs) : w ∈ lw_tbl := List.mem_append_left _ h
theorem tin1 {w : Cond} (h : w ∈ tables_1_1) : w ∈ lw_tbl := List.mem_append_right _ (List.mem_append_left _ h)
theorem tin2 {w : Cond} (h : w ∈ tables_1_2) : w ∈ lw_tbl := List.mem_append_right _ (List.mem_append_right _ (List.mem_append_left _ h))
theorem tin3 {w : Cond} (h : w ∈ tables_1_3) : w ∈ lw_tbl := List.mem_append_right _ (List.mem_append_right _ (List.mem_append_right _ (List.mem_append_left _ h)))
theorem tin4 {w : Cond} (h : w ∈ tables_1_4) : w ∈ lw_tbl := List.mem_append_right _ (List.mem_append_right _ (List.mem_append_right _ (List.mem_append_right _ (List.mem_append_left _ h))))
theorem tin5 {w : Cond} (h : w ∈ tables_1_5) : w ∈ lw_tbl := List.mem_append_right _ (List.mem_append_right _ (List.mem_append_right _ (List.mem_append_right _ (List.mem_append_right _ h))))
theorem ki_2 : Int32.ofInt 2 = (2 : Int32) := by decide +kernel
theorem kb_14 : (Int8.ofInt 14).toInt32 = (14 : Int32) := by decide +kernel
theorem ki_1 : Int32.ofInt 1 = (1 : Int32) := by decide +kernel
theorem vi_1_86 : vp_in 1 86 := by unfold vp_in; decide
theorem tn_1 : (1 : Int32).toNatClampNeg = 1 := by decide
theorem ki_0 : Int32.ofInt 0 = (0 : Int32) := by decide +kernel
theorem kb_6 : (Int8.ofInt 6).toInt32 = (6 : Int32) := by decide +kernel
theorem kb_12 : (Int8.ofInt 12).toInt32 = (12 : Int32) := by decide +kernel
theorem ki_m1 : Int32.ofInt (-1) = (-1 : Int32) := by decide +kernel
theorem kb_86 : (Int8.ofInt 86).toInt32 = (86 : Int32) := by decide +kernel
theorem tn_0 : (0 : Int32).toNatClampNeg = 0 := by decide
theorem tn_86 : (86 : Int32).toNatClampNeg = 86 := by decide
theorem kb_10 : (Int8.ofInt 10).toInt32 = (10 : Int32) := by decide +kernel
theorem tn_10 : (10 : Int32).toNatClampNeg = 10 := by decide
theorem kb_60 : (Int8.ofInt 60).toInt32 = (60 : Int32) := by decide +kernel
theorem tn_60 : (60 : Int32).toNatClampNeg = 60 := by decide
theorem kb_8 : (Int8.ofInt 8).toInt32 = (8 : Int32) := by decide +kernel
theorem tn_8 : (8 : Int32).toNatClampNeg = 8 := by decide
theorem ks_602 : (Int16.ofInt 602).toInt32 = (602 : Int32) := by decide +kernel
theorem tn_602 : (602 : Int32).toNatClampNeg = 602 := by decide
theorem kb_7 : (Int8.ofInt 7).toInt32 = (7 : Int32) := by decide +kernel
theorem vi_0_86 : vp_in 0 86 := by unfold vp_in; decide
theorem kb_97 : (Int8.ofInt 97).toInt32 = (97 : Int32) := by decide +kernel
theorem kb_122 : (Int8.ofInt 122).toInt32 = (122 : Int32) := by decide +kernel
theorem kb_48 : (Int8.ofInt 48).toInt32 = (48 : Int32) := by decide +kernel
theorem kb_57 : (Int8.ofInt 57).toInt32 = (57 : Int32) := by decide +kernel
theorem ki_4 : Int32.ofInt 4 = (4 : Int32) := by decide +kernel
theorem kb_32 : (Int8.ofInt 32).toInt32 = (32 : Int32) := by decide +kernel
theorem kb_59 : (Int8.ofInt 59).toInt32 = (59 : Int32) := by decide +kernel
theorem ki_3 : Int32.ofInt 3 = (3 : Int32) := by decide +kernel
theorem ki_5 : Int32.ofInt 5 = (5 : Int32) := by decide +kernel
theorem kb_9 : (Int8.ofInt 9).toInt32 = (9 : Int32) := by decide +kernel
theorem kb_11 : (Int8.ofInt 11).toInt32 = (11 : Int32) := by decide +kernel
theorem ks_150 : (Int16.ofInt 150).toInt32 = (150 : Int32) := by decide +kernel
theorem kb_m2 : (Int8.ofInt (-2)).toInt32 = (-2 : Int32) := by decide +kernel
theorem ks_4096 : (Int16.ofInt 4096).toInt32 = (4096 : Int32) := by decide +kernel
theorem kb_m3 : (Int8.ofInt (-3)).toInt32 = (-3 : Int32) := by decide +kernel
theorem kb_m4 : (Int8.ofInt (-4)).toInt32 = (-4 : Int32) := by decide +kernel
theorem kb_127 : (Int8.ofInt 127).toInt32 = (127 : Int32) := by decide +kernel
theorem kb_m10 : (Int8.ofInt (-10)).toInt32 = (-10 : Int32) := by decide +kernel
theorem kb_16 : (Int8.ofInt 16).toInt32 = (16 : Int32) := by decide +kernel
theorem kb_63 : (Int8.ofInt 63).toInt32 = (63 : Int32) := by decide +kernel
theorem kb_m5 : (Int8.ofInt (-5)).toInt32 = (-5 : Int32) := by decide +kernel
theorem ks_720 : (Int16.ofInt 720).toInt32 = (720 : Int32) := by decide +kernel
theorem ks_128 : (Int16.ofInt 128).toInt32 = (128 : Int32) := by decide +kernel
theorem kl_0 : Int64.ofNat ((0 : Fin 2) : Nat) = (0 : Int64) := by decide +kernel
theorem kl_1 : Int64.ofNat ((1 : Fin 2) : Nat) = (1 : Int64) := by decide +kernel
theorem kb_20 : (Int8.ofInt 20).toInt32 = (20 : Int32) := by decide +kernel
theorem kb_124 : (Int8.ofInt 124).toInt32 = (124 : Int32) := by decide +kernel
theorem vi_124_126 : vp_in 124 126 := by unfold vp_in; decide
theorem tn_124 : (124 : Int32).toNatClampNeg = 124 := by decide
theorem kb_126 : (Int8.ofInt 126).toInt32 = (126 : Int32) := by decide +kernel
theorem ks_882 : (Int16.ofInt 882).toInt32 = (882 : Int32) := by decide +kernel
theorem kb_125 : (Int8.ofInt 125).toInt32 = (125 : Int32) := by decide +kernel
theorem vi_125_126 : vp_in 125 126 := by unfold vp_in; decide
theorem tn_125 : (125 : Int32).toNatClampNeg = 125 := by decide
theorem kb_84 : (Int8.ofInt 84).toInt32 = (84 : Int32) := by decide +kernel
theorem kb_99 : (Int8.ofInt 99).toInt32 = (99 : Int32) := by decide +kernel
theorem kb_112 : (Int8.ofInt 112).toInt32 = (112 : Int32) := by decide +kernel
theorem kb_100 : (Int8.ofInt 100).toInt32 = (100 : Int32) := by decide +kernel
theorem kb_114 : (Int8.ofInt 114).toInt32 = (114 : Int32) := by decide +kernel
theorem kb_98 : (Int8.ofInt 98).toInt32 = (98 : Int32) := by decide +kernel
theorem kb_111 : (Int8.ofInt 111).toInt32 = (111 : Int32) := by decide +kernel
theorem kb_110 : (Int8.ofInt 110).toInt32 = (110 : Int32) := by decide +kernel
theorem kb_116 : (Int8.ofInt 116).toInt32 = (116 : Int32) := by decide +kernel
theorem kb_101 : (Int8.ofInt 101).toInt32 = (101 : Int32) := by decide +kernel
theorem kb_53 : (Int8.ofInt 53).toInt32 = (53 : Int32) := by decide +kernel
theorem ks_1154 : (Int16.ofInt 1154).toInt32 = (1154 : Int32) := by decide +kernel
theorem ks_1008 : (Int16.ofInt 1008).toInt32 = (1008 : Int32) := by decide +kernel
theorem ks_1134 : (Int16.ofInt 1134).toInt32 = (1134 : Int32) := by decide +kernel
theorem ks_1142 : (Int16.ofInt 1142).toInt32 = (1142 : Int32) := by decide +kernel
theorem ks_1143 : (Int16.ofInt 1143).toInt32 = (1143 : Int32) := by decide +kernel
theorem ks_1144 : (Int16.ofInt 1144).toInt32 = (1144 : Int32) := by decide +kernel
theorem ks_1145 : (Int16.ofInt 1145).toInt32 = (1145 : Int32) := by decide +kernel
theorem wcX5_forceOf : Cond.code yX5_forceOf cX5_forceOf 5 (some .int) ∈ gG := gG_in (tin2 (List.mem_of_getElem? (i := 82) rfl)) rfl
theorem wiX5 : Cond.initialized RX5 ∈ gG := gG_in (tin1 (List.mem_of_getElem? (i := 2) rfl)) rfl
theorem wnX5_forceOf : Cond.instanceMethod yX5_forceOf ∈ gG := gG_in (tin2 (List.mem_of_getElem? (i := 80) rfl)) rfl
theorem wsX5_forceOf : Cond.selects RX5 yX5_forceOf yX5_forceOf ∈ gG := gG_in (tin2 (List.mem_of_getElem? (i := 81) rfl)) rfl
theorem wcX5_hasInk : Cond.code yX5_hasInk cX5_hasInk 3 (some .boolean) ∈ gG := gG_in (tin2 (List.mem_of_getElem? (i := 114) rfl)) rfl
theorem wnX5_hasInk : Cond.instanceMethod yX5_hasInk ∈ gG := gG_in (tin2 (List.mem_of_getElem? (i := 112) rfl)) rfl
theorem wsX5_hasInk : Cond.selects RX5 yX5_hasInk yX5_hasInk ∈ gG := gG_in (tin2 (List.mem_of_getElem? (i := 113) rfl)) rfl
theorem wcX4_placeOf : Cond.code yX4_placeOf cX4_placeOf 2 (some .int) ∈ gG := gG_in (tin2 (List.mem_of_getElem? (i := 129) rfl)) rfl
theorem wiX4 : Cond.initialized RX4 ∈ gG := gG_in (tin1 (List.mem_of_getElem? (i := 9) rfl)) rfl
theorem wtX4_placeOf : Cond.static yX4_placeOf ∈ gG := gG_in (tin2 (List.mem_of_getElem? (i := 128) rfl)) rfl
theorem wfX4_11 : Cond.fieldLink RX4 11 (TX4 0).1 (TX4 0).2.1 (TX4 0).2.2.1 ∈ gG := gG_in (tin1 (List.mem_of_getElem? (i := 87) rfl)) rfl
theorem wmX4_55 : Cond.methodLink RX4 55 yX4_placeOf ∈ gG := gG_in (tin2 (List.mem_of_getElem? (i := 127) rfl)) rfl
theorem wcX4_dentOf : Cond.code yX4_dentOf cX4_dentOf 3 (some .int) ∈ gG := gG_in (tin3 (List.mem_of_getElem? (i := 90) rfl)) rfl
theorem wnX4_dentOf : Cond.instanceMethod yX4_dentOf ∈ gG := gG_in (tin3 (List.mem_of_getElem? (i := 88) rfl)) rfl
theorem wsX4_dentOf : Cond.selects RX4 yX4_dentOf yX4_dentOf ∈ gG := gG_in (tin3 (List.mem_of_getElem? (i := 89) rfl)) rfl
theorem wcX4_noteCount : Cond.code yX4_noteCount cX4_noteCount 1 (some .int) ∈ gG := gG_in (tin2 (List.mem_of_getElem? (i := 63) rfl)) rfl
theorem wnX4_noteCount : Cond.instanceMethod yX4_noteCount ∈ gG := gG_in (tin2 (List.mem_of_getElem? (i := 61) rfl)) rfl
theorem wsX4_noteCount : Cond.selects RX4 yX4_noteCount yX4_noteCount ∈ gG := gG_in (tin2 (List.mem_of_getElem? (i := 62) rfl)) rfl
theorem wfX4_40 : Cond.fieldLink RX4 40 (TX4 9).1 (TX4 9).2.1 (TX4 9).2.2.1 ∈ gG := gG_in (tin1 (List.mem_of_getElem? (i := 109) rfl)) rfl
theorem wcX4_forceDown : Cond.code yX4_forceDown cX4_forceDown 3 (some .int) ∈ gG := gG_in (tin2 (List.mem_of_getElem? (i := 137) rfl)) rfl
theorem wnX4_forceDown : Cond.instanceMethod yX4_forceDown ∈ gG := gG_in (tin2 (List.mem_of_getElem? (i := 135) rfl)) rfl
theorem wsX4_forceDown : Cond.selects RX4 yX4_forceDown yX4_forceDown ∈ gG := gG_in (tin2 (List.mem_of_getElem? (i := 136) rfl)) rfl
theorem wfX4_37 : Cond.fieldLink RX4 37 (TX4 8).1 (TX4 8).2.1 (TX4 8).2.2.1 ∈ gG := gG_in (tin1 (List.mem_of_getElem? (i := 106) rfl)) rfl
theorem wmX4_80 : Cond.methodLink RX4 80 yX4_forceDown ∈ gG := gG_in (tin2 (List.mem_of_getElem? (i := 134) rfl)) rfl
theorem wcX4_forceOn : Cond.code yX4_forceOn cX4_forceOn 3 (some .int) ∈ gG := gG_in (tin2 (List.mem_of_getElem? (i := 133) rfl)) rfl
theorem wnX4_forceOn : Cond.instanceMethod yX4_forceOn ∈ gG := gG_in (tin2 (List.mem_of_getElem? (i := 131) rfl)) rfl
theorem wsX4_forceOn : Cond.selects RX4 yX4_forceOn yX4_forceOn ∈ gG := gG_in (tin2 (List.mem_of_getElem? (i := 132) rfl)) rfl
theorem wcX11_dentInto : Cond.code yX11_dentInto cX11_dentInto 6 none ∈ gG := gG_in (tin2 (List.mem_of_getElem? (i := 144) rfl)) rfl
theorem wiX11 : Cond.initialized RX11 ∈ gG := gG_in (tin1 (List.mem_of_getElem? (i := 1) rfl)) rfl
theorem wtX11_dentInto : Cond.static yX11_dentInto ∈ gG := gG_in (tin2 (List.mem_of_getElem? (i := 143) rfl)) rfl
theorem wfX2_9 : Cond.fieldLink RX2 9 (TX2 0).1 (TX2 0).2.1 (TX2 0).2.2.1 ∈ gG := gG_in (tin1 (List.mem_of_getElem? (i := 146) rfl)) rfl
theorem wmX2_25 : Cond.methodLink RX2 25 yX4_dentOf ∈ gG := gG_in (tin3 (List.mem_of_getElem? (i := 147) rfl)) rfl
theorem wfX2_15 : Cond.fieldLink RX2 15 (TX2 1).1 (TX2 1).2.1 (TX2 1).2.2.1 ∈ gG := gG_in (tin1 (List.mem_of_getElem? (i := 147) rfl)) rfl
theorem wmX2_31 : Cond.methodLink RX2 31 yX4_noteCount ∈ gG := gG_in (tin3 (List.mem_of_getElem? (i := 148) rfl)) rfl
theorem wfX2_35 : Cond.fieldLinkNest RX2 35 (TX4 7).1 (TX4 7).2.1 (TX4 7).2.2.1 "PressedPad" ∈ nW := nW_in (tin1 (List.mem_of_getElem? (i := 103) rfl)) rfl
theorem wmX2_38 : Cond.methodLink RX2 38 yX4_forceOn ∈ gG := gG_in (tin3 (List.mem_of_getElem? (i := 149) rfl)) rfl
theorem wmX2_41 : Cond.methodLinkNest RX2 41 yX11_dentInto "PressedPad" ∈ nW := nW_in (tin3 (List.mem_of_getElem? (i := 150) rfl)) rfl
theorem wcX2_look : Cond.code yX2_look cX2_look 5 none ∈ gG := gG_in (tin3 (List.mem_of_getElem? (i := 146) rfl)) rfl
theorem wiX2 : Cond.initialized RX2 ∈ gG := gG_in (tin1 (List.mem_of_getElem? (i := 10) rfl)) rfl
theorem wnX2_look : Cond.instanceMethod yX2_look ∈ gG := gG_in (tin3 (List.mem_of_getElem? (i := 144) rfl)) rfl
theorem wsX2_look : Cond.selects RX2 yX2_look yX2_look ∈ gG := gG_in (tin3 (List.mem_of_getElem? (i := 145) rfl)) rfl
theorem wfX2_18 : Cond.fieldLink RX2 18 (TX2 2).1 (TX2 2).2.1 (TX2 2).2.2.1 ∈ gG := gG_in (tin1 (List.mem_of_getElem? (i := 148) rfl)) rfl
theorem wfX2_22 : Cond.fieldLink RX2 22 (TX2 3).1 (TX2 3).2.1 (TX2 3).2.2.1 ∈ gG := gG_in (tin1 (List.mem_of_getElem? (i := 150) rfl)) rfl
theorem wcX2_guess : Cond.code yX2_guess cX2_guess 4 (some .boolean) ∈ gG := gG_in (tin3 (List.mem_of_getElem? (i := 154) rfl)) rfl
theorem wnX2_guess : Cond.instanceMethod yX2_guess ∈ gG := gG_in (tin3 (List.mem_of_getElem? (i := 152) rfl)) rfl
theorem wsX2_guess : Cond.selects RX2 yX2_guess yX2_guess ∈ gG := gG_in (tin3 (List.mem_of_getElem? (i := 153) rfl)) rfl
theorem wcX2_isFit : Cond.code yX2_isFit cX2_isFit 2 (some .boolean) ∈ gG := gG_in (tin3 (List.mem_of_getElem? (i := 168) rfl)) rfl
theorem wnX2_isFit : Cond.instanceMethod yX2_isFit ∈ gG := gG_in (tin3 (List.mem_of_getElem? (i := 166) rfl)) rfl
theorem wsX2_isFit : Cond.selects RX2 yX2_isFit yX2_isFit ∈ gG := gG_in (tin3 (List.mem_of_getElem? (i := 167) rfl)) rfl
theorem wfX4_22 : Cond.fieldLink RX4 22 (TX4 3).1 (TX4 3).2.1 (TX4 3).2.2.1 ∈ gG := gG_in (tin1 (List.mem_of_getElem? (i := 91) rfl)) rfl
theorem wfX4_25 : Cond.fieldLink RX4 25 (TX4 4).1 (TX4 4).2.1 (TX4 4).2.2.1 ∈ gG := gG_in (tin1 (List.mem_of_getElem? (i := 95) rfl)) rfl
theorem wfX4_18 : Cond.fieldLink RX4 18 (TX4 2).1 (TX4 2).2.1 (TX4 2).2.2.1 ∈ gG := gG_in (tin1 (List.mem_of_getElem? (i := 89) rfl)) rfl
theorem wfX4_46 : Cond.fieldLink RX4 46 (TX4 11).1 (TX4 11).2.1 (TX4 11).2.2.1 ∈ gG := gG_in (tin1 (List.mem_of_getElem? (i := 112) rfl)) rfl
theorem wcX4_beginAnew : Cond.code yX4_beginAnew cX4_beginAnew 3 none ∈ gG := gG_in (tin2 (List.mem_of_getElem? (i := 33) rfl)) rfl
theorem wnX4_beginAnew : Cond.instanceMethod yX4_beginAnew ∈ gG := gG_in (tin2 (List.mem_of_getElem? (i := 31) rfl)) rfl
theorem wsX4_beginAnew : Cond.selects RX4 yX4_beginAnew yX4_beginAnew ∈ gG := gG_in (tin2 (List.mem_of_getElem? (i := 32) rfl)) rfl
theorem wmX4_49 : Cond.methodLink RX4 49 arraycopyName ∈ gG := gG_in (tin2 (List.mem_of_getElem? (i := 72) rfl)) rfl
theorem wnat : Cond.native arraycopyName ∈ gG := gG_in (tin2 (List.mem_of_getElem? (i := 74) rfl)) rfl
theorem wsta : Cond.static arraycopyName ∈ gG := gG_in (tin2 (List.mem_of_getElem? (i := 73) rfl)) rfl
theorem wsys : Cond.initialized "java/lang/System" ∈ gG := gG_in (tin1 (List.mem_of_getElem? (i := 14) rfl)) rfl
theorem wfX4_15 : Cond.fieldLink RX4 15 (TX4 1).1 (TX4 1).2.1 (TX4 1).2.2.1 ∈ gG := gG_in (tin1 (List.mem_of_getElem? (i := 88) rfl)) rfl
theorem wfX4_28 : Cond.fieldLink RX4 28 (TX4 5).1 (TX4 5).2.1 (TX4 5).2.2.1 ∈ gG := gG_in (tin1 (List.mem_of_getElem? (i := 98) rfl)) rfl
theorem wfX4_31 : Cond.fieldLink RX4 31 (TX4 6).1 (TX4 6).2.1 (TX4 6).2.2.1 ∈ gG := gG_in (tin1 (List.mem_of_getElem? (i := 100) rfl)) rfl
theorem wfX4_34 : Cond.fieldLink RX4 34 (TX4 7).1 (TX4 7).2.1 (TX4 7).2.2.1 ∈ gG := gG_in (tin1 (List.mem_of_getElem? (i := 102) rfl)) rfl
theorem wfX4_43 : Cond.fieldLink RX4 43 (TX4 10).1 (TX4 10).2.1 (TX4 10).2.2.1 ∈ gG := gG_in (tin1 (List.mem_of_getElem? (i := 110) rfl)) rfl
theorem wcX4_copyFrom : Cond.code yX4_copyFrom cX4_copyFrom 2 none ∈ gG := gG_in (tin3 (List.mem_of_getElem? (i := 57) rfl)) rfl
theorem wnX4_copyFrom : Cond.instanceMethod yX4_copyFrom ∈ gG := gG_in (tin3 (List.mem_of_getElem? (i := 55) rfl)) rfl
theorem wsX4_copyFrom : Cond.selects RX4 yX4_copyFrom yX4_copyFrom ∈ gG := gG_in (tin3 (List.mem_of_getElem? (i := 56) rfl)) rfl
theorem wcX4_keepForUndo : Cond.code yX4_keepForUndo cX4_keepForUndo 1 none ∈ gG := gG_in (tin2 (List.mem_of_getElem? (i := 71) rfl)) rfl
theorem wnX4_keepForUndo : Cond.instanceMethod yX4_keepForUndo ∈ gG := gG_in (tin2 (List.mem_of_getElem? (i := 69) rfl)) rfl
theorem wsX4_keepForUndo : Cond.selects RX4 yX4_keepForUndo yX4_keepForUndo ∈ gG := gG_in (tin2 (List.mem_of_getElem? (i := 70) rfl)) rfl
theorem wcX4_goBack : Cond.code yX4_goBack cX4_goBack 1 none ∈ gG := gG_in (tin2 (List.mem_of_getElem? (i := 160) rfl)) rfl
theorem wnX4_goBack : Cond.instanceMethod yX4_goBack ∈ gG := gG_in (tin2 (List.mem_of_getElem? (i := 158) rfl)) rfl
theorem wsX4_goBack : Cond.selects RX4 yX4_goBack yX4_goBack ∈ gG := gG_in (tin2 (List.mem_of_getElem? (i := 159) rfl)) rfl
theorem wcX4_top : Cond.code yX4_top cX4_top 1 (some .int) ∈ gG := gG_in (tin3 (List.mem_of_getElem? (i := 78) rfl)) rfl
theorem wnX4_top : Cond.instanceMethod yX4_top ∈ gG := gG_in (tin3 (List.mem_of_getElem? (i := 76) rfl)) rfl
theorem wsX4_top : Cond.selects RX4 yX4_top yX4_top ∈ gG := gG_in (tin3 (List.mem_of_getElem? (i := 77) rfl)) rfl
theorem wcX4_isUsedUp : Cond.code yX4_isUsedUp cX4_isUsedUp 1 (some .boolean) ∈ gG := gG_in (tin2 (List.mem_of_getElem? (i := 55) rfl)) rfl
theorem wnX4_isUsedUp : Cond.instanceMethod yX4_isUsedUp ∈ gG := gG_in (tin2 (List.mem_of_getElem? (i := 53) rfl)) rfl
theorem wsX4_isUsedUp : Cond.selects RX4 yX4_isUsedUp yX4_isUsedUp ∈ gG := gG_in (tin2 (List.mem_of_getElem? (i := 54) rfl)) rfl
theorem wcX4_hasSheet : Cond.code yX4_hasSheet cX4_hasSheet 2 (some .boolean) ∈ gG := gG_in (tin3 (List.mem_of_getElem? (i := 66) rfl)) rfl
theorem wnX4_hasSheet : Cond.instanceMethod yX4_hasSheet ∈ gG := gG_in (tin3 (List.mem_of_getElem? (i := 64) rfl)) rfl
theorem wsX4_hasSheet : Cond.selects RX4 yX4_hasSheet yX4_hasSheet ∈ gG := gG_in (tin3 (List.mem_of_getElem? (i := 65) rfl)) rfl
theorem wcX4_hasSheets : Cond.code yX4_hasSheets cX4_hasSheets 2 (some .boolean) ∈ gG := gG_in (tin2 (List.mem_of_getElem? (i := 41) rfl)) rfl
theorem wnX4_hasSheets : Cond.instanceMethod yX4_hasSheets ∈ gG := gG_in (tin2 (List.mem_of_getElem? (i := 39) rfl)) rfl
theorem wsX4_hasSheets : Cond.selects RX4 yX4_hasSheets yX4_hasSheets ∈ gG := gG_in (tin2 (List.mem_of_getElem? (i := 40) rfl)) rfl
theorem wcX4_hasNote : Cond.code yX4_hasNote cX4_hasNote 2 (some .boolean) ∈ gG := gG_in (tin3 (List.mem_of_getElem? (i := 98) rfl)) rfl
theorem wnX4_hasNote : Cond.instanceMethod yX4_hasNote ∈ gG := gG_in (tin3 (List.mem_of_getElem? (i := 96) rfl)) rfl
theorem wsX4_hasNote : Cond.selects RX4 yX4_hasNote yX4_hasNote ∈ gG := gG_in (tin3 (List.mem_of_getElem? (i := 97) rfl)) rfl
theorem wcX4_hasNotes : Cond.code yX4_hasNotes cX4_hasNotes 2 (some .boolean) ∈ gG := gG_in (tin3 (List.mem_of_getElem? (i := 142) rfl)) rfl
theorem wnX4_hasNotes : Cond.instanceMethod yX4_hasNotes ∈ gG := gG_in (tin3 (List.mem_of_getElem? (i := 140) rfl)) rfl
theorem wsX4_hasNotes : Cond.selects RX4 yX4_hasNotes yX4_hasNotes ∈ gG := gG_in (tin3 (List.mem_of_getElem? (i := 141) rfl)) rfl
theorem wcX4_inkOf : Cond.code yX4_inkOf cX4_inkOf 2 (some .int) ∈ gG := gG_in (tin3 (List.mem_of_getElem? (i := 70) rfl)) rfl
theorem wnX4_inkOf : Cond.instanceMethod yX4_inkOf ∈ gG := gG_in (tin3 (List.mem_of_getElem? (i := 68) rfl)) rfl
theorem wsX4_inkOf : Cond.selects RX4 yX4_inkOf yX4_inkOf ∈ gG := gG_in (tin3 (List.mem_of_getElem? (i := 69) rfl)) rfl
theorem wcX4_copyOf : Cond.code yX4_copyOf cX4_copyOf 2 (some .int) ∈ gG := gG_in (tin3 (List.mem_of_getElem? (i := 74) rfl)) rfl
theorem wnX4_copyOf : Cond.instanceMethod yX4_copyOf ∈ gG := gG_in (tin3 (List.mem_of_getElem? (i := 72) rfl)) rfl
theorem wsX4_copyOf : Cond.selects RX4 yX4_copyOf yX4_copyOf ∈ gG := gG_in (tin3 (List.mem_of_getElem? (i := 73) rfl)) rfl
theorem wcX4_tearTop : Cond.code yX4_tearTop cX4_tearTop 1 (some .int) ∈ gG := gG_in (tin2 (List.mem_of_getElem? (i := 152) rfl)) rfl
theorem wnX4_tearTop : Cond.instanceMethod yX4_tearTop ∈ gG := gG_in (tin2 (List.mem_of_getElem? (i := 150) rfl)) rfl
theorem wsX4_tearTop : Cond.selects RX4 yX4_tearTop yX4_tearTop ∈ gG := gG_in (tin2 (List.mem_of_getElem? (i := 151) rfl)) rfl
theorem wmX4_76 : Cond.methodLinkNest RX4 76 yX11_dentInto "PressedPad" ∈ nW := nW_in (tin2 (List.mem_of_getElem? (i := 142) rfl)) rfl
theorem wcX4_pressInto : Cond.code yX4_pressInto cX4_pressInto 5 none ∈ gG := gG_in (tin2 (List.mem_of_getElem? (i := 141) rfl)) rfl
theorem wnX4_pressInto : Cond.instanceMethod yX4_pressInto ∈ gG := gG_in (tin2 (List.mem_of_getElem? (i := 140) rfl)) rfl
theorem wsX4_pressInto : Cond.selects RX4 yX4_pressInto yX4_pressInto ∈ gG := gG_in (tinp (List.mem_of_getElem? (i := 4) rfl)) rfl
theorem wmX4_59 : Cond.methodLink RX4 59 yX5_forceOf ∈ gG := gG_in (tin2 (List.mem_of_getElem? (i := 79) rfl)) rfl
theorem wmX4_65 : Cond.methodLink RX4 65 yX5_hasInk ∈ gG := gG_in (tin2 (List.mem_of_getElem? (i := 111) rfl)) rfl
theorem wmX4_69 : Cond.methodLink RX4 69 yX4_forceOn ∈ gG := gG_in (tin2 (List.mem_of_getElem? (i := 130) rfl)) rfl
theorem wmX4_72 : Cond.methodLink RX4 72 yX4_pressInto ∈ gG := gG_in (tin2 (List.mem_of_getElem? (i := 138) rfl)) rfl
theorem wcX4_putNote : Cond.code yX4_putNote cX4_putNote 8 (some .int) ∈ gG := gG_in (tin2 (List.mem_of_getElem? (i := 78) rfl)) rfl
theorem wnX4_putNote : Cond.instanceMethod yX4_putNote ∈ gG := gG_in (tin2 (List.mem_of_getElem? (i := 76) rfl)) rfl
theorem wsX4_putNote : Cond.selects RX4 yX4_putNote yX4_putNote ∈ gG := gG_in (tin2 (List.mem_of_getElem? (i := 77) rfl)) rfl
theorem wcX4_writtenOn : Cond.code yX4_writtenOn cX4_writtenOn 4 (some .int) ∈ gG := gG_in (tin3 (List.mem_of_getElem? (i := 82) rfl)) rfl
theorem wnX4_writtenOn : Cond.instanceMethod yX4_writtenOn ∈ gG := gG_in (tin3 (List.mem_of_getElem? (i := 80) rfl)) rfl
theorem wsX4_writtenOn : Cond.selects RX4 yX4_writtenOn yX4_writtenOn ∈ gG := gG_in (tin3 (List.mem_of_getElem? (i := 81) rfl)) rfl
theorem wcX4_cellsDented : Cond.code yX4_cellsDented cX4_cellsDented 3 (some .int) ∈ gG := gG_in (tin3 (List.mem_of_getElem? (i := 120) rfl)) rfl
theorem wnX4_cellsDented : Cond.instanceMethod yX4_cellsDented ∈ gG := gG_in (tin3 (List.mem_of_getElem? (i := 118) rfl)) rfl
theorem wsX4_cellsDented : Cond.selects RX4 yX4_cellsDented yX4_cellsDented ∈ gG := gG_in (tin3 (List.mem_of_getElem? (i := 119) rfl)) rfl
theorem wmX4_83 : Cond.methodLink RX4 83 yX4_cellsDented ∈ gG := gG_in (tin3 (List.mem_of_getElem? (i := 117) rfl)) rfl
theorem wcX4_dentedBy : Cond.code yX4_dentedBy cX4_dentedBy 4 (some .int) ∈ gG := gG_in (tin3 (List.mem_of_getElem? (i := 116) rfl)) rfl
theorem wnX4_dentedBy : Cond.instanceMethod yX4_dentedBy ∈ gG := gG_in (tin3 (List.mem_of_getElem? (i := 114) rfl)) rfl
theorem wsX4_dentedBy : Cond.selects RX4 yX4_dentedBy yX4_dentedBy ∈ gG := gG_in (tin3 (List.mem_of_getElem? (i := 115) rfl)) rfl
theorem wmX4_86 : Cond.methodLink RX4 86 yX4_dentOf ∈ gG := gG_in (tin3 (List.mem_of_getElem? (i := 134) rfl)) rfl
theorem wcX4_dentedAtLeast : Cond.code yX4_dentedAtLeast cX4_dentedAtLeast 5 (some .int) ∈ gG := gG_in (tin3 (List.mem_of_getElem? (i := 133) rfl)) rfl
theorem wnX4_dentedAtLeast : Cond.instanceMethod yX4_dentedAtLeast ∈ gG := gG_in (tin3 (List.mem_of_getElem? (i := 131) rfl)) rfl
theorem wsX4_dentedAtLeast : Cond.selects RX4 yX4_dentedAtLeast yX4_dentedAtLeast ∈ gG := gG_in (tin3 (List.mem_of_getElem? (i := 132) rfl)) rfl
theorem wlX4_89 : Cond.constantLong RX4 89 31 ∈ gG := gG_in (tin4 (List.mem_of_getElem? (i := 35) rfl)) rfl
theorem wcX4_digestFrom : Cond.code yX4_digestFrom cX4_digestFrom 7 (some .long) ∈ gG := gG_in (tin4 (List.mem_of_getElem? (i := 34) rfl)) rfl
theorem wnX4_digestFrom : Cond.instanceMethod yX4_digestFrom ∈ gG := gG_in (tin4 (List.mem_of_getElem? (i := 32) rfl)) rfl
theorem wsX4_digestFrom : Cond.selects RX4 yX4_digestFrom yX4_digestFrom ∈ gG := gG_in (tin4 (List.mem_of_getElem? (i := 33) rfl)) rfl
theorem wfX7_25 : Cond.fieldLink RX7 25 (TX7 4).1 (TX7 4).2.1 (TX7 4).2.2.1 ∈ gG := gG_in (tin1 (List.mem_of_getElem? (i := 195) rfl)) rfl
theorem wcX7_fault : Cond.code yX7_fault cX7_fault 1 (some .int) ∈ gG := gG_in (tin3 (List.mem_of_getElem? (i := 53) rfl)) rfl
theorem wiX7 : Cond.initialized RX7 ∈ gG := gG_in (tin1 (List.mem_of_getElem? (i := 12) rfl)) rfl
theorem wnX7_fault : Cond.instanceMethod yX7_fault ∈ gG := gG_in (tin3 (List.mem_of_getElem? (i := 51) rfl)) rfl
theorem wsX7_fault : Cond.selects RX7 yX7_fault yX7_fault ∈ gG := gG_in (tin3 (List.mem_of_getElem? (i := 52) rfl)) rfl
theorem wfX7_15 : Cond.fieldLink RX7 15 (TX7 1).1 (TX7 1).2.1 (TX7 1).2.2.1 ∈ gG := gG_in (tin1 (List.mem_of_getElem? (i := 191) rfl)) rfl
theorem wfX7_9 : Cond.fieldLink RX7 9 (TX7 0).1 (TX7 0).2.1 (TX7 0).2.2.1 ∈ gG := gG_in (tin1 (List.mem_of_getElem? (i := 189) rfl)) rfl
theorem wcX7_isWithin : Cond.code yX7_isWithin cX7_isWithin 4 (some .boolean) ∈ gG := gG_in (tin2 (List.mem_of_getElem? (i := 192) rfl)) rfl
theorem wnX7_isWithin : Cond.instanceMethod yX7_isWithin ∈ gG := gG_in (tin2 (List.mem_of_getElem? (i := 191) rfl)) rfl
theorem wsX7_isWithin : Cond.selects RX7 yX7_isWithin yX7_isWithin ∈ gG := gG_in (tinp (List.mem_of_getElem? (i := 6) rfl)) rfl
theorem wfX7_22 : Cond.fieldLink RX7 22 (TX7 3).1 (TX7 3).2.1 (TX7 3).2.2.1 ∈ gG := gG_in (tin1 (List.mem_of_getElem? (i := 194) rfl)) rfl
theorem wfX7_19 : Cond.fieldLink RX7 19 (TX7 2).1 (TX7 2).2.1 (TX7 2).2.2.1 ∈ gG := gG_in (tin1 (List.mem_of_getElem? (i := 193) rfl)) rfl
theorem wmX7_111 : Cond.methodLink RX7 111 yX7_isWithin ∈ gG := gG_in (tin2 (List.mem_of_getElem? (i := 189) rfl)) rfl
theorem wcX7_passWord : Cond.code yX7_passWord cX7_passWord 1 none ∈ gG := gG_in (tin2 (List.mem_of_getElem? (i := 196) rfl)) rfl
theorem wnX7_passWord : Cond.instanceMethod yX7_passWord ∈ gG := gG_in (tin2 (List.mem_of_getElem? (i := 195) rfl)) rfl
theorem wsX7_passWord : Cond.selects RX7 yX7_passWord yX7_passWord ∈ gG := gG_in (tinp (List.mem_of_getElem? (i := 7) rfl)) rfl
theorem wfX7_28 : Cond.fieldLink RX7 28 (TX7 5).1 (TX7 5).2.1 (TX7 5).2.2.1 ∈ gG := gG_in (tin1 (List.mem_of_getElem? (i := 196) rfl)) rfl
theorem wcX7_passFigures : Cond.code yX7_passFigures cX7_passFigures 1 none ∈ gG := gG_in (tin2 (List.mem_of_getElem? (i := 200) rfl)) rfl
theorem wnX7_passFigures : Cond.instanceMethod yX7_passFigures ∈ gG := gG_in (tin2 (List.mem_of_getElem? (i := 199) rfl)) rfl
theorem wsX7_passFigures : Cond.selects RX7 yX7_passFigures yX7_passFigures ∈ gG := gG_in (tinp (List.mem_of_getElem? (i := 8) rfl)) rfl
theorem wmX7_118 : Cond.methodLink RX7 118 yX7_passFigures ∈ gG := gG_in (tin2 (List.mem_of_getElem? (i := 197) rfl)) rfl
theorem wmX7_115 : Cond.methodLink RX7 115 yX7_passWord ∈ gG := gG_in (tin2 (List.mem_of_getElem? (i := 193) rfl)) rfl
theorem wcX7_step : Cond.code yX7_step cX7_step 1 none ∈ gG := gG_in (tin2 (List.mem_of_getElem? (i := 188) rfl)) rfl
theorem wnX7_step : Cond.instanceMethod yX7_step ∈ gG := gG_in (tin2 (List.mem_of_getElem? (i := 187) rfl)) rfl
theorem wsX7_step : Cond.selects RX7 yX7_step yX7_step ∈ gG := gG_in (tinp (List.mem_of_getElem? (i := 5) rfl)) rfl
theorem wmX7_103 : Cond.methodLink RX7 103 yJ0_length_8abf5 ∈ gG := gG_in (tin2 (List.mem_of_getElem? (i := 210) rfl)) rfl
theorem wmX7_107 : Cond.methodLink RX7 107 yJ0_charAt_5068e ∈ gG := gG_in (tin2 (List.mem_of_getElem? (i := 220) rfl)) rfl
theorem wcX7_isWord : Cond.code yX7_isWord cX7_isWord 3 (some .boolean) ∈ gG := gG_in (tin2 (List.mem_of_getElem? (i := 209) rfl)) rfl
theorem wnX7_isWord : Cond.instanceMethod yX7_isWord ∈ gG := gG_in (tin2 (List.mem_of_getElem? (i := 208) rfl)) rfl
theorem wsX7_isWord : Cond.selects RX7 yX7_isWord yX7_isWord ∈ gG := gG_in (tinp (List.mem_of_getElem? (i := 10) rfl)) rfl
theorem wcX7_isNumber : Cond.code yX7_isNumber cX7_isNumber 3 (some .boolean) ∈ gG := gG_in (tin3 (List.mem_of_getElem? (i := 21) rfl)) rfl
theorem wnX7_isNumber : Cond.instanceMethod yX7_isNumber ∈ gG := gG_in (tin3 (List.mem_of_getElem? (i := 20) rfl)) rfl
theorem wsX7_isNumber : Cond.selects RX7 yX7_isNumber yX7_isNumber ∈ gG := gG_in (tinp (List.mem_of_getElem? (i := 11) rfl)) rfl
theorem wmX7_37 : Cond.methodLink RX7 37 yX7_step ∈ gG := gG_in (tin2 (List.mem_of_getElem? (i := 185) rfl)) rfl
theorem wcX7_passStop : Cond.code yX7_passStop cX7_passStop 1 (some .boolean) ∈ gG := gG_in (tin3 (List.mem_of_getElem? (i := 26) rfl)) rfl
theorem wnX7_passStop : Cond.instanceMethod yX7_passStop ∈ gG := gG_in (tin3 (List.mem_of_getElem? (i := 25) rfl)) rfl
theorem wsX7_passStop : Cond.selects RX7 yX7_passStop yX7_passStop ∈ gG := gG_in (tinp (List.mem_of_getElem? (i := 12) rfl)) rfl
theorem wmX7_50 : Cond.methodLink RX7 50 yX7_isWord ∈ gG := gG_in (tin2 (List.mem_of_getElem? (i := 206) rfl)) rfl
theorem wmX7_54 : Cond.methodLink RX7 54 yX7_isNumber ∈ gG := gG_in (tin3 (List.mem_of_getElem? (i := 18) rfl)) rfl
theorem wmX7_58 : Cond.methodLink RX7 58 yX4_beginAnew ∈ gG := gG_in (tin3 (List.mem_of_getElem? (i := 22) rfl)) rfl
theorem wmX7_64 : Cond.methodLink RX7 64 yX7_passStop ∈ gG := gG_in (tin3 (List.mem_of_getElem? (i := 23) rfl)) rfl
theorem wcX7_readFirst : Cond.code yX7_readFirst cX7_readFirst 2 (some .boolean) ∈ gG := gG_in (tin2 (List.mem_of_getElem? (i := 204) rfl)) rfl
theorem wnX7_readFirst : Cond.instanceMethod yX7_readFirst ∈ gG := gG_in (tin2 (List.mem_of_getElem? (i := 203) rfl)) rfl
theorem wsX7_readFirst : Cond.selects RX7 yX7_readFirst yX7_readFirst ∈ gG := gG_in (tinp (List.mem_of_getElem? (i := 9) rfl)) rfl
theorem wfX7_97 : Cond.fieldLinkNest RX7 97 (TX4 3).1 (TX4 3).2.1 (TX4 3).2.2.1 "PressedPad" ∈ nW := nW_in (tin1 (List.mem_of_getElem? (i := 94) rfl)) rfl
theorem wfX7_100 : Cond.fieldLinkNest RX7 100 (TX4 4).1 (TX4 4).2.1 (TX4 4).2.2.1 "PressedPad" ∈ nW := nW_in (tin1 (List.mem_of_getElem? (i := 97) rfl)) rfl
theorem wcX7_readCarbon : Cond.code yX7_readCarbon cX7_readCarbon 2 (some .boolean) ∈ gG := gG_in (tin3 (List.mem_of_getElem? (i := 35) rfl)) rfl
theorem wnX7_readCarbon : Cond.instanceMethod yX7_readCarbon ∈ gG := gG_in (tin3 (List.mem_of_getElem? (i := 34) rfl)) rfl
theorem wsX7_readCarbon : Cond.selects RX7 yX7_readCarbon yX7_readCarbon ∈ gG := gG_in (tinp (List.mem_of_getElem? (i := 14) rfl)) rfl
theorem wfX7_31 : Cond.fieldLink RX7 31 (TX7 6).1 (TX7 6).2.1 (TX7 6).2.2.1 ∈ gG := gG_in (tin1 (List.mem_of_getElem? (i := 197) rfl)) rfl
theorem wfX7_34 : Cond.fieldLink RX7 34 (TX7 7).1 (TX7 7).2.1 (TX7 7).2.2.1 ∈ gG := gG_in (tin1 (List.mem_of_getElem? (i := 198) rfl)) rfl
theorem wcX7_readPen : Cond.code yX7_readPen cX7_readPen 1 (some .boolean) ∈ gG := gG_in (tin3 (List.mem_of_getElem? (i := 44) rfl)) rfl
theorem wnX7_readPen : Cond.instanceMethod yX7_readPen ∈ gG := gG_in (tin3 (List.mem_of_getElem? (i := 43) rfl)) rfl
theorem wsX7_readPen : Cond.selects RX7 yX7_readPen yX7_readPen ∈ gG := gG_in (tinp (List.mem_of_getElem? (i := 15) rfl)) rfl
theorem wcX7_readCells : Cond.code yX7_readCells cX7_readCells 4 (some .int) ∈ gG := gG_in (tin3 (List.mem_of_getElem? (i := 48) rfl)) rfl
theorem wnX7_readCells : Cond.instanceMethod yX7_readCells ∈ gG := gG_in (tin3 (List.mem_of_getElem? (i := 47) rfl)) rfl
theorem wsX7_readCells : Cond.selects RX7 yX7_readCells yX7_readCells ∈ gG := gG_in (tinp (List.mem_of_getElem? (i := 16) rfl)) rfl
theorem wmX7_81 : Cond.methodLink RX7 81 yX4_isUsedUp ∈ gG := gG_in (tin3 (List.mem_of_getElem? (i := 39) rfl)) rfl
theorem wmX7_87 : Cond.methodLink RX7 87 yX7_readPen ∈ gG := gG_in (tin3 (List.mem_of_getElem? (i := 41) rfl)) rfl
theorem wmX7_90 : Cond.methodLink RX7 90 yX7_readCells ∈ gG := gG_in (tin3 (List.mem_of_getElem? (i := 45) rfl)) rfl
theorem wmX7_93 : Cond.methodLink RX7 93 yX4_putNote ∈ gG := gG_in (tin3 (List.mem_of_getElem? (i := 49) rfl)) rfl
theorem wmX7_84 : Cond.methodLink RX7 84 yX4_tearTop ∈ gG := gG_in (tin3 (List.mem_of_getElem? (i := 40) rfl)) rfl
theorem wmX7_77 : Cond.methodLink RX7 77 yX4_noteCount ∈ gG := gG_in (tin3 (List.mem_of_getElem? (i := 38) rfl)) rfl
theorem wmX7_70 : Cond.methodLink RX7 70 yX7_readCarbon ∈ gG := gG_in (tin3 (List.mem_of_getElem? (i := 32) rfl)) rfl
theorem wcX7_readItem : Cond.code yX7_readItem cX7_readItem 6 (some .boolean) ∈ gG := gG_in (tin3 (List.mem_of_getElem? (i := 30) rfl)) rfl
theorem wnX7_readItem : Cond.instanceMethod yX7_readItem ∈ gG := gG_in (tin3 (List.mem_of_getElem? (i := 29) rfl)) rfl
theorem wsX7_readItem : Cond.selects RX7 yX7_readItem yX7_readItem ∈ gG := gG_in (tinp (List.mem_of_getElem? (i := 13) rfl)) rfl
theorem wmX7_40 : Cond.methodLink RX7 40 yX7_readFirst ∈ gG := gG_in (tin2 (List.mem_of_getElem? (i := 201) rfl)) rfl
theorem wmX7_44 : Cond.methodLink RX7 44 yX7_readItem ∈ gG := gG_in (tin3 (List.mem_of_getElem? (i := 27) rfl)) rfl
theorem wcX7_readInto : Cond.code yX7_readInto cX7_readInto 5 (some .int) ∈ gG := gG_in (tin2 (List.mem_of_getElem? (i := 184) rfl)) rfl
theorem wnX7_readInto : Cond.instanceMethod yX7_readInto ∈ gG := gG_in (tin2 (List.mem_of_getElem? (i := 182) rfl)) rfl
theorem wsX7_readInto : Cond.selects RX7 yX7_readInto yX7_readInto ∈ gG := gG_in (tin2 (List.mem_of_getElem? (i := 183) rfl)) rfl
theorem wfX8_9 : Cond.fieldLink RX8 9 (TX8 0).1 (TX8 0).2.1 (TX8 0).2.2.1 ∈ gG := gG_in (tin1 (List.mem_of_getElem? (i := 167) rfl)) rfl
theorem wcX8_sheetAt : Cond.code yX8_sheetAt cX8_sheetAt 2 (some .int) ∈ gG := gG_in (tin3 (List.mem_of_getElem? (i := 195) rfl)) rfl
theorem wiX8 : Cond.initialized RX8 ∈ gG := gG_in (tin1 (List.mem_of_getElem? (i := 11) rfl)) rfl
theorem wnX8_sheetAt : Cond.instanceMethod yX8_sheetAt ∈ gG := gG_in (tin3 (List.mem_of_getElem? (i := 193) rfl)) rfl
theorem wsX8_sheetAt : Cond.selects RX8 yX8_sheetAt yX8_sheetAt ∈ gG := gG_in (tin3 (List.mem_of_getElem? (i := 194) rfl)) rfl
theorem wfX8_21 : Cond.fieldLink RX8 21 (TX8 3).1 (TX8 3).2.1 (TX8 3).2.2.1 ∈ gG := gG_in (tin1 (List.mem_of_getElem? (i := 170) rfl)) rfl
theorem wmX8_45 : Cond.methodLink RX8 45 yX4_noteCount ∈ gG := gG_in (tin3 (List.mem_of_getElem? (i := 190) rfl)) rfl
theorem wfX8_49 : Cond.fieldLinkNest RX8 49 (TX4 8).1 (TX4 8).2.1 (TX4 8).2.2.1 "PressedPad" ∈ nW := nW_in (tin1 (List.mem_of_getElem? (i := 107) rfl)) rfl
theorem wfX8_15 : Cond.fieldLink RX8 15 (TX8 1).1 (TX8 1).2.1 (TX8 1).2.2.1 ∈ gG := gG_in (tin1 (List.mem_of_getElem? (i := 168) rfl)) rfl
theorem wmX8_52 : Cond.methodLink RX8 52 yX4_forceDown ∈ gG := gG_in (tin3 (List.mem_of_getElem? (i := 191) rfl)) rfl
theorem wfX8_55 : Cond.fieldLinkNest RX8 55 (TX4 7).1 (TX4 7).2.1 (TX4 7).2.2.1 "PressedPad" ∈ nW := nW_in (tin1 (List.mem_of_getElem? (i := 104) rfl)) rfl
theorem wfX8_18 : Cond.fieldLink RX8 18 (TX8 2).1 (TX8 2).2.1 (TX8 2).2.2.1 ∈ gG := gG_in (tin1 (List.mem_of_getElem? (i := 169) rfl)) rfl
theorem wcX8_mayLie : Cond.code yX8_mayLie cX8_mayLie 7 (some .boolean) ∈ gG := gG_in (tin3 (List.mem_of_getElem? (i := 189) rfl)) rfl
theorem wnX8_mayLie : Cond.instanceMethod yX8_mayLie ∈ gG := gG_in (tin3 (List.mem_of_getElem? (i := 188) rfl)) rfl
theorem wsX8_mayLie : Cond.selects RX8 yX8_mayLie yX8_mayLie ∈ gG := gG_in (tinp (List.mem_of_getElem? (i := 19) rfl)) rfl
theorem wfX8_28 : Cond.fieldLinkNest RX8 28 (TX4 3).1 (TX4 3).2.1 (TX4 3).2.2.1 "PressedPad" ∈ nW := nW_in (tin1 (List.mem_of_getElem? (i := 93) rfl)) rfl
theorem wfX8_24 : Cond.fieldLink RX8 24 (TX8 4).1 (TX8 4).2.1 (TX8 4).2.2.1 ∈ gG := gG_in (tin1 (List.mem_of_getElem? (i := 171) rfl)) rfl
theorem wmX8_41 : Cond.methodLink RX8 41 yX8_mayLie ∈ gG := gG_in (tin3 (List.mem_of_getElem? (i := 186) rfl)) rfl
theorem wmX8_37 : Cond.methodLink RX8 37 yX8_layFrom ∈ gG := gG_in (tin3 (List.mem_of_getElem? (i := 182) rfl)) rfl
theorem wcX8_layFrom : Cond.code yX8_layFrom cX8_layFrom 6 none ∈ gG := gG_in (tin3 (List.mem_of_getElem? (i := 185) rfl)) rfl
theorem wnX8_layFrom : Cond.instanceMethod yX8_layFrom ∈ gG := gG_in (tin3 (List.mem_of_getElem? (i := 184) rfl)) rfl
theorem wsX8_layFrom : Cond.selects RX8 yX8_layFrom yX8_layFrom ∈ gG := gG_in (tinp (List.mem_of_getElem? (i := 18) rfl)) rfl
theorem wmX8_33 : Cond.methodLink RX8 33 yX4_dentedAtLeast ∈ gG := gG_in (tin3 (List.mem_of_getElem? (i := 181) rfl)) rfl
theorem wcX8_search : Cond.code yX8_search cX8_search 5 (some .int) ∈ gG := gG_in (tin3 (List.mem_of_getElem? (i := 180) rfl)) rfl
theorem wnX8_search : Cond.instanceMethod yX8_search ∈ gG := gG_in (tin3 (List.mem_of_getElem? (i := 178) rfl)) rfl
theorem wsX8_search : Cond.selects RX8 yX8_search yX8_search ∈ gG := gG_in (tin3 (List.mem_of_getElem? (i := 179) rfl)) rfl
theorem wfX11_68 : Cond.fieldLink RX11 68 (TX11 12).1 (TX11 12).2.1 (TX11 12).2.2.1 ∈ gG := gG_in (tin1 (List.mem_of_getElem? (i := 228) rfl)) rfl
theorem wcX11_bad : Cond.code yX11_bad cX11_bad 2 (some .int) ∈ gG := gG_in (tin2 (List.mem_of_getElem? (i := 29) rfl)) rfl
theorem wnX11_bad : Cond.instanceMethod yX11_bad ∈ gG := gG_in (tin2 (List.mem_of_getElem? (i := 28) rfl)) rfl
theorem wsX11_bad : Cond.selects RX11 yX11_bad yX11_bad ∈ gG := gG_in (tinp (List.mem_of_getElem? (i := 0) rfl)) rfl
theorem wmX11_77 : Cond.methodLink RX11 77 yX11_bad ∈ gG := gG_in (tin2 (List.mem_of_getElem? (i := 26) rfl)) rfl
theorem wfX11_19 : Cond.fieldLink RX11 19 (TX11 1).1 (TX11 1).2.1 (TX11 1).2.2.1 ∈ gG := gG_in (tin1 (List.mem_of_getElem? (i := 217) rfl)) rfl
theorem wfX11_81 : Cond.fieldLinkNest RX11 81 (TX4 3).1 (TX4 3).2.1 (TX4 3).2.2.1 "PressedPad" ∈ nW := nW_in (tin1 (List.mem_of_getElem? (i := 92) rfl)) rfl
theorem wmX11_84 : Cond.methodLink RX11 84 yX4_beginAnew ∈ gG := gG_in (tin2 (List.mem_of_getElem? (i := 30) rfl)) rfl
theorem wcX11_pad : Cond.code yX11_pad cX11_pad 3 (some .int) ∈ gG := gG_in (tin2 (List.mem_of_getElem? (i := 25) rfl)) rfl
theorem wnX11_pad : Cond.instanceMethod yX11_pad ∈ gG := gG_in (tin2 (List.mem_of_getElem? (i := 23) rfl)) rfl
theorem wsX11_pad : Cond.selects RX11 yX11_pad yX11_pad ∈ gG := gG_in (tin2 (List.mem_of_getElem? (i := 24) rfl)) rfl
theorem wmX11_88 : Cond.methodLink RX11 88 yX4_hasSheets ∈ gG := gG_in (tin2 (List.mem_of_getElem? (i := 38) rfl)) rfl
theorem wfX11_92 : Cond.fieldLinkNest RX11 92 (TX4 4).1 (TX4 4).2.1 (TX4 4).2.2.1 "PressedPad" ∈ nW := nW_in (tin1 (List.mem_of_getElem? (i := 96) rfl)) rfl
theorem wcX11_carbons : Cond.code yX11_carbons cX11_carbons 3 (some .int) ∈ gG := gG_in (tin2 (List.mem_of_getElem? (i := 37) rfl)) rfl
theorem wnX11_carbons : Cond.instanceMethod yX11_carbons ∈ gG := gG_in (tin2 (List.mem_of_getElem? (i := 35) rfl)) rfl
theorem wsX11_carbons : Cond.selects RX11 yX11_carbons yX11_carbons ∈ gG := gG_in (tin2 (List.mem_of_getElem? (i := 36) rfl)) rfl
theorem wcX11_isPen : Cond.code yX11_isPen cX11_isPen 2 (some .boolean) ∈ gG := gG_in (tin2 (List.mem_of_getElem? (i := 48) rfl)) rfl
theorem wtX11_isPen : Cond.static yX11_isPen ∈ gG := gG_in (tin2 (List.mem_of_getElem? (i := 47) rfl)) rfl
theorem wcX11_isCells : Cond.code yX11_isCells cX11_isCells 1 (some .boolean) ∈ gG := gG_in (tin2 (List.mem_of_getElem? (i := 51) rfl)) rfl
theorem wtX11_isCells : Cond.static yX11_isCells ∈ gG := gG_in (tin2 (List.mem_of_getElem? (i := 50) rfl)) rfl
theorem wfX11_71 : Cond.fieldLink RX11 71 (TX11 13).1 (TX11 13).2.1 (TX11 13).2.2.1 ∈ gG := gG_in (tin1 (List.mem_of_getElem? (i := 229) rfl)) rfl
theorem wcX11_no : Cond.code yX11_no cX11_no 1 (some .int) ∈ gG := gG_in (tin2 (List.mem_of_getElem? (i := 59) rfl)) rfl
theorem wnX11_no : Cond.instanceMethod yX11_no ∈ gG := gG_in (tin2 (List.mem_of_getElem? (i := 58) rfl)) rfl
theorem wsX11_no : Cond.selects RX11 yX11_no yX11_no ∈ gG := gG_in (tinp (List.mem_of_getElem? (i := 1) rfl)) rfl
theorem wfX11_74 : Cond.fieldLink RX11 74 (TX11 14).1 (TX11 14).2.1 (TX11 14).2.2.1 ∈ gG := gG_in (tin1 (List.mem_of_getElem? (i := 230) rfl)) rfl
theorem wcX11_full : Cond.code yX11_full cX11_full 1 (some .int) ∈ gG := gG_in (tin2 (List.mem_of_getElem? (i := 67) rfl)) rfl
theorem wnX11_full : Cond.instanceMethod yX11_full ∈ gG := gG_in (tin2 (List.mem_of_getElem? (i := 66) rfl)) rfl
theorem wsX11_full : Cond.selects RX11 yX11_full yX11_full ∈ gG := gG_in (tinp (List.mem_of_getElem? (i := 2) rfl)) rfl
theorem wmX11_95 : Cond.methodLink RX11 95 yX11_isPen ∈ gG := gG_in (tin2 (List.mem_of_getElem? (i := 46) rfl)) rfl
theorem wmX11_99 : Cond.methodLink RX11 99 yX11_isCells ∈ gG := gG_in (tin2 (List.mem_of_getElem? (i := 49) rfl)) rfl
theorem wmX11_102 : Cond.methodLink RX11 102 yX4_isUsedUp ∈ gG := gG_in (tin2 (List.mem_of_getElem? (i := 52) rfl)) rfl
theorem wmX11_110 : Cond.methodLink RX11 110 yX4_noteCount ∈ gG := gG_in (tin2 (List.mem_of_getElem? (i := 60) rfl)) rfl
theorem wmX11_116 : Cond.methodLink RX11 116 yX4_keepForUndo ∈ gG := gG_in (tin2 (List.mem_of_getElem? (i := 68) rfl)) rfl
theorem wfX11_12 : Cond.fieldLink RX11 12 (TX11 0).1 (TX11 0).2.1 (TX11 0).2.2.1 ∈ gG := gG_in (tin1 (List.mem_of_getElem? (i := 216) rfl)) rfl
theorem wmX11_119 : Cond.methodLink RX11 119 yX4_putNote ∈ gG := gG_in (tin2 (List.mem_of_getElem? (i := 75) rfl)) rfl
theorem wmX11_113 : Cond.methodLink RX11 113 yX11_full ∈ gG := gG_in (tin2 (List.mem_of_getElem? (i := 64) rfl)) rfl
theorem wmX11_106 : Cond.methodLink RX11 106 yX11_no ∈ gG := gG_in (tin2 (List.mem_of_getElem? (i := 56) rfl)) rfl
theorem wcX11_write : Cond.code yX11_write cX11_write 4 (some .int) ∈ gG := gG_in (tin2 (List.mem_of_getElem? (i := 45) rfl)) rfl
theorem wnX11_write : Cond.instanceMethod yX11_write ∈ gG := gG_in (tin2 (List.mem_of_getElem? (i := 43) rfl)) rfl
theorem wsX11_write : Cond.selects RX11 yX11_write yX11_write ∈ gG := gG_in (tin2 (List.mem_of_getElem? (i := 44) rfl)) rfl
theorem wmX11_123 : Cond.methodLink RX11 123 yX4_tearTop ∈ gG := gG_in (tin2 (List.mem_of_getElem? (i := 149) rfl)) rfl
theorem wcX11_tear : Cond.code yX11_tear cX11_tear 1 (some .int) ∈ gG := gG_in (tin2 (List.mem_of_getElem? (i := 148) rfl)) rfl
theorem wnX11_tear : Cond.instanceMethod yX11_tear ∈ gG := gG_in (tin2 (List.mem_of_getElem? (i := 146) rfl)) rfl
theorem wsX11_tear : Cond.selects RX11 yX11_tear yX11_tear ∈ gG := gG_in (tin2 (List.mem_of_getElem? (i := 147) rfl)) rfl
theorem wfX11_126 : Cond.fieldLinkNest RX11 126 (TX4 2).1 (TX4 2).2.1 (TX4 2).2.2.1 "PressedPad" ∈ nW := nW_in (tin1 (List.mem_of_getElem? (i := 90) rfl)) rfl
theorem wmX11_129 : Cond.methodLink RX11 129 yX4_goBack ∈ gG := gG_in (tin2 (List.mem_of_getElem? (i := 157) rfl)) rfl
theorem wcX11_undo : Cond.code yX11_undo cX11_undo 1 (some .int) ∈ gG := gG_in (tin2 (List.mem_of_getElem? (i := 156) rfl)) rfl
theorem wnX11_undo : Cond.instanceMethod yX11_undo ∈ gG := gG_in (tin2 (List.mem_of_getElem? (i := 154) rfl)) rfl
theorem wsX11_undo : Cond.selects RX11 yX11_undo yX11_undo ∈ gG := gG_in (tin2 (List.mem_of_getElem? (i := 155) rfl)) rfl
theorem wfX11_132 : Cond.fieldLinkNest RX11 132 (TX4 11).1 (TX4 11).2.1 (TX4 11).2.2.1 "PressedPad" ∈ nW := nW_in (tin1 (List.mem_of_getElem? (i := 113) rfl)) rfl
theorem wfX11_135 : Cond.fieldLinkNest RX11 135 (TX4 10).1 (TX4 10).2.1 (TX4 10).2.2.1 "PressedPad" ∈ nW := nW_in (tin1 (List.mem_of_getElem? (i := 111) rfl)) rfl
theorem wcX11_word : Cond.code yX11_word cX11_word 2 (some .int) ∈ gG := gG_in (tin2 (List.mem_of_getElem? (i := 164) rfl)) rfl
theorem wnX11_word : Cond.instanceMethod yX11_word ∈ gG := gG_in (tin2 (List.mem_of_getElem? (i := 162) rfl)) rfl
theorem wsX11_word : Cond.selects RX11 yX11_word yX11_word ∈ gG := gG_in (tin2 (List.mem_of_getElem? (i := 163) rfl)) rfl
theorem wcX11_forget : Cond.code yX11_forget cX11_forget 2 (some .int) ∈ gG := gG_in (tin2 (List.mem_of_getElem? (i := 168) rfl)) rfl
theorem wnX11_forget : Cond.instanceMethod yX11_forget ∈ gG := gG_in (tin2 (List.mem_of_getElem? (i := 166) rfl)) rfl
theorem wsX11_forget : Cond.selects RX11 yX11_forget yX11_forget ∈ gG := gG_in (tin2 (List.mem_of_getElem? (i := 167) rfl)) rfl
theorem wfX11_49 : Cond.fieldLink RX11 49 (TX11 7).1 (TX11 7).2.1 (TX11 7).2.2.1 ∈ gG := gG_in (tin1 (List.mem_of_getElem? (i := 223) rfl)) rfl
theorem wfX11_138 : Cond.fieldLinkNest RX11 138 (TX7 1).1 (TX7 1).2.1 (TX7 1).2.2.1 "PressedPad" ∈ nW := nW_in (tin1 (List.mem_of_getElem? (i := 192) rfl)) rfl
theorem wfX11_141 : Cond.fieldLinkNest RX11 141 (TX7 0).1 (TX7 0).2.1 (TX7 0).2.2.1 "PressedPad" ∈ nW := nW_in (tin1 (List.mem_of_getElem? (i := 190) rfl)) rfl
theorem wcX11_type : Cond.code yX11_type cX11_type 2 (some .int) ∈ gG := gG_in (tin2 (List.mem_of_getElem? (i := 172) rfl)) rfl
theorem wnX11_type : Cond.instanceMethod yX11_type ∈ gG := gG_in (tin2 (List.mem_of_getElem? (i := 170) rfl)) rfl
theorem wsX11_type : Cond.selects RX11 yX11_type yX11_type ∈ gG := gG_in (tin2 (List.mem_of_getElem? (i := 171) rfl)) rfl
theorem wcX11_clear : Cond.code yX11_clear cX11_clear 2 (some .int) ∈ gG := gG_in (tin2 (List.mem_of_getElem? (i := 176) rfl)) rfl
theorem wnX11_clear : Cond.instanceMethod yX11_clear ∈ gG := gG_in (tin2 (List.mem_of_getElem? (i := 174) rfl)) rfl
theorem wsX11_clear : Cond.selects RX11 yX11_clear yX11_clear ∈ gG := gG_in (tin2 (List.mem_of_getElem? (i := 175) rfl)) rfl
theorem wfX11_23 : Cond.fieldLink RX11 23 (TX11 2).1 (TX11 2).2.1 (TX11 2).2.2.1 ∈ gG := gG_in (tin1 (List.mem_of_getElem? (i := 218) rfl)) rfl
theorem wmX11_144 : Cond.methodLink RX11 144 yX7_readInto ∈ gG := gG_in (tin2 (List.mem_of_getElem? (i := 181) rfl)) rfl
theorem wmX11_151 : Cond.methodLink RX11 151 yX4_copyFrom ∈ gG := gG_in (tin3 (List.mem_of_getElem? (i := 54) rfl)) rfl
theorem wmX11_148 : Cond.methodLink RX11 148 yX7_fault ∈ gG := gG_in (tin3 (List.mem_of_getElem? (i := 50) rfl)) rfl
theorem wcX11_read : Cond.code yX11_read cX11_read 2 (some .int) ∈ gG := gG_in (tin2 (List.mem_of_getElem? (i := 180) rfl)) rfl
theorem wnX11_read : Cond.instanceMethod yX11_read ∈ gG := gG_in (tin2 (List.mem_of_getElem? (i := 178) rfl)) rfl
theorem wsX11_read : Cond.selects RX11 yX11_read yX11_read ∈ gG := gG_in (tin2 (List.mem_of_getElem? (i := 179) rfl)) rfl
theorem wmX11_155 : Cond.methodLink RX11 155 yX4_hasSheet ∈ gG := gG_in (tin3 (List.mem_of_getElem? (i := 63) rfl)) rfl
theorem wmX11_158 : Cond.methodLink RX11 158 yX4_inkOf ∈ gG := gG_in (tin3 (List.mem_of_getElem? (i := 67) rfl)) rfl
theorem wmX11_161 : Cond.methodLink RX11 161 yX4_copyOf ∈ gG := gG_in (tin3 (List.mem_of_getElem? (i := 71) rfl)) rfl
theorem wmX11_164 : Cond.methodLink RX11 164 yX4_top ∈ gG := gG_in (tin3 (List.mem_of_getElem? (i := 75) rfl)) rfl
theorem wmX11_167 : Cond.methodLink RX11 167 yX4_writtenOn ∈ gG := gG_in (tin3 (List.mem_of_getElem? (i := 79) rfl)) rfl
theorem wcX11_of : Cond.code yX11_of cX11_of 3 (some .int) ∈ gG := gG_in (tin3 (List.mem_of_getElem? (i := 62) rfl)) rfl
theorem wnX11_of : Cond.instanceMethod yX11_of ∈ gG := gG_in (tin3 (List.mem_of_getElem? (i := 60) rfl)) rfl
theorem wsX11_of : Cond.selects RX11 yX11_of yX11_of ∈ gG := gG_in (tin3 (List.mem_of_getElem? (i := 61) rfl)) rfl
theorem wmX11_170 : Cond.methodLink RX11 170 yX4_dentOf ∈ gG := gG_in (tin3 (List.mem_of_getElem? (i := 87) rfl)) rfl
theorem wcX11_dent : Cond.code yX11_dent cX11_dent 3 (some .int) ∈ gG := gG_in (tin3 (List.mem_of_getElem? (i := 86) rfl)) rfl
theorem wnX11_dent : Cond.instanceMethod yX11_dent ∈ gG := gG_in (tin3 (List.mem_of_getElem? (i := 84) rfl)) rfl
theorem wsX11_dent : Cond.selects RX11 yX11_dent yX11_dent ∈ gG := gG_in (tin3 (List.mem_of_getElem? (i := 85) rfl)) rfl
theorem wmX11_174 : Cond.methodLink RX11 174 yX4_hasNote ∈ gG := gG_in (tin3 (List.mem_of_getElem? (i := 95) rfl)) rfl
theorem wfX11_177 : Cond.fieldLinkNest RX11 177 (TX4 5).1 (TX4 5).2.1 (TX4 5).2.2.1 "PressedPad" ∈ nW := nW_in (tin1 (List.mem_of_getElem? (i := 99) rfl)) rfl
theorem wfX11_180 : Cond.fieldLinkNest RX11 180 (TX4 6).1 (TX4 6).2.1 (TX4 6).2.2.1 "PressedPad" ∈ nW := nW_in (tin1 (List.mem_of_getElem? (i := 101) rfl)) rfl
theorem wfX11_183 : Cond.fieldLinkNest RX11 183 (TX4 7).1 (TX4 7).2.1 (TX4 7).2.2.1 "PressedPad" ∈ nW := nW_in (tin1 (List.mem_of_getElem? (i := 105) rfl)) rfl
theorem wfX11_186 : Cond.fieldLinkNest RX11 186 (TX4 8).1 (TX4 8).2.1 (TX4 8).2.2.1 "PressedPad" ∈ nW := nW_in (tin1 (List.mem_of_getElem? (i := 108) rfl)) rfl
theorem wmX11_189 : Cond.methodLink RX11 189 yX4_forceOn ∈ gG := gG_in (tin3 (List.mem_of_getElem? (i := 99) rfl)) rfl
theorem wmX11_192 : Cond.methodLink RX11 192 yX5_hasInk ∈ gG := gG_in (tin3 (List.mem_of_getElem? (i := 100) rfl)) rfl
theorem wcX11_about : Cond.code yX11_about cX11_about 3 (some .int) ∈ gG := gG_in (tin3 (List.mem_of_getElem? (i := 94) rfl)) rfl
theorem wnX11_about : Cond.instanceMethod yX11_about ∈ gG := gG_in (tin3 (List.mem_of_getElem? (i := 92) rfl)) rfl
theorem wsX11_about : Cond.selects RX11 yX11_about yX11_about ∈ gG := gG_in (tin3 (List.mem_of_getElem? (i := 93) rfl)) rfl
theorem wcX11_isDepth : Cond.code yX11_isDepth cX11_isDepth 1 (some .boolean) ∈ gG := gG_in (tin3 (List.mem_of_getElem? (i := 107) rfl)) rfl
theorem wtX11_isDepth : Cond.static yX11_isDepth ∈ gG := gG_in (tin3 (List.mem_of_getElem? (i := 106) rfl)) rfl
theorem wmX11_195 : Cond.methodLink RX11 195 yX11_isDepth ∈ gG := gG_in (tin3 (List.mem_of_getElem? (i := 105) rfl)) rfl
theorem wmX11_198 : Cond.methodLink RX11 198 yX5_forceOf ∈ gG := gG_in (tin3 (List.mem_of_getElem? (i := 108) rfl)) rfl
theorem wcX11_force : Cond.code yX11_force cX11_force 4 (some .int) ∈ gG := gG_in (tin3 (List.mem_of_getElem? (i := 104) rfl)) rfl
theorem wnX11_force : Cond.instanceMethod yX11_force ∈ gG := gG_in (tin3 (List.mem_of_getElem? (i := 102) rfl)) rfl
theorem wsX11_force : Cond.selects RX11 yX11_force yX11_force ∈ gG := gG_in (tin3 (List.mem_of_getElem? (i := 103) rfl)) rfl
theorem wmX11_202 : Cond.methodLink RX11 202 yX4_dentedBy ∈ gG := gG_in (tin3 (List.mem_of_getElem? (i := 113) rfl)) rfl
theorem wcX11_whose : Cond.code yX11_whose cX11_whose 2 (some .int) ∈ gG := gG_in (tin3 (List.mem_of_getElem? (i := 112) rfl)) rfl
theorem wnX11_whose : Cond.instanceMethod yX11_whose ∈ gG := gG_in (tin3 (List.mem_of_getElem? (i := 110) rfl)) rfl
theorem wsX11_whose : Cond.selects RX11 yX11_whose yX11_whose ∈ gG := gG_in (tin3 (List.mem_of_getElem? (i := 111) rfl)) rfl
theorem wmX11_205 : Cond.methodLink RX11 205 yX4_cellsDented ∈ gG := gG_in (tin3 (List.mem_of_getElem? (i := 125) rfl)) rfl
theorem wcX11_own : Cond.code yX11_own cX11_own 5 (some .int) ∈ gG := gG_in (tin3 (List.mem_of_getElem? (i := 124) rfl)) rfl
theorem wnX11_own : Cond.instanceMethod yX11_own ∈ gG := gG_in (tin3 (List.mem_of_getElem? (i := 122) rfl)) rfl
theorem wsX11_own : Cond.selects RX11 yX11_own yX11_own ∈ gG := gG_in (tin3 (List.mem_of_getElem? (i := 123) rfl)) rfl
theorem wmX11_208 : Cond.methodLink RX11 208 yX4_dentedAtLeast ∈ gG := gG_in (tin3 (List.mem_of_getElem? (i := 130) rfl)) rfl
theorem wcX11_shown : Cond.code yX11_shown cX11_shown 3 (some .int) ∈ gG := gG_in (tin3 (List.mem_of_getElem? (i := 129) rfl)) rfl
theorem wnX11_shown : Cond.instanceMethod yX11_shown ∈ gG := gG_in (tin3 (List.mem_of_getElem? (i := 127) rfl)) rfl
theorem wsX11_shown : Cond.selects RX11 yX11_shown yX11_shown ∈ gG := gG_in (tin3 (List.mem_of_getElem? (i := 128) rfl)) rfl
theorem wkJ6_265 : Cond.constant RJ6 265 1431655765 ∈ gG := gG_in (tin3 (List.mem_of_getElem? (i := 158) rfl)) rfl
theorem wkJ6_266 : Cond.constant RJ6 266 858993459 ∈ gG := gG_in (tin3 (List.mem_of_getElem? (i := 159) rfl)) rfl
theorem wkJ6_267 : Cond.constant RJ6 267 252645135 ∈ gG := gG_in (tin3 (List.mem_of_getElem? (i := 160) rfl)) rfl
theorem wcJ6_bitCount_0f7a4 : Cond.code yJ6_bitCount_0f7a4 cJ6_bitCount_0f7a4 1 (some .int) ∈ gG := gG_in (tin3 (List.mem_of_getElem? (i := 157) rfl)) rfl
theorem wiJ6 : Cond.initialized RJ6 ∈ gG := gG_in (tin1 (List.mem_of_getElem? (i := 19) rfl)) rfl
theorem wtJ6_bitCount_0f7a4 : Cond.static yJ6_bitCount_0f7a4 ∈ gG := gG_in (tin3 (List.mem_of_getElem? (i := 156) rfl)) rfl
theorem wfX11_35 : Cond.fieldLink RX11 35 (TX11 5).1 (TX11 5).2.1 (TX11 5).2.2.1 ∈ gG := gG_in (tin1 (List.mem_of_getElem? (i := 221) rfl)) rfl
theorem wmX11_235 : Cond.methodLink RX11 235 yX2_isFit ∈ gG := gG_in (tin3 (List.mem_of_getElem? (i := 165) rfl)) rfl
theorem wcX11_wordsThatFit : Cond.code yX11_wordsThatFit cX11_wordsThatFit 3 (some .int) ∈ gG := gG_in (tin3 (List.mem_of_getElem? (i := 164) rfl)) rfl
theorem wnX11_wordsThatFit : Cond.instanceMethod yX11_wordsThatFit ∈ gG := gG_in (tin3 (List.mem_of_getElem? (i := 163) rfl)) rfl
theorem wsX11_wordsThatFit : Cond.selects RX11 yX11_wordsThatFit yX11_wordsThatFit ∈ gG := gG_in (tinp (List.mem_of_getElem? (i := 17) rfl)) rfl
theorem wmX11_214 : Cond.methodLink RX11 214 yX2_look ∈ gG := gG_in (tin3 (List.mem_of_getElem? (i := 143) rfl)) rfl
theorem wmX11_218 : Cond.methodLink RX11 218 yX2_guess ∈ gG := gG_in (tin3 (List.mem_of_getElem? (i := 151) rfl)) rfl
theorem wfX11_221 : Cond.fieldLinkNest RX11 221 (TX2 2).1 (TX2 2).2.1 (TX2 2).2.2.1 "PressedPad" ∈ nW := nW_in (tin1 (List.mem_of_getElem? (i := 149) rfl)) rfl
theorem wfX11_224 : Cond.fieldLinkNest RX11 224 (TX2 3).1 (TX2 3).2.1 (TX2 3).2.2.1 "PressedPad" ∈ nW := nW_in (tin1 (List.mem_of_getElem? (i := 151) rfl)) rfl
theorem wmX11_227 : Cond.methodLink RX11 227 yJ6_bitCount_0f7a4 ∈ gG := gG_in (tin3 (List.mem_of_getElem? (i := 155) rfl)) rfl
theorem wmX11_232 : Cond.methodLink RX11 232 yX11_wordsThatFit ∈ gG := gG_in (tin3 (List.mem_of_getElem? (i := 161) rfl)) rfl
theorem wmX11_211 : Cond.methodLink RX11 211 yX4_hasNotes ∈ gG := gG_in (tin3 (List.mem_of_getElem? (i := 139) rfl)) rfl
theorem wcX11_lost : Cond.code yX11_lost cX11_lost 9 (some .int) ∈ gG := gG_in (tin3 (List.mem_of_getElem? (i := 138) rfl)) rfl
theorem wnX11_lost : Cond.instanceMethod yX11_lost ∈ gG := gG_in (tin3 (List.mem_of_getElem? (i := 136) rfl)) rfl
theorem wsX11_lost : Cond.selects RX11 yX11_lost yX11_lost ∈ gG := gG_in (tin3 (List.mem_of_getElem? (i := 137) rfl)) rfl
theorem wcX11_pen : Cond.code yX11_pen cX11_pen 11 (some .int) ∈ gG := gG_in (tin3 (List.mem_of_getElem? (i := 172) rfl)) rfl
theorem wnX11_pen : Cond.instanceMethod yX11_pen ∈ gG := gG_in (tin3 (List.mem_of_getElem? (i := 170) rfl)) rfl
theorem wsX11_pen : Cond.selects RX11 yX11_pen yX11_pen ∈ gG := gG_in (tin3 (List.mem_of_getElem? (i := 171) rfl)) rfl
theorem wfX11_42 : Cond.fieldLink RX11 42 (TX11 6).1 (TX11 6).2.1 (TX11 6).2.2.1 ∈ gG := gG_in (tin1 (List.mem_of_getElem? (i := 222) rfl)) rfl
theorem wmX11_238 : Cond.methodLink RX11 238 yX8_search ∈ gG := gG_in (tin3 (List.mem_of_getElem? (i := 177) rfl)) rfl
theorem wmX11_242 : Cond.methodLink RX11 242 yX8_sheetAt ∈ gG := gG_in (tin3 (List.mem_of_getElem? (i := 192) rfl)) rfl
theorem wcX11_orders : Cond.code yX11_orders cX11_orders 2 (some .int) ∈ gG := gG_in (tin3 (List.mem_of_getElem? (i := 176) rfl)) rfl
theorem wnX11_orders : Cond.instanceMethod yX11_orders ∈ gG := gG_in (tin3 (List.mem_of_getElem? (i := 174) rfl)) rfl
theorem wsX11_orders : Cond.selects RX11 yX11_orders yX11_orders ∈ gG := gG_in (tin3 (List.mem_of_getElem? (i := 175) rfl)) rfl
theorem wcX11_press : Cond.code yX11_press cX11_press 4 (some .int) ∈ gG := gG_in (tin3 (List.mem_of_getElem? (i := 199) rfl)) rfl
theorem wnX11_press : Cond.instanceMethod yX11_press ∈ gG := gG_in (tin3 (List.mem_of_getElem? (i := 197) rfl)) rfl
theorem wsX11_press : Cond.selects RX11 yX11_press yX11_press ∈ gG := gG_in (tin3 (List.mem_of_getElem? (i := 198) rfl)) rfl
theorem wcX11_copies : Cond.code yX11_copies cX11_copies 10 (some .int) ∈ gG := gG_in (tin3 (List.mem_of_getElem? (i := 203) rfl)) rfl
theorem wnX11_copies : Cond.instanceMethod yX11_copies ∈ gG := gG_in (tin3 (List.mem_of_getElem? (i := 201) rfl)) rfl
theorem wsX11_copies : Cond.selects RX11 yX11_copies yX11_copies ∈ gG := gG_in (tin3 (List.mem_of_getElem? (i := 202) rfl)) rfl
theorem wfX11_61 : Cond.fieldLink RX11 61 (TX11 10).1 (TX11 10).2.1 (TX11 10).2.2.1 ∈ gG := gG_in (tin1 (List.mem_of_getElem? (i := 226) rfl)) rfl
theorem wfX11_65 : Cond.fieldLink RX11 65 (TX11 11).1 (TX11 11).2.1 (TX11 11).2.2.1 ∈ gG := gG_in (tin1 (List.mem_of_getElem? (i := 227) rfl)) rfl
theorem wcX11_keepFraction : Cond.code yX11_keepFraction cX11_keepFraction 12 none ∈ gG := gG_in (tin3 (List.mem_of_getElem? (i := 212) rfl)) rfl
theorem wnX11_keepFraction : Cond.instanceMethod yX11_keepFraction ∈ gG := gG_in (tin3 (List.mem_of_getElem? (i := 211) rfl)) rfl
theorem wsX11_keepFraction : Cond.selects RX11 yX11_keepFraction yX11_keepFraction ∈ gG := gG_in (tinp (List.mem_of_getElem? (i := 20) rfl)) rfl
theorem wlX11_245 : Cond.constantLong RX11 245 10 ∈ gG := gG_in (tin3 (List.mem_of_getElem? (i := 208) rfl)) rfl
theorem wmX11_247 : Cond.methodLink RX11 247 yX11_keepFraction ∈ gG := gG_in (tin3 (List.mem_of_getElem? (i := 209) rfl)) rfl
theorem wcX11_rub : Cond.code yX11_rub cX11_rub 11 (some .int) ∈ gG := gG_in (tin3 (List.mem_of_getElem? (i := 207) rfl)) rfl
theorem wnX11_rub : Cond.instanceMethod yX11_rub ∈ gG := gG_in (tin3 (List.mem_of_getElem? (i := 205) rfl)) rfl
theorem wsX11_rub : Cond.selects RX11 yX11_rub yX11_rub ∈ gG := gG_in (tin3 (List.mem_of_getElem? (i := 206) rfl)) rfl
theorem wcX11_torn : Cond.code yX11_torn cX11_torn 3 (some .int) ∈ gG := gG_in (tin3 (List.mem_of_getElem? (i := 216) rfl)) rfl
theorem wnX11_torn : Cond.instanceMethod yX11_torn ∈ gG := gG_in (tin3 (List.mem_of_getElem? (i := 214) rfl)) rfl
theorem wsX11_torn : Cond.selects RX11 yX11_torn yX11_torn ∈ gG := gG_in (tin3 (List.mem_of_getElem? (i := 215) rfl)) rfl
theorem wlX11_281 : Cond.constantLong RX11 281 1103515245 ∈ gG := gG_in (tin3 (List.mem_of_getElem? (i := 225) rfl)) rfl
theorem wlX11_283 : Cond.constantLong RX11 283 12345 ∈ gG := gG_in (tin3 (List.mem_of_getElem? (i := 226) rfl)) rfl
theorem wlX11_285 : Cond.constantLong RX11 285 2147483648 ∈ gG := gG_in (tin3 (List.mem_of_getElem? (i := 227) rfl)) rfl
theorem wcX11_nextDraw : Cond.code yX11_nextDraw cX11_nextDraw 2 (some .long) ∈ gG := gG_in (tin3 (List.mem_of_getElem? (i := 224) rfl)) rfl
theorem wtX11_nextDraw : Cond.static yX11_nextDraw ∈ gG := gG_in (tin3 (List.mem_of_getElem? (i := 223) rfl)) rfl
theorem wlX11_287 : Cond.constantLong RX11 287 65536 ∈ gG := gG_in (tin3 (List.mem_of_getElem? (i := 231) rfl)) rfl
theorem wcX11_drawOf : Cond.code yX11_drawOf cX11_drawOf 3 (some .int) ∈ gG := gG_in (tin3 (List.mem_of_getElem? (i := 230) rfl)) rfl
theorem wtX11_drawOf : Cond.static yX11_drawOf ∈ gG := gG_in (tin3 (List.mem_of_getElem? (i := 229) rfl)) rfl
theorem wfX11_53 : Cond.fieldLink RX11 53 (TX11 8).1 (TX11 8).2.1 (TX11 8).2.2.1 ∈ gG := gG_in (tin1 (List.mem_of_getElem? (i := 224) rfl)) rfl
theorem wcX11_sumOfLast : Cond.code yX11_sumOfLast cX11_sumOfLast 3 (some .int) ∈ gG := gG_in (tin3 (List.mem_of_getElem? (i := 236) rfl)) rfl
theorem wnX11_sumOfLast : Cond.instanceMethod yX11_sumOfLast ∈ gG := gG_in (tin3 (List.mem_of_getElem? (i := 235) rfl)) rfl
theorem wsX11_sumOfLast : Cond.selects RX11 yX11_sumOfLast yX11_sumOfLast ∈ gG := gG_in (tinp (List.mem_of_getElem? (i := 21) rfl)) rfl
theorem wkX11_251 : Cond.constant RX11 251 999999 ∈ gG := gG_in (tin3 (List.mem_of_getElem? (i := 221) rfl)) rfl
theorem wmX11_252 : Cond.methodLink RX11 252 yX11_nextDraw ∈ gG := gG_in (tin3 (List.mem_of_getElem? (i := 222) rfl)) rfl
theorem wmX11_256 : Cond.methodLink RX11 256 yX11_drawOf ∈ gG := gG_in (tin3 (List.mem_of_getElem? (i := 228) rfl)) rfl
theorem wmX11_260 : Cond.methodLink RX11 260 yX11_dentInto ∈ gG := gG_in (tin3 (List.mem_of_getElem? (i := 232) rfl)) rfl
theorem wmX11_264 : Cond.methodLink RX11 264 yX11_sumOfLast ∈ gG := gG_in (tin3 (List.mem_of_getElem? (i := 233) rfl)) rfl
theorem wcX11_drawn : Cond.code yX11_drawn cX11_drawn 10 (some .int) ∈ gG := gG_in (tin3 (List.mem_of_getElem? (i := 220) rfl)) rfl
theorem wnX11_drawn : Cond.instanceMethod yX11_drawn ∈ gG := gG_in (tin3 (List.mem_of_getElem? (i := 218) rfl)) rfl
theorem wsX11_drawn : Cond.selects RX11 yX11_drawn yX11_drawn ∈ gG := gG_in (tin3 (List.mem_of_getElem? (i := 219) rfl)) rfl
theorem wcX11_part : Cond.code yX11_part cX11_part 2 (some .long) ∈ gG := gG_in (tin4 (List.mem_of_getElem? (i := 0) rfl)) rfl
theorem wnX11_part : Cond.instanceMethod yX11_part ∈ gG := gG_in (tin3 (List.mem_of_getElem? (i := 238) rfl)) rfl
theorem wsX11_part : Cond.selects RX11 yX11_part yX11_part ∈ gG := gG_in (tin3 (List.mem_of_getElem? (i := 239) rfl)) rfl
theorem wmX11_267 : Cond.methodLink RX11 267 yX11_imageOf ∈ gG := gG_in (tin4 (List.mem_of_getElem? (i := 5) rfl)) rfl
theorem wfX11_57 : Cond.fieldLink RX11 57 (TX11 9).1 (TX11 9).2.1 (TX11 9).2.2.1 ∈ gG := gG_in (tin1 (List.mem_of_getElem? (i := 225) rfl)) rfl
theorem wcX11_image : Cond.code yX11_image cX11_image 2 (some .int) ∈ gG := gG_in (tin4 (List.mem_of_getElem? (i := 4) rfl)) rfl
theorem wnX11_image : Cond.instanceMethod yX11_image ∈ gG := gG_in (tin4 (List.mem_of_getElem? (i := 2) rfl)) rfl
theorem wsX11_image : Cond.selects RX11 yX11_image yX11_image ∈ gG := gG_in (tin4 (List.mem_of_getElem? (i := 3) rfl)) rfl
theorem wcX11_from : Cond.code yX11_from cX11_from 2 (some .int) ∈ gG := gG_in (tin4 (List.mem_of_getElem? (i := 12) rfl)) rfl
theorem wnX11_from : Cond.instanceMethod yX11_from ∈ gG := gG_in (tin4 (List.mem_of_getElem? (i := 10) rfl)) rfl
theorem wsX11_from : Cond.selects RX11 yX11_from yX11_from ∈ gG := gG_in (tin4 (List.mem_of_getElem? (i := 11) rfl)) rfl
theorem wcX11_status : Cond.code yX11_status cX11_status 2 (some .int) ∈ gG := gG_in (tin4 (List.mem_of_getElem? (i := 16) rfl)) rfl
theorem wnX11_status : Cond.instanceMethod yX11_status ∈ gG := gG_in (tin4 (List.mem_of_getElem? (i := 14) rfl)) rfl
theorem wsX11_status : Cond.selects RX11 yX11_status yX11_status ∈ gG := gG_in (tin4 (List.mem_of_getElem? (i := 15) rfl)) rfl
theorem wcX11_amountOf : Cond.code yX11_amountOf cX11_amountOf 2 (some .int) ∈ gG := gG_in (tin4 (List.mem_of_getElem? (i := 24) rfl)) rfl
theorem wnX11_amountOf : Cond.instanceMethod yX11_amountOf ∈ gG := gG_in (tin4 (List.mem_of_getElem? (i := 23) rfl)) rfl
theorem wsX11_amountOf : Cond.selects RX11 yX11_amountOf yX11_amountOf ∈ gG := gG_in (tinp (List.mem_of_getElem? (i := 23) rfl)) rfl
theorem wmX11_271 : Cond.methodLink RX11 271 yX11_amountOf ∈ gG := gG_in (tin4 (List.mem_of_getElem? (i := 21) rfl)) rfl
theorem wcX11_count : Cond.code yX11_count cX11_count 2 (some .int) ∈ gG := gG_in (tin4 (List.mem_of_getElem? (i := 20) rfl)) rfl
theorem wnX11_count : Cond.instanceMethod yX11_count ∈ gG := gG_in (tin4 (List.mem_of_getElem? (i := 18) rfl)) rfl
theorem wsX11_count : Cond.selects RX11 yX11_count yX11_count ∈ gG := gG_in (tin4 (List.mem_of_getElem? (i := 19) rfl)) rfl
theorem wlX11_274 : Cond.constantLong RX11 274 919 ∈ gG := gG_in (tin4 (List.mem_of_getElem? (i := 29) rfl)) rfl
theorem wlX11_276 : Cond.constantLong RX11 276 31 ∈ gG := gG_in (tin4 (List.mem_of_getElem? (i := 30) rfl)) rfl
theorem wmX11_278 : Cond.methodLink RX11 278 yX4_digestFrom ∈ gG := gG_in (tin4 (List.mem_of_getElem? (i := 31) rfl)) rfl
theorem wcX11_digest : Cond.code yX11_digest cX11_digest 4 (some .long) ∈ gG := gG_in (tin4 (List.mem_of_getElem? (i := 28) rfl)) rfl
theorem wnX11_digest : Cond.instanceMethod yX11_digest ∈ gG := gG_in (tin4 (List.mem_of_getElem? (i := 26) rfl)) rfl
theorem wsX11_digest : Cond.selects RX11 yX11_digest yX11_digest ∈ gG := gG_in (tin4 (List.mem_of_getElem? (i := 27) rfl)) rfl
theorem wcX12_in : Cond.code yX12_in cX12_in 6 (some .boolean) ∈ gG := gG_in (tin4 (List.mem_of_getElem? (i := 141) rfl)) rfl
theorem wiX12 : Cond.initialized RX12 ∈ gG := gG_in (tin1 (List.mem_of_getElem? (i := 13) rfl)) rfl
theorem wtX12_in : Cond.static yX12_in ∈ gG := gG_in (tin4 (List.mem_of_getElem? (i := 140) rfl)) rfl
theorem wcX12_has : Cond.code yX12_has cX12_has 2 (some .boolean) ∈ gG := gG_in (tin4 (List.mem_of_getElem? (i := 191) rfl)) rfl
theorem wtX12_has : Cond.static yX12_has ∈ gG := gG_in (tin4 (List.mem_of_getElem? (i := 190) rfl)) rfl
theorem wcX12_ones : Cond.code yX12_ones cX12_ones 3 (some .int) ∈ gG := gG_in (tin5 (List.mem_of_getElem? (i := 85) rfl)) rfl
theorem wtX12_ones : Cond.static yX12_ones ∈ gG := gG_in (tin5 (List.mem_of_getElem? (i := 84) rfl)) rfl
theorem wfX12_27 : Cond.fieldLink RX12 27 (TX12 9).1 (TX12 9).2.1 (TX12 9).2.2.1 ∈ gG := gG_in (tin4 (List.mem_of_getElem? (i := 51) rfl)) rfl
theorem wcX12_refuse : Cond.code yX12_refuse cX12_refuse 3 (some .int) ∈ gG := gG_in (tin4 (List.mem_of_getElem? (i := 149) rfl)) rfl
theorem wnX12_refuse : Cond.instanceMethod yX12_refuse ∈ gG := gG_in (tin4 (List.mem_of_getElem? (i := 148) rfl)) rfl
theorem wsX12_refuse : Cond.selects RX12 yX12_refuse yX12_refuse ∈ gG := gG_in (tinp (List.mem_of_getElem? (i := 25) rfl)) rfl
theorem wmX12_52 : Cond.methodLink RX12 52 yX12_refuse ∈ gG := gG_in (tin4 (List.mem_of_getElem? (i := 146) rfl)) rfl
theorem wcX12_bad : Cond.code yX12_bad cX12_bad 1 (some .int) ∈ gG := gG_in (tin4 (List.mem_of_getElem? (i := 145) rfl)) rfl
theorem wnX12_bad : Cond.instanceMethod yX12_bad ∈ gG := gG_in (tin4 (List.mem_of_getElem? (i := 144) rfl)) rfl
theorem wsX12_bad : Cond.selects RX12 yX12_bad yX12_bad ∈ gG := gG_in (tinp (List.mem_of_getElem? (i := 24) rfl)) rfl
theorem wcX12_badLess : Cond.code yX12_badLess cX12_badLess 1 (some .int) ∈ gG := gG_in (tin5 (List.mem_of_getElem? (i := 21) rfl)) rfl
theorem wnX12_badLess : Cond.instanceMethod yX12_badLess ∈ gG := gG_in (tin5 (List.mem_of_getElem? (i := 20) rfl)) rfl
theorem wsX12_badLess : Cond.selects RX12 yX12_badLess yX12_badLess ∈ gG := gG_in (tinp (List.mem_of_getElem? (i := 37) rfl)) rfl
theorem wfX12_7 : Cond.fieldLink RX12 7 (TX12 0).1 (TX12 0).2.1 (TX12 0).2.2.1 ∈ gG := gG_in (tin4 (List.mem_of_getElem? (i := 42) rfl)) rfl
theorem wmX12_56 : Cond.methodLink RX12 56 yX12_in ∈ gG := gG_in (tin4 (List.mem_of_getElem? (i := 139) rfl)) rfl
theorem wcX12_isSheet : Cond.code yX12_isSheet cX12_isSheet 2 (some .boolean) ∈ gG := gG_in (tin5 (List.mem_of_getElem? (i := 17) rfl)) rfl
theorem wnX12_isSheet : Cond.instanceMethod yX12_isSheet ∈ gG := gG_in (tin5 (List.mem_of_getElem? (i := 16) rfl)) rfl
theorem wsX12_isSheet : Cond.selects RX12 yX12_isSheet yX12_isSheet ∈ gG := gG_in (tinp (List.mem_of_getElem? (i := 36) rfl)) rfl
theorem wfX12_17 : Cond.fieldLink RX12 17 (TX12 4).1 (TX12 4).2.1 (TX12 4).2.2.1 ∈ gG := gG_in (tin4 (List.mem_of_getElem? (i := 46) rfl)) rfl
theorem wcX12_areNotes : Cond.code yX12_areNotes cX12_areNotes 2 (some .boolean) ∈ gG := gG_in (tin5 (List.mem_of_getElem? (i := 69) rfl)) rfl
theorem wnX12_areNotes : Cond.instanceMethod yX12_areNotes ∈ gG := gG_in (tin5 (List.mem_of_getElem? (i := 68) rfl)) rfl
theorem wsX12_areNotes : Cond.selects RX12 yX12_areNotes yX12_areNotes ∈ gG := gG_in (tinp (List.mem_of_getElem? (i := 42) rfl)) rfl
theorem wlX12_60 : Cond.constantLong RX12 60 5 ∈ gG := gG_in (tin4 (List.mem_of_getElem? (i := 165) rfl)) rfl
theorem wlX12_62 : Cond.constantLong RX12 62 9 ∈ gG := gG_in (tin4 (List.mem_of_getElem? (i := 166) rfl)) rfl
theorem wcX12_isPen : Cond.code yX12_isPen cX12_isPen 2 (some .boolean) ∈ gG := gG_in (tin4 (List.mem_of_getElem? (i := 164) rfl)) rfl
theorem wtX12_isPen : Cond.static yX12_isPen ∈ gG := gG_in (tin4 (List.mem_of_getElem? (i := 163) rfl)) rfl
theorem wcX12_pencil : Cond.code yX12_pencil cX12_pencil 3 (some .int) ∈ gG := gG_in (tin4 (List.mem_of_getElem? (i := 188) rfl)) rfl
theorem wtX12_pencil : Cond.static yX12_pencil ∈ gG := gG_in (tin4 (List.mem_of_getElem? (i := 187) rfl)) rfl
theorem wmX12_64 : Cond.methodLink RX12 64 yX12_pencil ∈ gG := gG_in (tin4 (List.mem_of_getElem? (i := 186) rfl)) rfl
theorem wcX12_forceOf : Cond.code yX12_forceOf cX12_forceOf 3 (some .int) ∈ gG := gG_in (tin4 (List.mem_of_getElem? (i := 185) rfl)) rfl
theorem wtX12_forceOf : Cond.static yX12_forceOf ∈ gG := gG_in (tin4 (List.mem_of_getElem? (i := 184) rfl)) rfl
theorem wcX12_hasInk : Cond.code yX12_hasInk cX12_hasInk 1 (some .boolean) ∈ gG := gG_in (tin4 (List.mem_of_getElem? (i := 182) rfl)) rfl
theorem wtX12_hasInk : Cond.static yX12_hasInk ∈ gG := gG_in (tin4 (List.mem_of_getElem? (i := 181) rfl)) rfl
theorem wfX12_67 : Cond.fieldLink RX12 67 (TX12 1).1 (TX12 1).2.1 (TX12 1).2.2.1 ∈ gG := gG_in (tin4 (List.mem_of_getElem? (i := 43) rfl)) rfl
theorem wfX12_70 : Cond.fieldLink RX12 70 (TX12 6).1 (TX12 6).2.1 (TX12 6).2.2.1 ∈ gG := gG_in (tin4 (List.mem_of_getElem? (i := 48) rfl)) rfl
theorem wcX12_empty : Cond.code yX12_empty cX12_empty 2 none ∈ gG := gG_in (tin4 (List.mem_of_getElem? (i := 153) rfl)) rfl
theorem wnX12_empty : Cond.instanceMethod yX12_empty ∈ gG := gG_in (tin4 (List.mem_of_getElem? (i := 152) rfl)) rfl
theorem wsX12_empty : Cond.selects RX12 yX12_empty yX12_empty ∈ gG := gG_in (tinp (List.mem_of_getElem? (i := 26) rfl)) rfl
theorem wlX12_73 : Cond.constantLong RX12 73 6 ∈ gG := gG_in (tin4 (List.mem_of_getElem? (i := 138) rfl)) rfl
theorem wfX12_79 : Cond.fieldLink RX12 79 (TX12 3).1 (TX12 3).2.1 (TX12 3).2.2.1 ∈ gG := gG_in (tin4 (List.mem_of_getElem? (i := 45) rfl)) rfl
theorem wmX12_82 : Cond.methodLink RX12 82 yX12_empty ∈ gG := gG_in (tin4 (List.mem_of_getElem? (i := 150) rfl)) rfl
theorem wmX12_75 : Cond.methodLink RX12 75 yX12_bad ∈ gG := gG_in (tin4 (List.mem_of_getElem? (i := 142) rfl)) rfl
theorem wcX12_pad : Cond.code yX12_pad cX12_pad 3 (some .int) ∈ gG := gG_in (tin4 (List.mem_of_getElem? (i := 137) rfl)) rfl
theorem wnX12_pad : Cond.instanceMethod yX12_pad ∈ gG := gG_in (tin4 (List.mem_of_getElem? (i := 135) rfl)) rfl
theorem wsX12_pad : Cond.selects RX12 yX12_pad yX12_pad ∈ gG := gG_in (tin4 (List.mem_of_getElem? (i := 136) rfl)) rfl
theorem wcX12_carbons : Cond.code yX12_carbons cX12_carbons 3 (some .int) ∈ gG := gG_in (tin4 (List.mem_of_getElem? (i := 157) rfl)) rfl
theorem wnX12_carbons : Cond.instanceMethod yX12_carbons ∈ gG := gG_in (tin4 (List.mem_of_getElem? (i := 155) rfl)) rfl
theorem wsX12_carbons : Cond.selects RX12 yX12_carbons yX12_carbons ∈ gG := gG_in (tin4 (List.mem_of_getElem? (i := 156) rfl)) rfl
theorem wfX12_20 : Cond.fieldLink RX12 20 (TX12 5).1 (TX12 5).2.1 (TX12 5).2.2.1 ∈ gG := gG_in (tin4 (List.mem_of_getElem? (i := 47) rfl)) rfl
theorem wcX12_note : Cond.code yX12_note cX12_note 2 none ∈ gG := gG_in (tin4 (List.mem_of_getElem? (i := 171) rfl)) rfl
theorem wnX12_note : Cond.instanceMethod yX12_note ∈ gG := gG_in (tin4 (List.mem_of_getElem? (i := 170) rfl)) rfl
theorem wsX12_note : Cond.selects RX12 yX12_note yX12_note ∈ gG := gG_in (tinp (List.mem_of_getElem? (i := 27) rfl)) rfl
theorem wmX12_85 : Cond.methodLink RX12 85 yX12_hasInk ∈ gG := gG_in (tin4 (List.mem_of_getElem? (i := 180) rfl)) rfl
theorem wmX12_89 : Cond.methodLink RX12 89 yX12_forceOf ∈ gG := gG_in (tin4 (List.mem_of_getElem? (i := 183) rfl)) rfl
theorem wmX12_93 : Cond.methodLink RX12 93 yX12_has ∈ gG := gG_in (tin4 (List.mem_of_getElem? (i := 189) rfl)) rfl
theorem wcX12_dentAll : Cond.code yX12_dentAll cX12_dentAll 9 none ∈ gG := gG_in (tin4 (List.mem_of_getElem? (i := 179) rfl)) rfl
theorem wnX12_dentAll : Cond.instanceMethod yX12_dentAll ∈ gG := gG_in (tin4 (List.mem_of_getElem? (i := 178) rfl)) rfl
theorem wsX12_dentAll : Cond.selects RX12 yX12_dentAll yX12_dentAll ∈ gG := gG_in (tinp (List.mem_of_getElem? (i := 29) rfl)) rfl
theorem wmX12_97 : Cond.methodLink RX12 97 yX12_dentAll ∈ gG := gG_in (tin4 (List.mem_of_getElem? (i := 176) rfl)) rfl
theorem wcX12_writeNow : Cond.code yX12_writeNow cX12_writeNow 5 none ∈ gG := gG_in (tin4 (List.mem_of_getElem? (i := 175) rfl)) rfl
theorem wnX12_writeNow : Cond.instanceMethod yX12_writeNow ∈ gG := gG_in (tin4 (List.mem_of_getElem? (i := 174) rfl)) rfl
theorem wsX12_writeNow : Cond.selects RX12 yX12_writeNow yX12_writeNow ∈ gG := gG_in (tinp (List.mem_of_getElem? (i := 28) rfl)) rfl
theorem wmX12_101 : Cond.methodLink RX12 101 yX12_isPen ∈ gG := gG_in (tin4 (List.mem_of_getElem? (i := 162) rfl)) rfl
theorem wlX12_104 : Cond.constantLong RX12 104 4095 ∈ gG := gG_in (tin4 (List.mem_of_getElem? (i := 167) rfl)) rfl
theorem wmX12_106 : Cond.methodLink RX12 106 yX12_note ∈ gG := gG_in (tin4 (List.mem_of_getElem? (i := 168) rfl)) rfl
theorem wmX12_109 : Cond.methodLink RX12 109 yX12_writeNow ∈ gG := gG_in (tin4 (List.mem_of_getElem? (i := 172) rfl)) rfl
theorem wcX12_write : Cond.code yX12_write cX12_write 4 (some .int) ∈ gG := gG_in (tin4 (List.mem_of_getElem? (i := 161) rfl)) rfl
theorem wnX12_write : Cond.instanceMethod yX12_write ∈ gG := gG_in (tin4 (List.mem_of_getElem? (i := 159) rfl)) rfl
theorem wsX12_write : Cond.selects RX12 yX12_write yX12_write ∈ gG := gG_in (tin4 (List.mem_of_getElem? (i := 160) rfl)) rfl
theorem wcX12_tear : Cond.code yX12_tear cX12_tear 1 (some .int) ∈ gG := gG_in (tin4 (List.mem_of_getElem? (i := 195) rfl)) rfl
theorem wnX12_tear : Cond.instanceMethod yX12_tear ∈ gG := gG_in (tin4 (List.mem_of_getElem? (i := 193) rfl)) rfl
theorem wsX12_tear : Cond.selects RX12 yX12_tear yX12_tear ∈ gG := gG_in (tin4 (List.mem_of_getElem? (i := 194) rfl)) rfl
theorem wcX12_undo : Cond.code yX12_undo cX12_undo 2 (some .int) ∈ gG := gG_in (tin4 (List.mem_of_getElem? (i := 199) rfl)) rfl
theorem wnX12_undo : Cond.instanceMethod yX12_undo ∈ gG := gG_in (tin4 (List.mem_of_getElem? (i := 197) rfl)) rfl
theorem wsX12_undo : Cond.selects RX12 yX12_undo yX12_undo ∈ gG := gG_in (tin4 (List.mem_of_getElem? (i := 198) rfl)) rfl
theorem wfX12_13 : Cond.fieldLink RX12 13 (TX12 2).1 (TX12 2).2.1 (TX12 2).2.2.1 ∈ gG := gG_in (tin4 (List.mem_of_getElem? (i := 44) rfl)) rfl
theorem wcX12_word : Cond.code yX12_word cX12_word 2 (some .int) ∈ gG := gG_in (tin4 (List.mem_of_getElem? (i := 203) rfl)) rfl
theorem wnX12_word : Cond.instanceMethod yX12_word ∈ gG := gG_in (tin4 (List.mem_of_getElem? (i := 201) rfl)) rfl
theorem wsX12_word : Cond.selects RX12 yX12_word yX12_word ∈ gG := gG_in (tin4 (List.mem_of_getElem? (i := 202) rfl)) rfl
theorem wcX12_forget : Cond.code yX12_forget cX12_forget 2 (some .int) ∈ gG := gG_in (tin4 (List.mem_of_getElem? (i := 207) rfl)) rfl
theorem wnX12_forget : Cond.instanceMethod yX12_forget ∈ gG := gG_in (tin4 (List.mem_of_getElem? (i := 205) rfl)) rfl
theorem wsX12_forget : Cond.selects RX12 yX12_forget yX12_forget ∈ gG := gG_in (tin4 (List.mem_of_getElem? (i := 206) rfl)) rfl
theorem wlX12_112 : Cond.constantLong RX12 112 127 ∈ gG := gG_in (tin4 (List.mem_of_getElem? (i := 212) rfl)) rfl
theorem wfX12_114 : Cond.fieldLink RX12 114 (TX12 11).1 (TX12 11).2.1 (TX12 11).2.2.1 ∈ gG := gG_in (tin4 (List.mem_of_getElem? (i := 53) rfl)) rfl
theorem wfX12_30 : Cond.fieldLink RX12 30 (TX12 10).1 (TX12 10).2.1 (TX12 10).2.2.1 ∈ gG := gG_in (tin4 (List.mem_of_getElem? (i := 52) rfl)) rfl
theorem wcX12_type : Cond.code yX12_type cX12_type 2 (some .int) ∈ gG := gG_in (tin4 (List.mem_of_getElem? (i := 211) rfl)) rfl
theorem wnX12_type : Cond.instanceMethod yX12_type ∈ gG := gG_in (tin4 (List.mem_of_getElem? (i := 209) rfl)) rfl
theorem wsX12_type : Cond.selects RX12 yX12_type yX12_type ∈ gG := gG_in (tin4 (List.mem_of_getElem? (i := 210) rfl)) rfl
theorem wcX12_clear : Cond.code yX12_clear cX12_clear 2 (some .int) ∈ gG := gG_in (tin4 (List.mem_of_getElem? (i := 216) rfl)) rfl
theorem wnX12_clear : Cond.instanceMethod yX12_clear ∈ gG := gG_in (tin4 (List.mem_of_getElem? (i := 214) rfl)) rfl
theorem wsX12_clear : Cond.selects RX12 yX12_clear yX12_clear ∈ gG := gG_in (tin4 (List.mem_of_getElem? (i := 215) rfl)) rfl
theorem wcX12_byteAt : Cond.code yX12_byteAt cX12_byteAt 2 (some .int) ∈ gG := gG_in (tin4 (List.mem_of_getElem? (i := 232) rfl)) rfl
theorem wnX12_byteAt : Cond.instanceMethod yX12_byteAt ∈ gG := gG_in (tin4 (List.mem_of_getElem? (i := 231) rfl)) rfl
theorem wsX12_byteAt : Cond.selects RX12 yX12_byteAt yX12_byteAt ∈ gG := gG_in (tinp (List.mem_of_getElem? (i := 32) rfl)) rfl
theorem wfX12_117 : Cond.fieldLink RX12 117 (TX12 12).1 (TX12 12).2.1 (TX12 12).2.2.1 ∈ gG := gG_in (tin4 (List.mem_of_getElem? (i := 54) rfl)) rfl
theorem wfX12_120 : Cond.fieldLink RX12 120 (TX12 15).1 (TX12 15).2.1 (TX12 15).2.2.1 ∈ gG := gG_in (tin4 (List.mem_of_getElem? (i := 57) rfl)) rfl
theorem wcX12_isWord : Cond.code yX12_isWord cX12_isWord 9 (some .boolean) ∈ gG := gG_in (tin4 (List.mem_of_getElem? (i := 238) rfl)) rfl
theorem wnX12_isWord : Cond.instanceMethod yX12_isWord ∈ gG := gG_in (tin4 (List.mem_of_getElem? (i := 237) rfl)) rfl
theorem wsX12_isWord : Cond.selects RX12 yX12_isWord yX12_isWord ∈ gG := gG_in (tinp (List.mem_of_getElem? (i := 33) rfl)) rfl
theorem wmX12_123 : Cond.methodLink RX12 123 yX12_byteAt ∈ gG := gG_in (tin4 (List.mem_of_getElem? (i := 229) rfl)) rfl
theorem wfX12_127 : Cond.fieldLink RX12 127 (TX12 13).1 (TX12 13).2.1 (TX12 13).2.2.1 ∈ gG := gG_in (tin4 (List.mem_of_getElem? (i := 55) rfl)) rfl
theorem wfX12_130 : Cond.fieldLink RX12 130 (TX12 14).1 (TX12 14).2.1 (TX12 14).2.2.1 ∈ gG := gG_in (tin4 (List.mem_of_getElem? (i := 56) rfl)) rfl
theorem wlX12_133 : Cond.constantLong RX12 133 97 ∈ gG := gG_in (tin4 (List.mem_of_getElem? (i := 233) rfl)) rfl
theorem wlX12_135 : Cond.constantLong RX12 135 122 ∈ gG := gG_in (tin4 (List.mem_of_getElem? (i := 234) rfl)) rfl
theorem wlX12_141 : Cond.constantLong RX12 141 48 ∈ gG := gG_in (tin4 (List.mem_of_getElem? (i := 239) rfl)) rfl
theorem wlX12_143 : Cond.constantLong RX12 143 57 ∈ gG := gG_in (tin5 (List.mem_of_getElem? (i := 0) rfl)) rfl
theorem wmX12_137 : Cond.methodLink RX12 137 yX12_isWord ∈ gG := gG_in (tin4 (List.mem_of_getElem? (i := 235) rfl)) rfl
theorem wcX12_nextToken : Cond.code yX12_nextToken cX12_nextToken 1 none ∈ gG := gG_in (tin4 (List.mem_of_getElem? (i := 228) rfl)) rfl
theorem wnX12_nextToken : Cond.instanceMethod yX12_nextToken ∈ gG := gG_in (tin4 (List.mem_of_getElem? (i := 227) rfl)) rfl
theorem wsX12_nextToken : Cond.selects RX12 yX12_nextToken yX12_nextToken ∈ gG := gG_in (tinp (List.mem_of_getElem? (i := 31) rfl)) rfl
theorem wmX12_145 : Cond.methodLink RX12 145 yX12_nextToken ∈ gG := gG_in (tin4 (List.mem_of_getElem? (i := 225) rfl)) rfl
theorem wcX12_number : Cond.code yX12_number cX12_number 3 (some .boolean) ∈ gG := gG_in (tin5 (List.mem_of_getElem? (i := 4) rfl)) rfl
theorem wnX12_number : Cond.instanceMethod yX12_number ∈ gG := gG_in (tin5 (List.mem_of_getElem? (i := 3) rfl)) rfl
theorem wsX12_number : Cond.selects RX12 yX12_number yX12_number ∈ gG := gG_in (tinp (List.mem_of_getElem? (i := 34) rfl)) rfl
theorem wmX12_148 : Cond.methodLink RX12 148 yX12_number ∈ gG := gG_in (tin5 (List.mem_of_getElem? (i := 1) rfl)) rfl
theorem wfX12_33 : Cond.fieldLink RX12 33 (TX12 16).1 (TX12 16).2.1 (TX12 16).2.2.1 ∈ gG := gG_in (tin4 (List.mem_of_getElem? (i := 58) rfl)) rfl
theorem wlX12_151 : Cond.constantLong RX12 151 11 ∈ gG := gG_in (tin5 (List.mem_of_getElem? (i := 9) rfl)) rfl
theorem wcX12_readNote : Cond.code yX12_readNote cX12_readNote 4 (some .boolean) ∈ gG := gG_in (tin5 (List.mem_of_getElem? (i := 8) rfl)) rfl
theorem wnX12_readNote : Cond.instanceMethod yX12_readNote ∈ gG := gG_in (tin5 (List.mem_of_getElem? (i := 7) rfl)) rfl
theorem wsX12_readNote : Cond.selects RX12 yX12_readNote yX12_readNote ∈ gG := gG_in (tinp (List.mem_of_getElem? (i := 35) rfl)) rfl
theorem wfX12_153 : Cond.fieldLink RX12 153 (TX12 17).1 (TX12 17).2.1 (TX12 17).2.2.1 ∈ gG := gG_in (tin4 (List.mem_of_getElem? (i := 59) rfl)) rfl
theorem wfX12_156 : Cond.fieldLink RX12 156 (TX12 19).1 (TX12 19).2.1 (TX12 19).2.2.1 ∈ gG := gG_in (tin4 (List.mem_of_getElem? (i := 61) rfl)) rfl
theorem wfX12_159 : Cond.fieldLink RX12 159 (TX12 20).1 (TX12 20).2.1 (TX12 20).2.2.1 ∈ gG := gG_in (tin4 (List.mem_of_getElem? (i := 62) rfl)) rfl
theorem wfX12_162 : Cond.fieldLink RX12 162 (TX12 18).1 (TX12 18).2.1 (TX12 18).2.2.1 ∈ gG := gG_in (tin4 (List.mem_of_getElem? (i := 60) rfl)) rfl
theorem wmX12_165 : Cond.methodLink RX12 165 yX12_readNote ∈ gG := gG_in (tin5 (List.mem_of_getElem? (i := 5) rfl)) rfl
theorem wcX12_readPad : Cond.code yX12_readPad cX12_readPad 4 (some .boolean) ∈ gG := gG_in (tin4 (List.mem_of_getElem? (i := 224) rfl)) rfl
theorem wnX12_readPad : Cond.instanceMethod yX12_readPad ∈ gG := gG_in (tin4 (List.mem_of_getElem? (i := 223) rfl)) rfl
theorem wsX12_readPad : Cond.selects RX12 yX12_readPad yX12_readPad ∈ gG := gG_in (tinp (List.mem_of_getElem? (i := 30) rfl)) rfl
theorem wmX12_168 : Cond.methodLink RX12 168 yX12_readPad ∈ gG := gG_in (tin4 (List.mem_of_getElem? (i := 221) rfl)) rfl
theorem wcX12_read : Cond.code yX12_read cX12_read 3 (some .int) ∈ gG := gG_in (tin4 (List.mem_of_getElem? (i := 220) rfl)) rfl
theorem wnX12_read : Cond.instanceMethod yX12_read ∈ gG := gG_in (tin4 (List.mem_of_getElem? (i := 218) rfl)) rfl
theorem wsX12_read : Cond.selects RX12 yX12_read yX12_read ∈ gG := gG_in (tin4 (List.mem_of_getElem? (i := 219) rfl)) rfl
theorem wcX12_writtenOn : Cond.code yX12_writtenOn cX12_writtenOn 4 (some .int) ∈ gG := gG_in (tin5 (List.mem_of_getElem? (i := 25) rfl)) rfl
theorem wnX12_writtenOn : Cond.instanceMethod yX12_writtenOn ∈ gG := gG_in (tin5 (List.mem_of_getElem? (i := 24) rfl)) rfl
theorem wsX12_writtenOn : Cond.selects RX12 yX12_writtenOn yX12_writtenOn ∈ gG := gG_in (tinp (List.mem_of_getElem? (i := 38) rfl)) rfl
theorem wmX12_172 : Cond.methodLink RX12 172 yX12_isSheet ∈ gG := gG_in (tin5 (List.mem_of_getElem? (i := 14) rfl)) rfl
theorem wmX12_178 : Cond.methodLink RX12 178 yX12_writtenOn ∈ gG := gG_in (tin5 (List.mem_of_getElem? (i := 22) rfl)) rfl
theorem wmX12_175 : Cond.methodLink RX12 175 yX12_badLess ∈ gG := gG_in (tin5 (List.mem_of_getElem? (i := 18) rfl)) rfl
theorem wcX12_of : Cond.code yX12_of cX12_of 3 (some .int) ∈ gG := gG_in (tin5 (List.mem_of_getElem? (i := 13) rfl)) rfl
theorem wnX12_of : Cond.instanceMethod yX12_of ∈ gG := gG_in (tin5 (List.mem_of_getElem? (i := 11) rfl)) rfl
theorem wsX12_of : Cond.selects RX12 yX12_of yX12_of ∈ gG := gG_in (tin5 (List.mem_of_getElem? (i := 12) rfl)) rfl
theorem wcX12_dentOf : Cond.code yX12_dentOf cX12_dentOf 3 (some .int) ∈ gG := gG_in (tin5 (List.mem_of_getElem? (i := 33) rfl)) rfl
theorem wnX12_dentOf : Cond.instanceMethod yX12_dentOf ∈ gG := gG_in (tin5 (List.mem_of_getElem? (i := 32) rfl)) rfl
theorem wsX12_dentOf : Cond.selects RX12 yX12_dentOf yX12_dentOf ∈ gG := gG_in (tinp (List.mem_of_getElem? (i := 39) rfl)) rfl
theorem wmX12_181 : Cond.methodLink RX12 181 yX12_dentOf ∈ gG := gG_in (tin5 (List.mem_of_getElem? (i := 30) rfl)) rfl
theorem wcX12_dent : Cond.code yX12_dent cX12_dent 3 (some .int) ∈ gG := gG_in (tin5 (List.mem_of_getElem? (i := 29) rfl)) rfl
theorem wnX12_dent : Cond.instanceMethod yX12_dent ∈ gG := gG_in (tin5 (List.mem_of_getElem? (i := 27) rfl)) rfl
theorem wsX12_dent : Cond.selects RX12 yX12_dent yX12_dent ∈ gG := gG_in (tin5 (List.mem_of_getElem? (i := 28) rfl)) rfl
theorem wcX12_about : Cond.code yX12_about cX12_about 4 (some .int) ∈ gG := gG_in (tin5 (List.mem_of_getElem? (i := 37) rfl)) rfl
theorem wnX12_about : Cond.instanceMethod yX12_about ∈ gG := gG_in (tin5 (List.mem_of_getElem? (i := 35) rfl)) rfl
theorem wsX12_about : Cond.selects RX12 yX12_about yX12_about ∈ gG := gG_in (tin5 (List.mem_of_getElem? (i := 36) rfl)) rfl
theorem wcX12_force : Cond.code yX12_force cX12_force 4 (some .int) ∈ gG := gG_in (tin5 (List.mem_of_getElem? (i := 41) rfl)) rfl
theorem wnX12_force : Cond.instanceMethod yX12_force ∈ gG := gG_in (tin5 (List.mem_of_getElem? (i := 39) rfl)) rfl
theorem wsX12_force : Cond.selects RX12 yX12_force yX12_force ∈ gG := gG_in (tin5 (List.mem_of_getElem? (i := 40) rfl)) rfl
theorem wcX12_forceIn : Cond.code yX12_forceIn cX12_forceIn 6 (some .int) ∈ gG := gG_in (tin5 (List.mem_of_getElem? (i := 53) rfl)) rfl
theorem wnX12_forceIn : Cond.instanceMethod yX12_forceIn ∈ gG := gG_in (tin5 (List.mem_of_getElem? (i := 52) rfl)) rfl
theorem wsX12_forceIn : Cond.selects RX12 yX12_forceIn yX12_forceIn ∈ gG := gG_in (tinp (List.mem_of_getElem? (i := 41) rfl)) rfl
theorem wmX12_184 : Cond.methodLink RX12 184 yX12_forceIn ∈ gG := gG_in (tin5 (List.mem_of_getElem? (i := 50) rfl)) rfl
theorem wcX12_whoseOf : Cond.code yX12_whoseOf cX12_whoseOf 4 (some .int) ∈ gG := gG_in (tin5 (List.mem_of_getElem? (i := 49) rfl)) rfl
theorem wnX12_whoseOf : Cond.instanceMethod yX12_whoseOf ∈ gG := gG_in (tin5 (List.mem_of_getElem? (i := 48) rfl)) rfl
theorem wsX12_whoseOf : Cond.selects RX12 yX12_whoseOf yX12_whoseOf ∈ gG := gG_in (tinp (List.mem_of_getElem? (i := 40) rfl)) rfl
theorem wmX12_187 : Cond.methodLink RX12 187 yX12_whoseOf ∈ gG := gG_in (tin5 (List.mem_of_getElem? (i := 46) rfl)) rfl
theorem wcX12_whose : Cond.code yX12_whose cX12_whose 2 (some .int) ∈ gG := gG_in (tin5 (List.mem_of_getElem? (i := 45) rfl)) rfl
theorem wnX12_whose : Cond.instanceMethod yX12_whose ∈ gG := gG_in (tin5 (List.mem_of_getElem? (i := 43) rfl)) rfl
theorem wsX12_whose : Cond.selects RX12 yX12_whose yX12_whose ∈ gG := gG_in (tin5 (List.mem_of_getElem? (i := 44) rfl)) rfl
theorem wcX12_own : Cond.code yX12_own cX12_own 7 (some .int) ∈ gG := gG_in (tin5 (List.mem_of_getElem? (i := 57) rfl)) rfl
theorem wnX12_own : Cond.instanceMethod yX12_own ∈ gG := gG_in (tin5 (List.mem_of_getElem? (i := 55) rfl)) rfl
theorem wsX12_own : Cond.selects RX12 yX12_own yX12_own ∈ gG := gG_in (tin5 (List.mem_of_getElem? (i := 56) rfl)) rfl
theorem wcX12_shown : Cond.code yX12_shown cX12_shown 5 (some .int) ∈ gG := gG_in (tin5 (List.mem_of_getElem? (i := 61) rfl)) rfl
theorem wnX12_shown : Cond.instanceMethod yX12_shown ∈ gG := gG_in (tin5 (List.mem_of_getElem? (i := 59) rfl)) rfl
theorem wsX12_shown : Cond.selects RX12 yX12_shown yX12_shown ∈ gG := gG_in (tin5 (List.mem_of_getElem? (i := 60) rfl)) rfl
theorem wcX12_explained : Cond.code yX12_explained cX12_explained 7 (some .int) ∈ gG := gG_in (tin5 (List.mem_of_getElem? (i := 78) rfl)) rfl
theorem wnX12_explained : Cond.instanceMethod yX12_explained ∈ gG := gG_in (tin5 (List.mem_of_getElem? (i := 77) rfl)) rfl
theorem wsX12_explained : Cond.selects RX12 yX12_explained yX12_explained ∈ gG := gG_in (tinp (List.mem_of_getElem? (i := 44) rfl)) rfl
theorem wfX12_190 : Cond.fieldLink RX12 190 (TX12 21).1 (TX12 21).2.1 (TX12 21).2.2.1 ∈ gG := gG_in (tin4 (List.mem_of_getElem? (i := 63) rfl)) rfl
theorem wfX12_193 : Cond.fieldLink RX12 193 (TX12 22).1 (TX12 22).2.1 (TX12 22).2.2.1 ∈ gG := gG_in (tin4 (List.mem_of_getElem? (i := 64) rfl)) rfl
theorem wmX12_196 : Cond.methodLink RX12 196 yX12_explained ∈ gG := gG_in (tin5 (List.mem_of_getElem? (i := 75) rfl)) rfl
theorem wcX12_isLost : Cond.code yX12_isLost cX12_isLost 8 (some .boolean) ∈ gG := gG_in (tin5 (List.mem_of_getElem? (i := 74) rfl)) rfl
theorem wnX12_isLost : Cond.instanceMethod yX12_isLost ∈ gG := gG_in (tin5 (List.mem_of_getElem? (i := 73) rfl)) rfl
theorem wsX12_isLost : Cond.selects RX12 yX12_isLost yX12_isLost ∈ gG := gG_in (tinp (List.mem_of_getElem? (i := 43) rfl)) rfl
theorem wcX12_fits : Cond.code yX12_fits cX12_fits 2 (some .boolean) ∈ gG := gG_in (tin5 (List.mem_of_getElem? (i := 82) rfl)) rfl
theorem wnX12_fits : Cond.instanceMethod yX12_fits ∈ gG := gG_in (tin5 (List.mem_of_getElem? (i := 81) rfl)) rfl
theorem wsX12_fits : Cond.selects RX12 yX12_fits yX12_fits ∈ gG := gG_in (tinp (List.mem_of_getElem? (i := 45) rfl)) rfl
theorem wmX12_199 : Cond.methodLink RX12 199 yX12_areNotes ∈ gG := gG_in (tin5 (List.mem_of_getElem? (i := 66) rfl)) rfl
theorem wlX12_202 : Cond.constantLong RX12 202 3 ∈ gG := gG_in (tin5 (List.mem_of_getElem? (i := 70) rfl)) rfl
theorem wmX12_204 : Cond.methodLink RX12 204 yX12_isLost ∈ gG := gG_in (tin5 (List.mem_of_getElem? (i := 71) rfl)) rfl
theorem wmX12_208 : Cond.methodLink RX12 208 yX12_fits ∈ gG := gG_in (tin5 (List.mem_of_getElem? (i := 79) rfl)) rfl
theorem wmX12_211 : Cond.methodLink RX12 211 yX12_ones ∈ gG := gG_in (tin5 (List.mem_of_getElem? (i := 83) rfl)) rfl
theorem wcX12_lost : Cond.code yX12_lost cX12_lost 10 (some .int) ∈ gG := gG_in (tin5 (List.mem_of_getElem? (i := 65) rfl)) rfl
theorem wnX12_lost : Cond.instanceMethod yX12_lost ∈ gG := gG_in (tin5 (List.mem_of_getElem? (i := 63) rfl)) rfl
theorem wsX12_lost : Cond.selects RX12 yX12_lost yX12_lost ∈ gG := gG_in (tin5 (List.mem_of_getElem? (i := 64) rfl)) rfl
theorem wcX12_pen : Cond.code yX12_pen cX12_pen 10 (some .int) ∈ gG := gG_in (tin5 (List.mem_of_getElem? (i := 89) rfl)) rfl
theorem wnX12_pen : Cond.instanceMethod yX12_pen ∈ gG := gG_in (tin5 (List.mem_of_getElem? (i := 87) rfl)) rfl
theorem wsX12_pen : Cond.selects RX12 yX12_pen yX12_pen ∈ gG := gG_in (tin5 (List.mem_of_getElem? (i := 88) rfl)) rfl
theorem wfX12_36 : Cond.fieldLink RX12 36 (TX12 23).1 (TX12 23).2.1 (TX12 23).2.2.1 ∈ gG := gG_in (tin4 (List.mem_of_getElem? (i := 65) rfl)) rfl
theorem wcX12_exchange : Cond.code yX12_exchange cX12_exchange 4 none ∈ gG := gG_in (tin5 (List.mem_of_getElem? (i := 109) rfl)) rfl
theorem wnX12_exchange : Cond.instanceMethod yX12_exchange ∈ gG := gG_in (tin5 (List.mem_of_getElem? (i := 108) rfl)) rfl
theorem wsX12_exchange : Cond.selects RX12 yX12_exchange yX12_exchange ∈ gG := gG_in (tinp (List.mem_of_getElem? (i := 49) rfl)) rfl
theorem wmX12_214 : Cond.methodLink RX12 214 yX12_exchange ∈ gG := gG_in (tin5 (List.mem_of_getElem? (i := 106) rfl)) rfl
theorem wcX12_nextRow : Cond.code yX12_nextRow cX12_nextRow 5 (some .boolean) ∈ gG := gG_in (tin5 (List.mem_of_getElem? (i := 105) rfl)) rfl
theorem wnX12_nextRow : Cond.instanceMethod yX12_nextRow ∈ gG := gG_in (tin5 (List.mem_of_getElem? (i := 104) rfl)) rfl
theorem wsX12_nextRow : Cond.selects RX12 yX12_nextRow yX12_nextRow ∈ gG := gG_in (tinp (List.mem_of_getElem? (i := 48) rfl)) rfl
theorem wcX12_placeOf : Cond.code yX12_placeOf cX12_placeOf 3 (some .int) ∈ gG := gG_in (tin5 (List.mem_of_getElem? (i := 101) rfl)) rfl
theorem wnX12_placeOf : Cond.instanceMethod yX12_placeOf ∈ gG := gG_in (tin5 (List.mem_of_getElem? (i := 100) rfl)) rfl
theorem wsX12_placeOf : Cond.selects RX12 yX12_placeOf yX12_placeOf ∈ gG := gG_in (tinp (List.mem_of_getElem? (i := 47) rfl)) rfl
theorem wmX12_218 : Cond.methodLink RX12 218 yX12_placeOf ∈ gG := gG_in (tin5 (List.mem_of_getElem? (i := 98) rfl)) rfl
theorem wcX12_isRow : Cond.code yX12_isRow cX12_isRow 8 (some .boolean) ∈ gG := gG_in (tin5 (List.mem_of_getElem? (i := 97) rfl)) rfl
theorem wnX12_isRow : Cond.instanceMethod yX12_isRow ∈ gG := gG_in (tin5 (List.mem_of_getElem? (i := 96) rfl)) rfl
theorem wsX12_isRow : Cond.selects RX12 yX12_isRow yX12_isRow ∈ gG := gG_in (tinp (List.mem_of_getElem? (i := 46) rfl)) rfl
theorem wmX12_221 : Cond.methodLink RX12 221 yX12_isRow ∈ gG := gG_in (tin5 (List.mem_of_getElem? (i := 94) rfl)) rfl
theorem wmX12_224 : Cond.methodLink RX12 224 yX12_nextRow ∈ gG := gG_in (tin5 (List.mem_of_getElem? (i := 102) rfl)) rfl
theorem wfX12_39 : Cond.fieldLink RX12 39 (TX12 24).1 (TX12 24).2.1 (TX12 24).2.2.1 ∈ gG := gG_in (tin4 (List.mem_of_getElem? (i := 66) rfl)) rfl
theorem wcX12_orders : Cond.code yX12_orders cX12_orders 5 (some .int) ∈ gG := gG_in (tin5 (List.mem_of_getElem? (i := 93) rfl)) rfl
theorem wnX12_orders : Cond.instanceMethod yX12_orders ∈ gG := gG_in (tin5 (List.mem_of_getElem? (i := 91) rfl)) rfl
theorem wsX12_orders : Cond.selects RX12 yX12_orders yX12_orders ∈ gG := gG_in (tin5 (List.mem_of_getElem? (i := 92) rfl)) rfl
theorem wcX12_press : Cond.code yX12_press cX12_press 4 (some .int) ∈ gG := gG_in (tin5 (List.mem_of_getElem? (i := 113) rfl)) rfl
theorem wnX12_press : Cond.instanceMethod yX12_press ∈ gG := gG_in (tin5 (List.mem_of_getElem? (i := 111) rfl)) rfl
theorem wsX12_press : Cond.selects RX12 yX12_press yX12_press ∈ gG := gG_in (tin5 (List.mem_of_getElem? (i := 112) rfl)) rfl
theorem wcX12_copies : Cond.code yX12_copies cX12_copies 9 (some .int) ∈ gG := gG_in (tin5 (List.mem_of_getElem? (i := 117) rfl)) rfl
theorem wnX12_copies : Cond.instanceMethod yX12_copies ∈ gG := gG_in (tin5 (List.mem_of_getElem? (i := 115) rfl)) rfl
theorem wsX12_copies : Cond.selects RX12 yX12_copies yX12_copies ∈ gG := gG_in (tin5 (List.mem_of_getElem? (i := 116) rfl)) rfl
theorem wcX12_common : Cond.code yX12_common cX12_common 10 (some .long) ∈ gG := gG_in (tin5 (List.mem_of_getElem? (i := 125) rfl)) rfl
theorem wtX12_common : Cond.static yX12_common ∈ gG := gG_in (tin5 (List.mem_of_getElem? (i := 124) rfl)) rfl
theorem wfX12_227 : Cond.fieldLink RX12 227 (TX12 7).1 (TX12 7).2.1 (TX12 7).2.2.1 ∈ gG := gG_in (tin4 (List.mem_of_getElem? (i := 49) rfl)) rfl
theorem wfX12_23 : Cond.fieldLink RX12 23 (TX12 8).1 (TX12 8).2.1 (TX12 8).2.2.1 ∈ gG := gG_in (tin4 (List.mem_of_getElem? (i := 50) rfl)) rfl
theorem wlX12_230 : Cond.constantLong RX12 230 10 ∈ gG := gG_in (tin5 (List.mem_of_getElem? (i := 122) rfl)) rfl
theorem wmX12_232 : Cond.methodLink RX12 232 yX12_common ∈ gG := gG_in (tin5 (List.mem_of_getElem? (i := 123) rfl)) rfl
theorem wcX12_rub : Cond.code yX12_rub cX12_rub 6 (some .int) ∈ gG := gG_in (tin5 (List.mem_of_getElem? (i := 121) rfl)) rfl
theorem wnX12_rub : Cond.instanceMethod yX12_rub ∈ gG := gG_in (tin5 (List.mem_of_getElem? (i := 119) rfl)) rfl
theorem wsX12_rub : Cond.selects RX12 yX12_rub yX12_rub ∈ gG := gG_in (tin5 (List.mem_of_getElem? (i := 120) rfl)) rfl
theorem wcX12_torn : Cond.code yX12_torn cX12_torn 3 (some .int) ∈ gG := gG_in (tin5 (List.mem_of_getElem? (i := 129) rfl)) rfl
theorem wnX12_torn : Cond.instanceMethod yX12_torn ∈ gG := gG_in (tin5 (List.mem_of_getElem? (i := 127) rfl)) rfl
theorem wsX12_torn : Cond.selects RX12 yX12_torn yX12_torn ∈ gG := gG_in (tin5 (List.mem_of_getElem? (i := 128) rfl)) rfl
theorem wfX12_236 : Cond.fieldLink RX12 236 (TX12 26).1 (TX12 26).2.1 (TX12 26).2.2.1 ∈ gG := gG_in (tin4 (List.mem_of_getElem? (i := 68) rfl)) rfl
theorem wlX12_239 : Cond.constantLong RX12 239 1103515245 ∈ gG := gG_in (tin5 (List.mem_of_getElem? (i := 140) rfl)) rfl
theorem wlX12_241 : Cond.constantLong RX12 241 12345 ∈ gG := gG_in (tin5 (List.mem_of_getElem? (i := 141) rfl)) rfl
theorem wlX12_243 : Cond.constantLong RX12 243 2147483648 ∈ gG := gG_in (tin5 (List.mem_of_getElem? (i := 142) rfl)) rfl
theorem wlX12_245 : Cond.constantLong RX12 245 65536 ∈ gG := gG_in (tin5 (List.mem_of_getElem? (i := 143) rfl)) rfl
theorem wcX12_draw : Cond.code yX12_draw cX12_draw 2 (some .int) ∈ gG := gG_in (tin5 (List.mem_of_getElem? (i := 139) rfl)) rfl
theorem wnX12_draw : Cond.instanceMethod yX12_draw ∈ gG := gG_in (tin5 (List.mem_of_getElem? (i := 138) rfl)) rfl
theorem wsX12_draw : Cond.selects RX12 yX12_draw yX12_draw ∈ gG := gG_in (tinp (List.mem_of_getElem? (i := 50) rfl)) rfl
theorem wlX12_247 : Cond.constantLong RX12 247 999999 ∈ gG := gG_in (tin5 (List.mem_of_getElem? (i := 134) rfl)) rfl
theorem wlX12_249 : Cond.constantLong RX12 249 20 ∈ gG := gG_in (tin5 (List.mem_of_getElem? (i := 135) rfl)) rfl
theorem wfX12_42 : Cond.fieldLink RX12 42 (TX12 25).1 (TX12 25).2.1 (TX12 25).2.2.1 ∈ gG := gG_in (tin4 (List.mem_of_getElem? (i := 67) rfl)) rfl
theorem wmX12_251 : Cond.methodLink RX12 251 yX12_draw ∈ gG := gG_in (tin5 (List.mem_of_getElem? (i := 136) rfl)) rfl
theorem wcX12_drawn : Cond.code yX12_drawn cX12_drawn 6 (some .int) ∈ gG := gG_in (tin5 (List.mem_of_getElem? (i := 133) rfl)) rfl
theorem wnX12_drawn : Cond.instanceMethod yX12_drawn ∈ gG := gG_in (tin5 (List.mem_of_getElem? (i := 131) rfl)) rfl
theorem wsX12_drawn : Cond.selects RX12 yX12_drawn yX12_drawn ∈ gG := gG_in (tin5 (List.mem_of_getElem? (i := 132) rfl)) rfl
theorem wcX12_part : Cond.code yX12_part cX12_part 2 (some .long) ∈ gG := gG_in (tin5 (List.mem_of_getElem? (i := 147) rfl)) rfl
theorem wnX12_part : Cond.instanceMethod yX12_part ∈ gG := gG_in (tin5 (List.mem_of_getElem? (i := 145) rfl)) rfl
theorem wsX12_part : Cond.selects RX12 yX12_part yX12_part ∈ gG := gG_in (tin5 (List.mem_of_getElem? (i := 146) rfl)) rfl
theorem wcX12_carry : Cond.code yX12_carry cX12_carry 7 none ∈ gG := gG_in (tin5 (List.mem_of_getElem? (i := 155) rfl)) rfl
theorem wnX12_carry : Cond.instanceMethod yX12_carry ∈ gG := gG_in (tin5 (List.mem_of_getElem? (i := 154) rfl)) rfl
theorem wsX12_carry : Cond.selects RX12 yX12_carry yX12_carry ∈ gG := gG_in (tinp (List.mem_of_getElem? (i := 51) rfl)) rfl
theorem wfX12_49 : Cond.fieldLink RX12 49 (TX12 28).1 (TX12 28).2.1 (TX12 28).2.2.1 ∈ gG := gG_in (tin4 (List.mem_of_getElem? (i := 70) rfl)) rfl
theorem wmX12_254 : Cond.methodLink RX12 254 yX12_carry ∈ gG := gG_in (tin5 (List.mem_of_getElem? (i := 152) rfl)) rfl
theorem wfX12_45 : Cond.fieldLink RX12 45 (TX12 27).1 (TX12 27).2.1 (TX12 27).2.2.1 ∈ gG := gG_in (tin4 (List.mem_of_getElem? (i := 69) rfl)) rfl
theorem wcX12_image : Cond.code yX12_image cX12_image 3 (some .int) ∈ gG := gG_in (tin5 (List.mem_of_getElem? (i := 151) rfl)) rfl
theorem wnX12_image : Cond.instanceMethod yX12_image ∈ gG := gG_in (tin5 (List.mem_of_getElem? (i := 149) rfl)) rfl
theorem wsX12_image : Cond.selects RX12 yX12_image yX12_image ∈ gG := gG_in (tin5 (List.mem_of_getElem? (i := 150) rfl)) rfl
theorem wcX12_from : Cond.code yX12_from cX12_from 3 (some .int) ∈ gG := gG_in (tin5 (List.mem_of_getElem? (i := 159) rfl)) rfl
theorem wnX12_from : Cond.instanceMethod yX12_from ∈ gG := gG_in (tin5 (List.mem_of_getElem? (i := 157) rfl)) rfl
theorem wsX12_from : Cond.selects RX12 yX12_from yX12_from ∈ gG := gG_in (tin5 (List.mem_of_getElem? (i := 158) rfl)) rfl
theorem wlX12_258 : Cond.constantLong RX12 258 2 ∈ gG := gG_in (tin5 (List.mem_of_getElem? (i := 164) rfl)) rfl
theorem wcX12_status : Cond.code yX12_status cX12_status 2 (some .int) ∈ gG := gG_in (tin5 (List.mem_of_getElem? (i := 163) rfl)) rfl
theorem wnX12_status : Cond.instanceMethod yX12_status ∈ gG := gG_in (tin5 (List.mem_of_getElem? (i := 161) rfl)) rfl
theorem wsX12_status : Cond.selects RX12 yX12_status yX12_status ∈ gG := gG_in (tin5 (List.mem_of_getElem? (i := 162) rfl)) rfl
theorem wcX12_countOf : Cond.code yX12_countOf cX12_countOf 2 (some .int) ∈ gG := gG_in (tin5 (List.mem_of_getElem? (i := 172) rfl)) rfl
theorem wnX12_countOf : Cond.instanceMethod yX12_countOf ∈ gG := gG_in (tin5 (List.mem_of_getElem? (i := 171) rfl)) rfl
theorem wsX12_countOf : Cond.selects RX12 yX12_countOf yX12_countOf ∈ gG := gG_in (tinp (List.mem_of_getElem? (i := 52) rfl)) rfl
theorem wmX12_260 : Cond.methodLink RX12 260 yX12_countOf ∈ gG := gG_in (tin5 (List.mem_of_getElem? (i := 169) rfl)) rfl
theorem wcX12_count : Cond.code yX12_count cX12_count 2 (some .int) ∈ gG := gG_in (tin5 (List.mem_of_getElem? (i := 168) rfl)) rfl
theorem wnX12_count : Cond.instanceMethod yX12_count ∈ gG := gG_in (tin5 (List.mem_of_getElem? (i := 166) rfl)) rfl
theorem wsX12_count : Cond.selects RX12 yX12_count yX12_count ∈ gG := gG_in (tin5 (List.mem_of_getElem? (i := 167) rfl)) rfl
theorem wlX12_263 : Cond.constantLong RX12 263 31 ∈ gG := gG_in (tin5 (List.mem_of_getElem? (i := 182) rfl)) rfl
theorem wfX12_265 : Cond.fieldLink RX12 265 (TX12 29).1 (TX12 29).2.1 (TX12 29).2.2.1 ∈ gG := gG_in (tin4 (List.mem_of_getElem? (i := 71) rfl)) rfl
theorem wcX12_mix : Cond.code yX12_mix cX12_mix 3 none ∈ gG := gG_in (tin5 (List.mem_of_getElem? (i := 181) rfl)) rfl
theorem wnX12_mix : Cond.instanceMethod yX12_mix ∈ gG := gG_in (tin5 (List.mem_of_getElem? (i := 180) rfl)) rfl
theorem wsX12_mix : Cond.selects RX12 yX12_mix yX12_mix ∈ gG := gG_in (tinp (List.mem_of_getElem? (i := 53) rfl)) rfl
theorem wlX12_268 : Cond.constantLong RX12 268 919 ∈ gG := gG_in (tin5 (List.mem_of_getElem? (i := 177) rfl)) rfl
theorem wmX12_270 : Cond.methodLink RX12 270 yX12_mix ∈ gG := gG_in (tin5 (List.mem_of_getElem? (i := 178) rfl)) rfl
theorem wcX12_digest : Cond.code yX12_digest cX12_digest 3 (some .long) ∈ gG := gG_in (tin5 (List.mem_of_getElem? (i := 176) rfl)) rfl
theorem wnX12_digest : Cond.instanceMethod yX12_digest ∈ gG := gG_in (tin5 (List.mem_of_getElem? (i := 174) rfl)) rfl
theorem wsX12_digest : Cond.selects RX12 yX12_digest yX12_digest ∈ gG := gG_in (tin5 (List.mem_of_getElem? (i := 175) rfl)) rfl
theorem wyX11_0 : Cond.laysFinal "PressedPad" "PressedPad" "box" "LPressedPad$PenBox;" ∈ gG := gG_in (tin1 (List.mem_of_getElem? (i := 231) rfl)) rfl
theorem wyX11_1 : Cond.laysFinal "PressedPad" "PressedPad" "now" "LPressedPad$Pad;" ∈ gG := gG_in (tin1 (List.mem_of_getElem? (i := 233) rfl)) rfl
theorem wyX11_2 : Cond.laysFinal "PressedPad" "PressedPad" "draft" "LPressedPad$Pad;" ∈ gG := gG_in (tin1 (List.mem_of_getElem? (i := 235) rfl)) rfl
theorem wyX11_3 : Cond.laysFinal "PressedPad" "PressedPad" "firstImage" "LPressedPad$Pad;" ∈ gG := gG_in (tin1 (List.mem_of_getElem? (i := 237) rfl)) rfl
theorem wyX11_4 : Cond.laysFinal "PressedPad" "PressedPad" "secondImage" "LPressedPad$Pad;" ∈ gG := gG_in (tin1 (List.mem_of_getElem? (i := 239) rfl)) rfl
theorem wyX11_5 : Cond.laysFinal "PressedPad" "PressedPad" "trace" "LPressedPad$Lost;" ∈ gG := gG_in (tin2 (List.mem_of_getElem? (i := 1) rfl)) rfl
theorem wyX11_6 : Cond.laysFinal "PressedPad" "PressedPad" "rows" "LPressedPad$Rows;" ∈ gG := gG_in (tin2 (List.mem_of_getElem? (i := 3) rfl)) rfl
theorem wyX11_7 : Cond.laysFinal "PressedPad" "PressedPad" "reader" "LPressedPad$Reader;" ∈ gG := gG_in (tin2 (List.mem_of_getElem? (i := 5) rfl)) rfl
theorem wyX11_8 : Cond.laysFinal "PressedPad" "PressedPad" "lastDents" "[I" ∈ gG := gG_in (tin2 (List.mem_of_getElem? (i := 7) rfl)) rfl
theorem wyX11_9 : Cond.lays "PressedPad" "PressedPad" "keptImages" "I" ∈ gG := gG_in (tin2 (List.mem_of_getElem? (i := 9) rfl)) rfl
theorem wyX11_10 : Cond.lays "PressedPad" "PressedPad" "above" "J" ∈ gG := gG_in (tin2 (List.mem_of_getElem? (i := 11) rfl)) rfl
theorem wyX11_11 : Cond.lays "PressedPad" "PressedPad" "below" "J" ∈ gG := gG_in (tin2 (List.mem_of_getElem? (i := 13) rfl)) rfl
theorem wyX11_12 : Cond.lays "PressedPad" "PressedPad" "badCalls" "I" ∈ gG := gG_in (tin2 (List.mem_of_getElem? (i := 15) rfl)) rfl
theorem wyX11_13 : Cond.lays "PressedPad" "PressedPad" "noCalls" "I" ∈ gG := gG_in (tin2 (List.mem_of_getElem? (i := 17) rfl)) rfl
theorem wyX11_14 : Cond.lays "PressedPad" "PressedPad" "fullCalls" "I" ∈ gG := gG_in (tin2 (List.mem_of_getElem? (i := 19) rfl)) rfl
theorem wyX12_0 : Cond.lays "PressedPadModel" "PressedPadModel" "sheets" "I" ∈ gG := gG_in (tin4 (List.mem_of_getElem? (i := 72) rfl)) rfl
theorem wyX12_1 : Cond.lays "PressedPadModel" "PressedPadModel" "carbons" "I" ∈ gG := gG_in (tin4 (List.mem_of_getElem? (i := 74) rfl)) rfl
theorem wyX12_2 : Cond.laysFinal "PressedPadModel" "PressedPadModel" "words" "[I" ∈ gG := gG_in (tin4 (List.mem_of_getElem? (i := 76) rfl)) rfl
theorem wyX12_3 : Cond.lays "PressedPadModel" "PressedPadModel" "wordMany" "I" ∈ gG := gG_in (tin4 (List.mem_of_getElem? (i := 78) rfl)) rfl
theorem wyX12_4 : Cond.laysFinal "PressedPadModel" "PressedPadModel" "st" "[I" ∈ gG := gG_in (tin4 (List.mem_of_getElem? (i := 80) rfl)) rfl
theorem wyX12_5 : Cond.laysFinal "PressedPadModel" "PressedPadModel" "ahead" "[I" ∈ gG := gG_in (tin4 (List.mem_of_getElem? (i := 82) rfl)) rfl
theorem wyX12_6 : Cond.lays "PressedPadModel" "PressedPadModel" "undoMany" "I" ∈ gG := gG_in (tin4 (List.mem_of_getElem? (i := 84) rfl)) rfl
theorem wyX12_7 : Cond.lays "PressedPadModel" "PressedPadModel" "above" "J" ∈ gG := gG_in (tin4 (List.mem_of_getElem? (i := 86) rfl)) rfl
theorem wyX12_8 : Cond.lays "PressedPadModel" "PressedPadModel" "below" "J" ∈ gG := gG_in (tin4 (List.mem_of_getElem? (i := 88) rfl)) rfl
theorem wyX12_9 : Cond.laysFinal "PressedPadModel" "PressedPadModel" "refused" "[I" ∈ gG := gG_in (tin4 (List.mem_of_getElem? (i := 90) rfl)) rfl
theorem wyX12_10 : Cond.laysFinal "PressedPadModel" "PressedPadModel" "text" "[I" ∈ gG := gG_in (tin4 (List.mem_of_getElem? (i := 92) rfl)) rfl
theorem wyX12_11 : Cond.lays "PressedPadModel" "PressedPadModel" "bytes" "I" ∈ gG := gG_in (tin4 (List.mem_of_getElem? (i := 94) rfl)) rfl
theorem wyX12_12 : Cond.lays "PressedPadModel" "PressedPadModel" "place" "I" ∈ gG := gG_in (tin4 (List.mem_of_getElem? (i := 96) rfl)) rfl
theorem wyX12_13 : Cond.lays "PressedPadModel" "PressedPadModel" "token" "I" ∈ gG := gG_in (tin4 (List.mem_of_getElem? (i := 98) rfl)) rfl
theorem wyX12_14 : Cond.lays "PressedPadModel" "PressedPadModel" "value" "I" ∈ gG := gG_in (tin4 (List.mem_of_getElem? (i := 100) rfl)) rfl
theorem wyX12_15 : Cond.lays "PressedPadModel" "PressedPadModel" "begins" "I" ∈ gG := gG_in (tin4 (List.mem_of_getElem? (i := 102) rfl)) rfl
theorem wyX12_16 : Cond.laysFinal "PressedPadModel" "PressedPadModel" "read" "[I" ∈ gG := gG_in (tin4 (List.mem_of_getElem? (i := 104) rfl)) rfl
theorem wyX12_17 : Cond.lays "PressedPadModel" "PressedPadModel" "items" "I" ∈ gG := gG_in (tin4 (List.mem_of_getElem? (i := 106) rfl)) rfl
theorem wyX12_18 : Cond.lays "PressedPadModel" "PressedPadModel" "readSheets" "I" ∈ gG := gG_in (tin4 (List.mem_of_getElem? (i := 108) rfl)) rfl
theorem wyX12_19 : Cond.lays "PressedPadModel" "PressedPadModel" "readTorn" "I" ∈ gG := gG_in (tin4 (List.mem_of_getElem? (i := 110) rfl)) rfl
theorem wyX12_20 : Cond.lays "PressedPadModel" "PressedPadModel" "readNotes" "I" ∈ gG := gG_in (tin4 (List.mem_of_getElem? (i := 112) rfl)) rfl
theorem wyX12_21 : Cond.lays "PressedPadModel" "PressedPadModel" "must" "I" ∈ gG := gG_in (tin4 (List.mem_of_getElem? (i := 114) rfl)) rfl
theorem wyX12_22 : Cond.lays "PressedPadModel" "PressedPadModel" "may" "I" ∈ gG := gG_in (tin4 (List.mem_of_getElem? (i := 116) rfl)) rfl
theorem wyX12_23 : Cond.laysFinal "PressedPadModel" "PressedPadModel" "row" "[I" ∈ gG := gG_in (tin4 (List.mem_of_getElem? (i := 118) rfl)) rfl
theorem wyX12_24 : Cond.laysFinal "PressedPadModel" "PressedPadModel" "firstRow" "[I" ∈ gG := gG_in (tin4 (List.mem_of_getElem? (i := 120) rfl)) rfl
theorem wyX12_25 : Cond.laysFinal "PressedPadModel" "PressedPadModel" "aside" "[I" ∈ gG := gG_in (tin4 (List.mem_of_getElem? (i := 122) rfl)) rfl
theorem wyX12_26 : Cond.lays "PressedPadModel" "PressedPadModel" "drawn" "J" ∈ gG := gG_in (tin4 (List.mem_of_getElem? (i := 124) rfl)) rfl
theorem wyX12_27 : Cond.laysFinal "PressedPadModel" "PressedPadModel" "isKept" "[Z" ∈ gG := gG_in (tin4 (List.mem_of_getElem? (i := 126) rfl)) rfl
theorem wyX12_28 : Cond.laysFinal "PressedPadModel" "PressedPadModel" "kept" "[I" ∈ gG := gG_in (tin4 (List.mem_of_getElem? (i := 128) rfl)) rfl
theorem wyX12_29 : Cond.lays "PressedPadModel" "PressedPadModel" "sum" "J" ∈ gG := gG_in (tin4 (List.mem_of_getElem? (i := 130) rfl)) rfl
theorem wyX2_0 : Cond.laysFinal "PressedPad$Lost" "PressedPad$Lost" "seen" "[I" ∈ gG := gG_in (tin1 (List.mem_of_getElem? (i := 152) rfl)) rfl
theorem wyX2_1 : Cond.laysFinal "PressedPad$Lost" "PressedPad$Lost" "explained" "[I" ∈ gG := gG_in (tin1 (List.mem_of_getElem? (i := 154) rfl)) rfl
theorem wyX2_2 : Cond.lays "PressedPad$Lost" "PressedPad$Lost" "must" "I" ∈ gG := gG_in (tin1 (List.mem_of_getElem? (i := 156) rfl)) rfl
theorem wyX2_3 : Cond.lays "PressedPad$Lost" "PressedPad$Lost" "may" "I" ∈ gG := gG_in (tin1 (List.mem_of_getElem? (i := 158) rfl)) rfl
theorem wyX4_0 : Cond.laysFinal "PressedPad$Pad" "PressedPad$Pad" "page" "[I" ∈ gG := gG_in (tin1 (List.mem_of_getElem? (i := 114) rfl)) rfl
theorem wyX4_1 : Cond.laysFinal "PressedPad$Pad" "PressedPad$Pad" "earlier" "[I" ∈ gG := gG_in (tin1 (List.mem_of_getElem? (i := 116) rfl)) rfl
theorem wyX4_2 : Cond.lays "PressedPad$Pad" "PressedPad$Pad" "undoable" "I" ∈ gG := gG_in (tin1 (List.mem_of_getElem? (i := 118) rfl)) rfl
theorem wyX4_3 : Cond.lays "PressedPad$Pad" "PressedPad$Pad" "sheets" "I" ∈ gG := gG_in (tin1 (List.mem_of_getElem? (i := 120) rfl)) rfl
theorem wyX4_4 : Cond.lays "PressedPad$Pad" "PressedPad$Pad" "carbonBits" "I" ∈ gG := gG_in (tin1 (List.mem_of_getElem? (i := 122) rfl)) rfl
theorem wyX4_5 : Cond.laysFinal "PressedPad$Pad" "PressedPad$Pad" "noteKind" "[I" ∈ gG := gG_in (tin1 (List.mem_of_getElem? (i := 124) rfl)) rfl
theorem wyX4_6 : Cond.laysFinal "PressedPad$Pad" "PressedPad$Pad" "notePress" "[I" ∈ gG := gG_in (tin1 (List.mem_of_getElem? (i := 126) rfl)) rfl
theorem wyX4_7 : Cond.laysFinal "PressedPad$Pad" "PressedPad$Pad" "noteCells" "[I" ∈ gG := gG_in (tin1 (List.mem_of_getElem? (i := 128) rfl)) rfl
theorem wyX4_8 : Cond.laysFinal "PressedPad$Pad" "PressedPad$Pad" "noteSheet" "[I" ∈ gG := gG_in (tin1 (List.mem_of_getElem? (i := 130) rfl)) rfl
theorem wyX4_9 : Cond.laysFinal "PressedPad$Pad" "PressedPad$Pad" "noteForces" "[I" ∈ gG := gG_in (tin1 (List.mem_of_getElem? (i := 132) rfl)) rfl
theorem wyX4_10 : Cond.laysFinal "PressedPad$Pad" "PressedPad$Pad" "words" "[I" ∈ gG := gG_in (tin1 (List.mem_of_getElem? (i := 134) rfl)) rfl
theorem wyX4_11 : Cond.lays "PressedPad$Pad" "PressedPad$Pad" "wordCount" "I" ∈ gG := gG_in (tin1 (List.mem_of_getElem? (i := 136) rfl)) rfl
theorem wyX7_0 : Cond.laysFinal "PressedPad$Reader" "PressedPad$Reader" "text" "[I" ∈ gG := gG_in (tin1 (List.mem_of_getElem? (i := 199) rfl)) rfl
theorem wyX7_1 : Cond.lays "PressedPad$Reader" "PressedPad$Reader" "length" "I" ∈ gG := gG_in (tin1 (List.mem_of_getElem? (i := 201) rfl)) rfl
theorem wyX7_2 : Cond.lays "PressedPad$Reader" "PressedPad$Reader" "next" "I" ∈ gG := gG_in (tin1 (List.mem_of_getElem? (i := 203) rfl)) rfl
theorem wyX7_3 : Cond.lays "PressedPad$Reader" "PressedPad$Reader" "token" "I" ∈ gG := gG_in (tin1 (List.mem_of_getElem? (i := 205) rfl)) rfl
theorem wyX7_4 : Cond.lays "PressedPad$Reader" "PressedPad$Reader" "start" "I" ∈ gG := gG_in (tin1 (List.mem_of_getElem? (i := 207) rfl)) rfl
theorem wyX7_5 : Cond.lays "PressedPad$Reader" "PressedPad$Reader" "value" "I" ∈ gG := gG_in (tin1 (List.mem_of_getElem? (i := 209) rfl)) rfl
theorem wyX7_6 : Cond.lays "PressedPad$Reader" "PressedPad$Reader" "kind" "I" ∈ gG := gG_in (tin1 (List.mem_of_getElem? (i := 211) rfl)) rfl
theorem wyX7_7 : Cond.lays "PressedPad$Reader" "PressedPad$Reader" "press" "I" ∈ gG := gG_in (tin1 (List.mem_of_getElem? (i := 213) rfl)) rfl
theorem wyX8_0 : Cond.laysFinal "PressedPad$Rows" "PressedPad$Rows" "row" "[I" ∈ gG := gG_in (tin1 (List.mem_of_getElem? (i := 172) rfl)) rfl
theorem wyX8_1 : Cond.laysFinal "PressedPad$Rows" "PressedPad$Rows" "placeOf" "[I" ∈ gG := gG_in (tin1 (List.mem_of_getElem? (i := 174) rfl)) rfl
theorem wyX8_2 : Cond.laysFinal "PressedPad$Rows" "PressedPad$Rows" "shownAt" "[I" ∈ gG := gG_in (tin1 (List.mem_of_getElem? (i := 176) rfl)) rfl
theorem wyX8_3 : Cond.laysFinal "PressedPad$Rows" "PressedPad$Rows" "pressed" "[I" ∈ gG := gG_in (tin1 (List.mem_of_getElem? (i := 178) rfl)) rfl
theorem wyX8_4 : Cond.lays "PressedPad$Rows" "PressedPad$Rows" "found" "I" ∈ gG := gG_in (tin1 (List.mem_of_getElem? (i := 180) rfl)) rfl
theorem cuX11 : ∀ w ∈ u_ws RX11 TX11 15, w ∈ gG := List.forall_mem_cons.mpr ⟨wyX11_0, List.forall_mem_cons.mpr ⟨wyX11_1, List.forall_mem_cons.mpr ⟨wyX11_2, List.forall_mem_cons.mpr ⟨wyX11_3, List.forall_mem_cons.mpr ⟨wyX11_4, List.forall_mem_cons.mpr ⟨wyX11_5, List.forall_mem_cons.mpr ⟨wyX11_6, List.forall_mem_cons.mpr ⟨wyX11_7, List.forall_mem_cons.mpr ⟨wyX11_8, List.forall_mem_cons.mpr ⟨wyX11_9, List.forall_mem_cons.mpr ⟨wyX11_10, List.forall_mem_cons.mpr ⟨wyX11_11, List.forall_mem_cons.mpr ⟨wyX11_12, List.forall_mem_cons.mpr ⟨wyX11_13, List.forall_mem_cons.mpr ⟨wyX11_14, fun _ h => absurd h List.not_mem_nil⟩⟩⟩⟩⟩⟩⟩⟩⟩⟩⟩⟩⟩⟩⟩
theorem cuX12 : ∀ w ∈ u_ws RX12 TX12 30, w ∈ gG := List.forall_mem_cons.mpr ⟨wyX12_0, List.forall_mem_cons.mpr ⟨wyX12_1, List.forall_mem_cons.mpr ⟨wyX12_2, List.forall_mem_cons.mpr ⟨wyX12_3, List.forall_mem_cons.mpr ⟨wyX12_4, List.forall_mem_cons.mpr ⟨wyX12_5, List.forall_mem_cons.mpr ⟨wyX12_6, List.forall_mem_cons.mpr ⟨wyX12_7, List.forall_mem_cons.mpr ⟨wyX12_8, List.forall_mem_cons.mpr ⟨wyX12_9, List.forall_mem_cons.mpr ⟨wyX12_10, List.forall_mem_cons.mpr ⟨wyX12_11, List.forall_mem_cons.mpr ⟨wyX12_12, List.forall_mem_cons.mpr ⟨wyX12_13, List.forall_mem_cons.mpr ⟨wyX12_14, List.forall_mem_cons.mpr ⟨wyX12_15, List.forall_mem_cons.mpr ⟨wyX12_16, List.forall_mem_cons.mpr ⟨wyX12_17, List.forall_mem_cons.mpr ⟨wyX12_18, List.forall_mem_cons.mpr ⟨wyX12_19, List.forall_mem_cons.mpr ⟨wyX12_20, List.forall_mem_cons.mpr ⟨wyX12_21, List.forall_mem_cons.mpr ⟨wyX12_22, List.forall_mem_cons.mpr ⟨wyX12_23, List.forall_mem_cons.mpr ⟨wyX12_24, List.forall_mem_cons.mpr ⟨wyX12_25, List.forall_mem_cons.mpr ⟨wyX12_26, List.forall_mem_cons.mpr ⟨wyX12_27, List.forall_mem_cons.mpr ⟨wyX12_28, List.forall_mem_cons.mpr ⟨wyX12_29, fun _ h => absurd h List.not_mem_nil⟩⟩⟩⟩⟩⟩⟩⟩⟩⟩⟩⟩⟩⟩⟩⟩⟩⟩⟩⟩⟩⟩⟩⟩⟩⟩⟩⟩⟩⟩
theorem cuX2 : ∀ w ∈ u_ws RX2 TX2 4, w ∈ gG := List.forall_mem_cons.mpr ⟨wyX2_0, List.forall_mem_cons.mpr ⟨wyX2_1, List.forall_mem_cons.mpr ⟨wyX2_2, List.forall_mem_cons.mpr ⟨wyX2_3, fun _ h => absurd h List.not_mem_nil⟩⟩⟩⟩
theorem cuX4 : ∀ w ∈ u_ws RX4 TX4 12, w ∈ gG := List.forall_mem_cons.mpr ⟨wyX4_0, List.forall_mem_cons.mpr ⟨wyX4_1, List.forall_mem_cons.mpr ⟨wyX4_2, List.forall_mem_cons.mpr ⟨wyX4_3, List.forall_mem_cons.mpr ⟨wyX4_4, List.forall_mem_cons.mpr ⟨wyX4_5, List.forall_mem_cons.mpr ⟨wyX4_6, List.forall_mem_cons.mpr ⟨wyX4_7, List.forall_mem_cons.mpr ⟨wyX4_8, List.forall_mem_cons.mpr ⟨wyX4_9, List.forall_mem_cons.mpr ⟨wyX4_10, List.forall_mem_cons.mpr ⟨wyX4_11, fun _ h => absurd h List.not_mem_nil⟩⟩⟩⟩⟩⟩⟩⟩⟩⟩⟩⟩
theorem cuX7 : ∀ w ∈ u_ws RX7 TX7 8, w ∈ gG := List.forall_mem_cons.mpr ⟨wyX7_0, List.forall_mem_cons.mpr ⟨wyX7_1, List.forall_mem_cons.mpr ⟨wyX7_2, List.forall_mem_cons.mpr ⟨wyX7_3, List.forall_mem_cons.mpr ⟨wyX7_4, List.forall_mem_cons.mpr ⟨wyX7_5, List.forall_mem_cons.mpr ⟨wyX7_6, List.forall_mem_cons.mpr ⟨wyX7_7, fun _ h => absurd h List.not_mem_nil⟩⟩⟩⟩⟩⟩⟩⟩
theorem cuX8 : ∀ w ∈ u_ws RX8 TX8 5, w ∈ gG := List.forall_mem_cons.mpr ⟨wyX8_0, List.forall_mem_cons.mpr ⟨wyX8_1, List.forall_mem_cons.mpr ⟨wyX8_2, List.forall_mem_cons.mpr ⟨wyX8_3, List.forall_mem_cons.mpr ⟨wyX8_4, fun _ h => absurd h List.not_mem_nil⟩⟩⟩⟩⟩
theorem cfX11 : CF RX11 TX11 15 tyX11 := ⟨cuX11, tyX11_ok, nmX11⟩
theorem cfX12 : CF RX12 TX12 30 tyX12 := ⟨cuX12, tyX12_ok, nmX12⟩
theorem cfX2 : CF RX2 TX2 4 tyX2 := ⟨cuX2, tyX2_ok, nmX2⟩
theorem cfX4 : CF RX4 TX4 12 tyX4 := ⟨cuX4, tyX4_ok, nmX4⟩
theorem cfX7 : CF RX7 TX7 8 tyX7 := ⟨cuX7, tyX7_ok, nmX7⟩
theorem cfX8 : CF RX8 TX8 5 tyX8 := ⟨cuX8, tyX8_ok, nmX8⟩
theorem mfX5_forceOf : MF yX5_forceOf cX5_forceOf 5 (some .int) 3 := ⟨wcX5_forceOf, wiX5, by decide +kernel⟩
theorem mvX5_forceOf : MFv yX5_forceOf RX5 := ⟨wnX5_forceOf, wsX5_forceOf⟩
theorem mfX5_hasInk : MF yX5_hasInk cX5_hasInk 3 (some .boolean) 1 := ⟨wcX5_hasInk, wiX5, by decide +kernel⟩
theorem mvX5_hasInk : MFv yX5_hasInk RX5 := ⟨wnX5_hasInk, wsX5_hasInk⟩
theorem mfX4_placeOf : MF yX4_placeOf cX4_placeOf 2 (some .int) 2 := ⟨wcX4_placeOf, wiX4, by decide +kernel⟩
theorem msX4_placeOf : Cond.static yX4_placeOf ∈ gG := wtX4_placeOf
theorem mfX4_dentOf : MF yX4_dentOf cX4_dentOf 3 (some .int) 2 := ⟨wcX4_dentOf, wiX4, by decide +kernel⟩
theorem mvX4_dentOf : MFv yX4_dentOf RX4 := ⟨wnX4_dentOf, wsX4_dentOf⟩
theorem mfX4_noteCount : MF yX4_noteCount cX4_noteCount 1 (some .int) 0 := ⟨wcX4_noteCount, wiX4, by decide +kernel⟩
theorem mvX4_noteCount : MFv yX4_noteCount RX4 := ⟨wnX4_noteCount, wsX4_noteCount⟩
theorem mfX4_forceDown : MF yX4_forceDown cX4_forceDown 3 (some .int) 2 := ⟨wcX4_forceDown, wiX4, by decide +kernel⟩
theorem mvX4_forceDown : MFv yX4_forceDown RX4 := ⟨wnX4_forceDown, wsX4_forceDown⟩
theorem mfX4_forceOn : MF yX4_forceOn cX4_forceOn 3 (some .int) 2 := ⟨wcX4_forceOn, wiX4, by decide +kernel⟩
theorem mvX4_forceOn : MFv yX4_forceOn RX4 := ⟨wnX4_forceOn, wsX4_forceOn⟩
theorem mfX11_dentInto : MF yX11_dentInto cX11_dentInto 6 none 4 := ⟨wcX11_dentInto, wiX11, by decide +kernel⟩
theorem msX11_dentInto : Cond.static yX11_dentInto ∈ gG := wtX11_dentInto
theorem mfX2_look : MF yX2_look cX2_look 5 none 3 := ⟨wcX2_look, wiX2, by decide +kernel⟩
theorem mvX2_look : MFv yX2_look RX2 := ⟨wnX2_look, wsX2_look⟩
theorem mfX2_guess : MF yX2_guess cX2_guess 4 (some .boolean) 1 := ⟨wcX2_guess, wiX2, by decide +kernel⟩
theorem mvX2_guess : MFv yX2_guess RX2 := ⟨wnX2_guess, wsX2_guess⟩
theorem mfX2_isFit : MF yX2_isFit cX2_isFit 2 (some .boolean) 1 := ⟨wcX2_isFit, wiX2, by decide +kernel⟩
theorem mvX2_isFit : MFv yX2_isFit RX2 := ⟨wnX2_isFit, wsX2_isFit⟩
theorem mfX4_beginAnew : MF yX4_beginAnew cX4_beginAnew 3 none 1 := ⟨wcX4_beginAnew, wiX4, by decide +kernel⟩
theorem mvX4_beginAnew : MFv yX4_beginAnew RX4 := ⟨wnX4_beginAnew, wsX4_beginAnew⟩
theorem mfX4_copyFrom : MF yX4_copyFrom cX4_copyFrom 2 none 1 := ⟨wcX4_copyFrom, wiX4, by decide +kernel⟩
theorem mvX4_copyFrom : MFv yX4_copyFrom RX4 := ⟨wnX4_copyFrom, wsX4_copyFrom⟩
theorem mfX4_keepForUndo : MF yX4_keepForUndo cX4_keepForUndo 1 none 0 := ⟨wcX4_keepForUndo, wiX4, by decide +kernel⟩
theorem mvX4_keepForUndo : MFv yX4_keepForUndo RX4 := ⟨wnX4_keepForUndo, wsX4_keepForUndo⟩
theorem mfX4_goBack : MF yX4_goBack cX4_goBack 1 none 0 := ⟨wcX4_goBack, wiX4, by decide +kernel⟩
theorem mvX4_goBack : MFv yX4_goBack RX4 := ⟨wnX4_goBack, wsX4_goBack⟩
theorem mfX4_top : MF yX4_top cX4_top 1 (some .int) 0 := ⟨wcX4_top, wiX4, by decide +kernel⟩
theorem mvX4_top : MFv yX4_top RX4 := ⟨wnX4_top, wsX4_top⟩
theorem mfX4_isUsedUp : MF yX4_isUsedUp cX4_isUsedUp 1 (some .boolean) 0 := ⟨wcX4_isUsedUp, wiX4, by decide +kernel⟩
theorem mvX4_isUsedUp : MFv yX4_isUsedUp RX4 := ⟨wnX4_isUsedUp, wsX4_isUsedUp⟩
theorem mfX4_hasSheet : MF yX4_hasSheet cX4_hasSheet 2 (some .boolean) 1 := ⟨wcX4_hasSheet, wiX4, by decide +kernel⟩
theorem mvX4_hasSheet : MFv yX4_hasSheet RX4 := ⟨wnX4_hasSheet, wsX4_hasSheet⟩
theorem mfX4_hasSheets : MF yX4_hasSheets cX4_hasSheets 2 (some .boolean) 1 := ⟨wcX4_hasSheets, wiX4, by decide +kernel⟩
theorem mvX4_hasSheets : MFv yX4_hasSheets RX4 := ⟨wnX4_hasSheets, wsX4_hasSheets⟩
theorem mfX4_hasNote : MF yX4_hasNote cX4_hasNote 2 (some .boolean) 1 := ⟨wcX4_hasNote, wiX4, by decide +kernel⟩
theorem mvX4_hasNote : MFv yX4_hasNote RX4 := ⟨wnX4_hasNote, wsX4_hasNote⟩
theorem mfX4_hasNotes : MF yX4_hasNotes cX4_hasNotes 2 (some .boolean) 1 := ⟨wcX4_hasNotes, wiX4, by decide +kernel⟩
theorem mvX4_hasNotes : MFv yX4_hasNotes RX4 := ⟨wnX4_hasNotes, wsX4_hasNotes⟩
theorem mfX4_inkOf : MF yX4_inkOf cX4_inkOf 2 (some .int) 1 := ⟨wcX4_inkOf, wiX4, by decide +kernel⟩
theorem mvX4_inkOf : MFv yX4_inkOf RX4 := ⟨wnX4_inkOf, wsX4_inkOf⟩
theorem mfX4_copyOf : MF yX4_copyOf cX4_copyOf 2 (some .int) 1 := ⟨wcX4_copyOf, wiX4, by decide +kernel⟩
theorem mvX4_copyOf : MFv yX4_copyOf RX4 := ⟨wnX4_copyOf, wsX4_copyOf⟩
theorem mfX4_tearTop : MF yX4_tearTop cX4_tearTop 1 (some .int) 0 := ⟨wcX4_tearTop, wiX4, by decide +kernel⟩
theorem mvX4_tearTop : MFv yX4_tearTop RX4 := ⟨wnX4_tearTop, wsX4_tearTop⟩
theorem mfX4_pressInto : MF yX4_pressInto cX4_pressInto 5 none 3 := ⟨wcX4_pressInto, wiX4, by decide +kernel⟩
theorem mvX4_pressInto : MFv yX4_pressInto RX4 := ⟨wnX4_pressInto, wsX4_pressInto⟩
theorem mfX4_putNote : MF yX4_putNote cX4_putNote 8 (some .int) 4 := ⟨wcX4_putNote, wiX4, by decide +kernel⟩
theorem mvX4_putNote : MFv yX4_putNote RX4 := ⟨wnX4_putNote, wsX4_putNote⟩
theorem mfX4_writtenOn : MF yX4_writtenOn cX4_writtenOn 4 (some .int) 1 := ⟨wcX4_writtenOn, wiX4, by decide +kernel⟩
theorem mvX4_writtenOn : MFv yX4_writtenOn RX4 := ⟨wnX4_writtenOn, wsX4_writtenOn⟩
theorem mfX4_cellsDented : MF yX4_cellsDented cX4_cellsDented 3 (some .int) 2 := ⟨wcX4_cellsDented, wiX4, by decide +kernel⟩
theorem mvX4_cellsDented : MFv yX4_cellsDented RX4 := ⟨wnX4_cellsDented, wsX4_cellsDented⟩
theorem mfX4_dentedBy : MF yX4_dentedBy cX4_dentedBy 4 (some .int) 1 := ⟨wcX4_dentedBy, wiX4, by decide +kernel⟩
theorem mvX4_dentedBy : MFv yX4_dentedBy RX4 := ⟨wnX4_dentedBy, wsX4_dentedBy⟩
theorem mfX4_dentedAtLeast : MF yX4_dentedAtLeast cX4_dentedAtLeast 5 (some .int) 2 := ⟨wcX4_dentedAtLeast, wiX4, by decide +kernel⟩
theorem mvX4_dentedAtLeast : MFv yX4_dentedAtLeast RX4 := ⟨wnX4_dentedAtLeast, wsX4_dentedAtLeast⟩
theorem mfX4_digestFrom : MF yX4_digestFrom cX4_digestFrom 7 (some .long) 1 := ⟨wcX4_digestFrom, wiX4, by decide +kernel⟩
theorem mvX4_digestFrom : MFv yX4_digestFrom RX4 := ⟨wnX4_digestFrom, wsX4_digestFrom⟩
theorem mfX7_fault : MF yX7_fault cX7_fault 1 (some .int) 0 := ⟨wcX7_fault, wiX7, by decide +kernel⟩
theorem mvX7_fault : MFv yX7_fault RX7 := ⟨wnX7_fault, wsX7_fault⟩
theorem mfX7_isWithin : MF yX7_isWithin cX7_isWithin 4 (some .boolean) 3 := ⟨wcX7_isWithin, wiX7, by decide +kernel⟩
theorem mvX7_isWithin : MFv yX7_isWithin RX7 := ⟨wnX7_isWithin, wsX7_isWithin⟩
theorem mfX7_passWord : MF yX7_passWord cX7_passWord 1 none 0 := ⟨wcX7_passWord, wiX7, by decide +kernel⟩
theorem mvX7_passWord : MFv yX7_passWord RX7 := ⟨wnX7_passWord, wsX7_passWord⟩
theorem mfX7_passFigures : MF yX7_passFigures cX7_passFigures 1 none 0 := ⟨wcX7_passFigures, wiX7, by decide +kernel⟩
theorem mvX7_passFigures : MFv yX7_passFigures RX7 := ⟨wnX7_passFigures, wsX7_passFigures⟩
theorem mfX7_step : MF yX7_step cX7_step 1 none 0 := ⟨wcX7_step, wiX7, by decide +kernel⟩
theorem mvX7_step : MFv yX7_step RX7 := ⟨wnX7_step, wsX7_step⟩
theorem mfX7_isWord : MF yX7_isWord cX7_isWord 3 (some .boolean) 1 := ⟨wcX7_isWord, wiX7, by decide +kernel⟩
theorem mvX7_isWord : MFv yX7_isWord RX7 := ⟨wnX7_isWord, wsX7_isWord⟩
theorem mfX7_isNumber : MF yX7_isNumber cX7_isNumber 3 (some .boolean) 2 := ⟨wcX7_isNumber, wiX7, by decide +kernel⟩
theorem mvX7_isNumber : MFv yX7_isNumber RX7 := ⟨wnX7_isNumber, wsX7_isNumber⟩
theorem mfX7_passStop : MF yX7_passStop cX7_passStop 1 (some .boolean) 0 := ⟨wcX7_passStop, wiX7, by decide +kernel⟩
theorem mvX7_passStop : MFv yX7_passStop RX7 := ⟨wnX7_passStop, wsX7_passStop⟩
theorem mfX7_readFirst : MF yX7_readFirst cX7_readFirst 2 (some .boolean) 1 := ⟨wcX7_readFirst, wiX7, by decide +kernel⟩
theorem mvX7_readFirst : MFv yX7_readFirst RX7 := ⟨wnX7_readFirst, wsX7_readFirst⟩
theorem mfX7_readCarbon : MF yX7_readCarbon cX7_readCarbon 2 (some .boolean) 1 := ⟨wcX7_readCarbon, wiX7, by decide +kernel⟩
theorem mvX7_readCarbon : MFv yX7_readCarbon RX7 := ⟨wnX7_readCarbon, wsX7_readCarbon⟩
theorem mfX7_readPen : MF yX7_readPen cX7_readPen 1 (some .boolean) 0 := ⟨wcX7_readPen, wiX7, by decide +kernel⟩
theorem mvX7_readPen : MFv yX7_readPen RX7 := ⟨wnX7_readPen, wsX7_readPen⟩
theorem mfX7_readCells : MF yX7_readCells cX7_readCells 4 (some .int) 0 := ⟨wcX7_readCells, wiX7, by decide +kernel⟩
theorem mvX7_readCells : MFv yX7_readCells RX7 := ⟨wnX7_readCells, wsX7_readCells⟩
theorem mfX7_readItem : MF yX7_readItem cX7_readItem 6 (some .boolean) 2 := ⟨wcX7_readItem, wiX7, by decide +kernel⟩
theorem mvX7_readItem : MFv yX7_readItem RX7 := ⟨wnX7_readItem, wsX7_readItem⟩
theorem mfX7_readInto : MF yX7_readInto cX7_readInto 5 (some .int) 2 := ⟨wcX7_readInto, wiX7, by decide +kernel⟩
theorem mvX7_readInto : MFv yX7_readInto RX7 := ⟨wnX7_readInto, wsX7_readInto⟩
theorem mfX8_sheetAt : MF yX8_sheetAt cX8_sheetAt 2 (some .int) 1 := ⟨wcX8_sheetAt, wiX8, by decide +kernel⟩
theorem mvX8_sheetAt : MFv yX8_sheetAt RX8 := ⟨wnX8_sheetAt, wsX8_sheetAt⟩
theorem mfX8_mayLie : MF yX8_mayLie cX8_mayLie 7 (some .boolean) 4 := ⟨wcX8_mayLie, wiX8, by decide +kernel⟩
theorem mvX8_mayLie : MFv yX8_mayLie RX8 := ⟨wnX8_mayLie, wsX8_mayLie⟩
theorem mfX8_layFrom : MF yX8_layFrom cX8_layFrom 6 none 4 := ⟨wcX8_layFrom, wiX8, by decide +kernel⟩
theorem mvX8_layFrom : MFv yX8_layFrom RX8 := ⟨wnX8_layFrom, wsX8_layFrom⟩
theorem mfX8_search : MF yX8_search cX8_search 5 (some .int) 2 := ⟨wcX8_search, wiX8, by decide +kernel⟩
theorem mvX8_search : MFv yX8_search RX8 := ⟨wnX8_search, wsX8_search⟩
theorem mfX11_bad : MF yX11_bad cX11_bad 2 (some .int) 1 := ⟨wcX11_bad, wiX11, by decide +kernel⟩
theorem mvX11_bad : MFv yX11_bad RX11 := ⟨wnX11_bad, wsX11_bad⟩
theorem mfX11_pad : MF yX11_pad cX11_pad 3 (some .int) 1 := ⟨wcX11_pad, wiX11, by decide +kernel⟩
theorem mvX11_pad : MFv yX11_pad RX11 := ⟨wnX11_pad, wsX11_pad⟩
theorem mfX11_carbons : MF yX11_carbons cX11_carbons 3 (some .int) 1 := ⟨wcX11_carbons, wiX11, by decide +kernel⟩
theorem mvX11_carbons : MFv yX11_carbons RX11 := ⟨wnX11_carbons, wsX11_carbons⟩
theorem mfX11_isPen : MF yX11_isPen cX11_isPen 2 (some .boolean) 2 := ⟨wcX11_isPen, wiX11, by decide +kernel⟩
theorem msX11_isPen : Cond.static yX11_isPen ∈ gG := wtX11_isPen
theorem mfX11_isCells : MF yX11_isCells cX11_isCells 1 (some .boolean) 1 := ⟨wcX11_isCells, wiX11, by decide +kernel⟩
theorem msX11_isCells : Cond.static yX11_isCells ∈ gG := wtX11_isCells
theorem mfX11_no : MF yX11_no cX11_no 1 (some .int) 0 := ⟨wcX11_no, wiX11, by decide +kernel⟩
theorem mvX11_no : MFv yX11_no RX11 := ⟨wnX11_no, wsX11_no⟩
theorem mfX11_full : MF yX11_full cX11_full 1 (some .int) 0 := ⟨wcX11_full, wiX11, by decide +kernel⟩
theorem mvX11_full : MFv yX11_full RX11 := ⟨wnX11_full, wsX11_full⟩
theorem mfX11_write : MF yX11_write cX11_write 4 (some .int) 3 := ⟨wcX11_write, wiX11, by decide +kernel⟩
theorem mvX11_write : MFv yX11_write RX11 := ⟨wnX11_write, wsX11_write⟩
theorem mfX11_tear : MF yX11_tear cX11_tear 1 (some .int) 0 := ⟨wcX11_tear, wiX11, by decide +kernel⟩
theorem mvX11_tear : MFv yX11_tear RX11 := ⟨wnX11_tear, wsX11_tear⟩
theorem mfX11_undo : MF yX11_undo cX11_undo 1 (some .int) 0 := ⟨wcX11_undo, wiX11, by decide +kernel⟩
theorem mvX11_undo : MFv yX11_undo RX11 := ⟨wnX11_undo, wsX11_undo⟩
theorem mfX11_word : MF yX11_word cX11_word 2 (some .int) 1 := ⟨wcX11_word, wiX11, by decide +kernel⟩
theorem mvX11_word : MFv yX11_word RX11 := ⟨wnX11_word, wsX11_word⟩
theorem mfX11_forget : MF yX11_forget cX11_forget 2 (some .int) 0 := ⟨wcX11_forget, wiX11, by decide +kernel⟩
theorem mvX11_forget : MFv yX11_forget RX11 := ⟨wnX11_forget, wsX11_forget⟩
theorem mfX11_type : MF yX11_type cX11_type 2 (some .int) 1 := ⟨wcX11_type, wiX11, by decide +kernel⟩
theorem mvX11_type : MFv yX11_type RX11 := ⟨wnX11_type, wsX11_type⟩
theorem mfX11_clear : MF yX11_clear cX11_clear 2 (some .int) 0 := ⟨wcX11_clear, wiX11, by decide +kernel⟩
theorem mvX11_clear : MFv yX11_clear RX11 := ⟨wnX11_clear, wsX11_clear⟩
theorem mfX11_read : MF yX11_read cX11_read 2 (some .int) 0 := ⟨wcX11_read, wiX11, by decide +kernel⟩
theorem mvX11_read : MFv yX11_read RX11 := ⟨wnX11_read, wsX11_read⟩
theorem mfX11_of : MF yX11_of cX11_of 3 (some .int) 2 := ⟨wcX11_of, wiX11, by decide +kernel⟩
theorem mvX11_of : MFv yX11_of RX11 := ⟨wnX11_of, wsX11_of⟩
theorem mfX11_dent : MF yX11_dent cX11_dent 3 (some .int) 2 := ⟨wcX11_dent, wiX11, by decide +kernel⟩
theorem mvX11_dent : MFv yX11_dent RX11 := ⟨wnX11_dent, wsX11_dent⟩
theorem mfX11_about : MF yX11_about cX11_about 3 (some .int) 2 := ⟨wcX11_about, wiX11, by decide +kernel⟩
theorem mvX11_about : MFv yX11_about RX11 := ⟨wnX11_about, wsX11_about⟩
theorem mfX11_isDepth : MF yX11_isDepth cX11_isDepth 1 (some .boolean) 1 := ⟨wcX11_isDepth, wiX11, by decide +kernel⟩
theorem msX11_isDepth : Cond.static yX11_isDepth ∈ gG := wtX11_isDepth
theorem mfX11_force : MF yX11_force cX11_force 4 (some .int) 3 := ⟨wcX11_force, wiX11, by decide +kernel⟩
theorem mvX11_force : MFv yX11_force RX11 := ⟨wnX11_force, wsX11_force⟩
theorem mfX11_whose : MF yX11_whose cX11_whose 2 (some .int) 1 := ⟨wcX11_whose, wiX11, by decide +kernel⟩
theorem mvX11_whose : MFv yX11_whose RX11 := ⟨wnX11_whose, wsX11_whose⟩
theorem mfX11_own : MF yX11_own cX11_own 5 (some .int) 2 := ⟨wcX11_own, wiX11, by decide +kernel⟩
theorem mvX11_own : MFv yX11_own RX11 := ⟨wnX11_own, wsX11_own⟩
theorem mfX11_shown : MF yX11_shown cX11_shown 3 (some .int) 2 := ⟨wcX11_shown, wiX11, by decide +kernel⟩
theorem mvX11_shown : MFv yX11_shown RX11 := ⟨wnX11_shown, wsX11_shown⟩
theorem mfJ6_bitCount_0f7a4 : MF yJ6_bitCount_0f7a4 cJ6_bitCount_0f7a4 1 (some .int) 1 := ⟨wcJ6_bitCount_0f7a4, wiJ6, by decide +kernel⟩
theorem msJ6_bitCount_0f7a4 : Cond.static yJ6_bitCount_0f7a4 ∈ gG := wtJ6_bitCount_0f7a4
theorem mfX11_wordsThatFit : MF yX11_wordsThatFit cX11_wordsThatFit 3 (some .int) 0 := ⟨wcX11_wordsThatFit, wiX11, by decide +kernel⟩
theorem mvX11_wordsThatFit : MFv yX11_wordsThatFit RX11 := ⟨wnX11_wordsThatFit, wsX11_wordsThatFit⟩
theorem mfX11_lost : MF yX11_lost cX11_lost 9 (some .int) 6 := ⟨wcX11_lost, wiX11, by decide +kernel⟩
theorem mvX11_lost : MFv yX11_lost RX11 := ⟨wnX11_lost, wsX11_lost⟩
theorem mfX11_pen : MF yX11_pen cX11_pen 11 (some .int) 5 := ⟨wcX11_pen, wiX11, by decide +kernel⟩
theorem mvX11_pen : MFv yX11_pen RX11 := ⟨wnX11_pen, wsX11_pen⟩
theorem mfX11_orders : MF yX11_orders cX11_orders 2 (some .int) 1 := ⟨wcX11_orders, wiX11, by decide +kernel⟩
theorem mvX11_orders : MFv yX11_orders RX11 := ⟨wnX11_orders, wsX11_orders⟩
theorem mfX11_press : MF yX11_press cX11_press 4 (some .int) 2 := ⟨wcX11_press, wiX11, by decide +kernel⟩
theorem mvX11_press : MFv yX11_press RX11 := ⟨wnX11_press, wsX11_press⟩
theorem mfX11_copies : MF yX11_copies cX11_copies 10 (some .int) 4 := ⟨wcX11_copies, wiX11, by decide +kernel⟩
theorem mvX11_copies : MFv yX11_copies RX11 := ⟨wnX11_copies, wsX11_copies⟩
theorem mfX11_keepFraction : MF yX11_keepFraction cX11_keepFraction 12 none 2 := ⟨wcX11_keepFraction, wiX11, by decide +kernel⟩
theorem mvX11_keepFraction : MFv yX11_keepFraction RX11 := ⟨wnX11_keepFraction, wsX11_keepFraction⟩
theorem mfX11_rub : MF yX11_rub cX11_rub 11 (some .int) 3 := ⟨wcX11_rub, wiX11, by decide +kernel⟩
theorem mvX11_rub : MFv yX11_rub RX11 := ⟨wnX11_rub, wsX11_rub⟩
theorem mfX11_torn : MF yX11_torn cX11_torn 3 (some .int) 1 := ⟨wcX11_torn, wiX11, by decide +kernel⟩
theorem mvX11_torn : MFv yX11_torn RX11 := ⟨wnX11_torn, wsX11_torn⟩
theorem mfX11_nextDraw : MF yX11_nextDraw cX11_nextDraw 2 (some .long) 1 := ⟨wcX11_nextDraw, wiX11, by decide +kernel⟩
theorem msX11_nextDraw : Cond.static yX11_nextDraw ∈ gG := wtX11_nextDraw
theorem mfX11_drawOf : MF yX11_drawOf cX11_drawOf 3 (some .int) 2 := ⟨wcX11_drawOf, wiX11, by decide +kernel⟩
theorem msX11_drawOf : Cond.static yX11_drawOf ∈ gG := wtX11_drawOf
theorem mfX11_sumOfLast : MF yX11_sumOfLast cX11_sumOfLast 3 (some .int) 0 := ⟨wcX11_sumOfLast, wiX11, by decide +kernel⟩
theorem mvX11_sumOfLast : MFv yX11_sumOfLast RX11 := ⟨wnX11_sumOfLast, wsX11_sumOfLast⟩
theorem mfX11_drawn : MF yX11_drawn cX11_drawn 10 (some .int) 2 := ⟨wcX11_drawn, wiX11, by decide +kernel⟩
theorem mvX11_drawn : MFv yX11_drawn RX11 := ⟨wnX11_drawn, wsX11_drawn⟩
theorem mfX11_part : MF yX11_part cX11_part 2 (some .long) 1 := ⟨wcX11_part, wiX11, by decide +kernel⟩
theorem mvX11_part : MFv yX11_part RX11 := ⟨wnX11_part, wsX11_part⟩
theorem mfX11_image : MF yX11_image cX11_image 2 (some .int) 1 := ⟨wcX11_image, wiX11, by decide +kernel⟩
theorem mvX11_image : MFv yX11_image RX11 := ⟨wnX11_image, wsX11_image⟩
theorem mfX11_from : MF yX11_from cX11_from 2 (some .int) 1 := ⟨wcX11_from, wiX11, by decide +kernel⟩
theorem mvX11_from : MFv yX11_from RX11 := ⟨wnX11_from, wsX11_from⟩
theorem mfX11_status : MF yX11_status cX11_status 2 (some .int) 1 := ⟨wcX11_status, wiX11, by decide +kernel⟩
theorem mvX11_status : MFv yX11_status RX11 := ⟨wnX11_status, wsX11_status⟩
theorem mfX11_amountOf : MF yX11_amountOf cX11_amountOf 2 (some .int) 1 := ⟨wcX11_amountOf, wiX11, by decide +kernel⟩
theorem mvX11_amountOf : MFv yX11_amountOf RX11 := ⟨wnX11_amountOf, wsX11_amountOf⟩
theorem mfX11_count : MF yX11_count cX11_count 2 (some .int) 1 := ⟨wcX11_count, wiX11, by decide +kernel⟩
theorem mvX11_count : MFv yX11_count RX11 := ⟨wnX11_count, wsX11_count⟩
theorem mfX11_digest : MF yX11_digest cX11_digest 4 (some .long) 0 := ⟨wcX11_digest, wiX11, by decide +kernel⟩
theorem mvX11_digest : MFv yX11_digest RX11 := ⟨wnX11_digest, wsX11_digest⟩
theorem mfX12_in : MF yX12_in cX12_in 6 (some .boolean) 3 := ⟨wcX12_in, wiX12, by decide +kernel⟩
theorem msX12_in : Cond.static yX12_in ∈ gG := wtX12_in
theorem mfX12_has : MF yX12_has cX12_has 2 (some .boolean) 2 := ⟨wcX12_has, wiX12, by decide +kernel⟩
theorem msX12_has : Cond.static yX12_has ∈ gG := wtX12_has
theorem mfX12_ones : MF yX12_ones cX12_ones 3 (some .int) 1 := ⟨wcX12_ones, wiX12, by decide +kernel⟩
theorem msX12_ones : Cond.static yX12_ones ∈ gG := wtX12_ones
theorem mfX12_refuse : MF yX12_refuse cX12_refuse 3 (some .int) 2 := ⟨wcX12_refuse, wiX12, by decide +kernel⟩
theorem mvX12_refuse : MFv yX12_refuse RX12 := ⟨wnX12_refuse, wsX12_refuse⟩
theorem mfX12_bad : MF yX12_bad cX12_bad 1 (some .int) 0 := ⟨wcX12_bad, wiX12, by decide +kernel⟩
theorem mvX12_bad : MFv yX12_bad RX12 := ⟨wnX12_bad, wsX12_bad⟩
theorem mfX12_badLess : MF yX12_badLess cX12_badLess 1 (some .int) 0 := ⟨wcX12_badLess, wiX12, by decide +kernel⟩
theorem mvX12_badLess : MFv yX12_badLess RX12 := ⟨wnX12_badLess, wsX12_badLess⟩
theorem mfX12_isSheet : MF yX12_isSheet cX12_isSheet 2 (some .boolean) 1 := ⟨wcX12_isSheet, wiX12, by decide +kernel⟩
theorem mvX12_isSheet : MFv yX12_isSheet RX12 := ⟨wnX12_isSheet, wsX12_isSheet⟩
theorem mfX12_areNotes : MF yX12_areNotes cX12_areNotes 2 (some .boolean) 1 := ⟨wcX12_areNotes, wiX12, by decide +kernel⟩
theorem mvX12_areNotes : MFv yX12_areNotes RX12 := ⟨wnX12_areNotes, wsX12_areNotes⟩
theorem mfX12_isPen : MF yX12_isPen cX12_isPen 2 (some .boolean) 2 := ⟨wcX12_isPen, wiX12, by decide +kernel⟩
theorem msX12_isPen : Cond.static yX12_isPen ∈ gG := wtX12_isPen
theorem mfX12_pencil : MF yX12_pencil cX12_pencil 3 (some .int) 2 := ⟨wcX12_pencil, wiX12, by decide +kernel⟩
theorem msX12_pencil : Cond.static yX12_pencil ∈ gG := wtX12_pencil
theorem mfX12_forceOf : MF yX12_forceOf cX12_forceOf 3 (some .int) 3 := ⟨wcX12_forceOf, wiX12, by decide +kernel⟩
theorem msX12_forceOf : Cond.static yX12_forceOf ∈ gG := wtX12_forceOf
theorem mfX12_hasInk : MF yX12_hasInk cX12_hasInk 1 (some .boolean) 1 := ⟨wcX12_hasInk, wiX12, by decide +kernel⟩
theorem msX12_hasInk : Cond.static yX12_hasInk ∈ gG := wtX12_hasInk
theorem mfX12_empty : MF yX12_empty cX12_empty 2 none 0 := ⟨wcX12_empty, wiX12, by decide +kernel⟩
theorem mvX12_empty : MFv yX12_empty RX12 := ⟨wnX12_empty, wsX12_empty⟩
theorem mfX12_pad : MF yX12_pad cX12_pad 3 (some .int) 1 := ⟨wcX12_pad, wiX12, by decide +kernel⟩
theorem mvX12_pad : MFv yX12_pad RX12 := ⟨wnX12_pad, wsX12_pad⟩
theorem mfX12_carbons : MF yX12_carbons cX12_carbons 3 (some .int) 1 := ⟨wcX12_carbons, wiX12, by decide +kernel⟩
theorem mvX12_carbons : MFv yX12_carbons RX12 := ⟨wnX12_carbons, wsX12_carbons⟩
theorem mfX12_note : MF yX12_note cX12_note 2 none 0 := ⟨wcX12_note, wiX12, by decide +kernel⟩
theorem mvX12_note : MFv yX12_note RX12 := ⟨wnX12_note, wsX12_note⟩
theorem mfX12_dentAll : MF yX12_dentAll cX12_dentAll 9 none 3 := ⟨wcX12_dentAll, wiX12, by decide +kernel⟩
theorem mvX12_dentAll : MFv yX12_dentAll RX12 := ⟨wnX12_dentAll, wsX12_dentAll⟩
theorem mfX12_writeNow : MF yX12_writeNow cX12_writeNow 5 none 3 := ⟨wcX12_writeNow, wiX12, by decide +kernel⟩
theorem mvX12_writeNow : MFv yX12_writeNow RX12 := ⟨wnX12_writeNow, wsX12_writeNow⟩
theorem mfX12_write : MF yX12_write cX12_write 4 (some .int) 3 := ⟨wcX12_write, wiX12, by decide +kernel⟩
theorem mvX12_write : MFv yX12_write RX12 := ⟨wnX12_write, wsX12_write⟩
theorem mfX12_tear : MF yX12_tear cX12_tear 1 (some .int) 0 := ⟨wcX12_tear, wiX12, by decide +kernel⟩
theorem mvX12_tear : MFv yX12_tear RX12 := ⟨wnX12_tear, wsX12_tear⟩
theorem mfX12_undo : MF yX12_undo cX12_undo 2 (some .int) 0 := ⟨wcX12_undo, wiX12, by decide +kernel⟩
theorem mvX12_undo : MFv yX12_undo RX12 := ⟨wnX12_undo, wsX12_undo⟩
theorem mfX12_word : MF yX12_word cX12_word 2 (some .int) 1 := ⟨wcX12_word, wiX12, by decide +kernel⟩
theorem mvX12_word : MFv yX12_word RX12 := ⟨wnX12_word, wsX12_word⟩
theorem mfX12_forget : MF yX12_forget cX12_forget 2 (some .int) 0 := ⟨wcX12_forget, wiX12, by decide +kernel⟩
theorem mvX12_forget : MFv yX12_forget RX12 := ⟨wnX12_forget, wsX12_forget⟩
theorem mfX12_type : MF yX12_type cX12_type 2 (some .int) 1 := ⟨wcX12_type, wiX12, by decide +kernel⟩
theorem mvX12_type : MFv yX12_type RX12 := ⟨wnX12_type, wsX12_type⟩
theorem mfX12_clear : MF yX12_clear cX12_clear 2 (some .int) 0 := ⟨wcX12_clear, wiX12, by decide +kernel⟩
theorem mvX12_clear : MFv yX12_clear RX12 := ⟨wnX12_clear, wsX12_clear⟩
theorem mfX12_byteAt : MF yX12_byteAt cX12_byteAt 2 (some .int) 1 := ⟨wcX12_byteAt, wiX12, by decide +kernel⟩
theorem mvX12_byteAt : MFv yX12_byteAt RX12 := ⟨wnX12_byteAt, wsX12_byteAt⟩
theorem mfX12_isWord : MF yX12_isWord cX12_isWord 9 (some .boolean) 6 := ⟨wcX12_isWord, wiX12, by decide +kernel⟩
theorem mvX12_isWord : MFv yX12_isWord RX12 := ⟨wnX12_isWord, wsX12_isWord⟩
theorem mfX12_nextToken : MF yX12_nextToken cX12_nextToken 1 none 0 := ⟨wcX12_nextToken, wiX12, by decide +kernel⟩
theorem mvX12_nextToken : MFv yX12_nextToken RX12 := ⟨wnX12_nextToken, wsX12_nextToken⟩
theorem mfX12_number : MF yX12_number cX12_number 3 (some .boolean) 2 := ⟨wcX12_number, wiX12, by decide +kernel⟩
theorem mvX12_number : MFv yX12_number RX12 := ⟨wnX12_number, wsX12_number⟩
theorem mfX12_readNote : MF yX12_readNote cX12_readNote 4 (some .boolean) 1 := ⟨wcX12_readNote, wiX12, by decide +kernel⟩
theorem mvX12_readNote : MFv yX12_readNote RX12 := ⟨wnX12_readNote, wsX12_readNote⟩
theorem mfX12_readPad : MF yX12_readPad cX12_readPad 4 (some .boolean) 0 := ⟨wcX12_readPad, wiX12, by decide +kernel⟩
theorem mvX12_readPad : MFv yX12_readPad RX12 := ⟨wnX12_readPad, wsX12_readPad⟩
theorem mfX12_read : MF yX12_read cX12_read 3 (some .int) 0 := ⟨wcX12_read, wiX12, by decide +kernel⟩
theorem mvX12_read : MFv yX12_read RX12 := ⟨wnX12_read, wsX12_read⟩
theorem mfX12_writtenOn : MF yX12_writtenOn cX12_writtenOn 4 (some .int) 1 := ⟨wcX12_writtenOn, wiX12, by decide +kernel⟩
theorem mvX12_writtenOn : MFv yX12_writtenOn RX12 := ⟨wnX12_writtenOn, wsX12_writtenOn⟩
theorem mfX12_of : MF yX12_of cX12_of 3 (some .int) 2 := ⟨wcX12_of, wiX12, by decide +kernel⟩
theorem mvX12_of : MFv yX12_of RX12 := ⟨wnX12_of, wsX12_of⟩
theorem mfX12_dentOf : MF yX12_dentOf cX12_dentOf 3 (some .int) 2 := ⟨wcX12_dentOf, wiX12, by decide +kernel⟩
theorem mvX12_dentOf : MFv yX12_dentOf RX12 := ⟨wnX12_dentOf, wsX12_dentOf⟩
theorem mfX12_dent : MF yX12_dent cX12_dent 3 (some .int) 2 := ⟨wcX12_dent, wiX12, by decide +kernel⟩
theorem mvX12_dent : MFv yX12_dent RX12 := ⟨wnX12_dent, wsX12_dent⟩
theorem mfX12_about : MF yX12_about cX12_about 4 (some .int) 2 := ⟨wcX12_about, wiX12, by decide +kernel⟩
theorem mvX12_about : MFv yX12_about RX12 := ⟨wnX12_about, wsX12_about⟩
theorem mfX12_force : MF yX12_force cX12_force 4 (some .int) 3 := ⟨wcX12_force, wiX12, by decide +kernel⟩
theorem mvX12_force : MFv yX12_force RX12 := ⟨wnX12_force, wsX12_force⟩
theorem mfX12_forceIn : MF yX12_forceIn cX12_forceIn 6 (some .int) 3 := ⟨wcX12_forceIn, wiX12, by decide +kernel⟩
theorem mvX12_forceIn : MFv yX12_forceIn RX12 := ⟨wnX12_forceIn, wsX12_forceIn⟩
theorem mfX12_whoseOf : MF yX12_whoseOf cX12_whoseOf 4 (some .int) 1 := ⟨wcX12_whoseOf, wiX12, by decide +kernel⟩
theorem mvX12_whoseOf : MFv yX12_whoseOf RX12 := ⟨wnX12_whoseOf, wsX12_whoseOf⟩
theorem mfX12_whose : MF yX12_whose cX12_whose 2 (some .int) 1 := ⟨wcX12_whose, wiX12, by decide +kernel⟩
theorem mvX12_whose : MFv yX12_whose RX12 := ⟨wnX12_whose, wsX12_whose⟩
theorem mfX12_own : MF yX12_own cX12_own 7 (some .int) 2 := ⟨wcX12_own, wiX12, by decide +kernel⟩
theorem mvX12_own : MFv yX12_own RX12 := ⟨wnX12_own, wsX12_own⟩
theorem mfX12_shown : MF yX12_shown cX12_shown 5 (some .int) 2 := ⟨wcX12_shown, wiX12, by decide +kernel⟩
theorem mvX12_shown : MFv yX12_shown RX12 := ⟨wnX12_shown, wsX12_shown⟩
theorem mfX12_explained : MF yX12_explained cX12_explained 7 (some .int) 3 := ⟨wcX12_explained, wiX12, by decide +kernel⟩
theorem mvX12_explained : MFv yX12_explained RX12 := ⟨wnX12_explained, wsX12_explained⟩
theorem mfX12_isLost : MF yX12_isLost cX12_isLost 8 (some .boolean) 3 := ⟨wcX12_isLost, wiX12, by decide +kernel⟩
theorem mvX12_isLost : MFv yX12_isLost RX12 := ⟨wnX12_isLost, wsX12_isLost⟩
theorem mfX12_fits : MF yX12_fits cX12_fits 2 (some .boolean) 1 := ⟨wcX12_fits, wiX12, by decide +kernel⟩
theorem mvX12_fits : MFv yX12_fits RX12 := ⟨wnX12_fits, wsX12_fits⟩
theorem mfX12_lost : MF yX12_lost cX12_lost 10 (some .int) 6 := ⟨wcX12_lost, wiX12, by decide +kernel⟩
theorem mvX12_lost : MFv yX12_lost RX12 := ⟨wnX12_lost, wsX12_lost⟩
theorem mfX12_pen : MF yX12_pen cX12_pen 10 (some .int) 5 := ⟨wcX12_pen, wiX12, by decide +kernel⟩
theorem mvX12_pen : MFv yX12_pen RX12 := ⟨wnX12_pen, wsX12_pen⟩
theorem mfX12_exchange : MF yX12_exchange cX12_exchange 4 none 2 := ⟨wcX12_exchange, wiX12, by decide +kernel⟩
theorem mvX12_exchange : MFv yX12_exchange RX12 := ⟨wnX12_exchange, wsX12_exchange⟩
theorem mfX12_nextRow : MF yX12_nextRow cX12_nextRow 5 (some .boolean) 0 := ⟨wcX12_nextRow, wiX12, by decide +kernel⟩
theorem mvX12_nextRow : MFv yX12_nextRow RX12 := ⟨wnX12_nextRow, wsX12_nextRow⟩
theorem mfX12_placeOf : MF yX12_placeOf cX12_placeOf 3 (some .int) 1 := ⟨wcX12_placeOf, wiX12, by decide +kernel⟩
theorem mvX12_placeOf : MFv yX12_placeOf RX12 := ⟨wnX12_placeOf, wsX12_placeOf⟩
theorem mfX12_isRow : MF yX12_isRow cX12_isRow 8 (some .boolean) 0 := ⟨wcX12_isRow, wiX12, by decide +kernel⟩
theorem mvX12_isRow : MFv yX12_isRow RX12 := ⟨wnX12_isRow, wsX12_isRow⟩
theorem mfX12_orders : MF yX12_orders cX12_orders 5 (some .int) 1 := ⟨wcX12_orders, wiX12, by decide +kernel⟩
theorem mvX12_orders : MFv yX12_orders RX12 := ⟨wnX12_orders, wsX12_orders⟩
theorem mfX12_press : MF yX12_press cX12_press 4 (some .int) 2 := ⟨wcX12_press, wiX12, by decide +kernel⟩
theorem mvX12_press : MFv yX12_press RX12 := ⟨wnX12_press, wsX12_press⟩
theorem mfX12_copies : MF yX12_copies cX12_copies 9 (some .int) 4 := ⟨wcX12_copies, wiX12, by decide +kernel⟩
theorem mvX12_copies : MFv yX12_copies RX12 := ⟨wnX12_copies, wsX12_copies⟩
theorem mfX12_common : MF yX12_common cX12_common 10 (some .long) 2 := ⟨wcX12_common, wiX12, by decide +kernel⟩
theorem msX12_common : Cond.static yX12_common ∈ gG := wtX12_common
theorem mfX12_rub : MF yX12_rub cX12_rub 6 (some .int) 3 := ⟨wcX12_rub, wiX12, by decide +kernel⟩
theorem mvX12_rub : MFv yX12_rub RX12 := ⟨wnX12_rub, wsX12_rub⟩
theorem mfX12_torn : MF yX12_torn cX12_torn 3 (some .int) 1 := ⟨wcX12_torn, wiX12, by decide +kernel⟩
theorem mvX12_torn : MFv yX12_torn RX12 := ⟨wnX12_torn, wsX12_torn⟩
theorem mfX12_draw : MF yX12_draw cX12_draw 2 (some .int) 1 := ⟨wcX12_draw, wiX12, by decide +kernel⟩
theorem mvX12_draw : MFv yX12_draw RX12 := ⟨wnX12_draw, wsX12_draw⟩
theorem mfX12_drawn : MF yX12_drawn cX12_drawn 6 (some .int) 2 := ⟨wcX12_drawn, wiX12, by decide +kernel⟩
theorem mvX12_drawn : MFv yX12_drawn RX12 := ⟨wnX12_drawn, wsX12_drawn⟩
theorem mfX12_part : MF yX12_part cX12_part 2 (some .long) 1 := ⟨wcX12_part, wiX12, by decide +kernel⟩
theorem mvX12_part : MFv yX12_part RX12 := ⟨wnX12_part, wsX12_part⟩
theorem mfX12_carry : MF yX12_carry cX12_carry 7 none 5 := ⟨wcX12_carry, wiX12, by decide +kernel⟩
theorem mvX12_carry : MFv yX12_carry RX12 := ⟨wnX12_carry, wsX12_carry⟩
theorem mfX12_image : MF yX12_image cX12_image 3 (some .int) 1 := ⟨wcX12_image, wiX12, by decide +kernel⟩
theorem mvX12_image : MFv yX12_image RX12 := ⟨wnX12_image, wsX12_image⟩
theorem mfX12_from : MF yX12_from cX12_from 3 (some .int) 1 := ⟨wcX12_from, wiX12, by decide +kernel⟩
theorem mvX12_from : MFv yX12_from RX12 := ⟨wnX12_from, wsX12_from⟩
theorem mfX12_status : MF yX12_status cX12_status 2 (some .int) 1 := ⟨wcX12_status, wiX12, by decide +kernel⟩
theorem mvX12_status : MFv yX12_status RX12 := ⟨wnX12_status, wsX12_status⟩
theorem mfX12_countOf : MF yX12_countOf cX12_countOf 2 (some .int) 1 := ⟨wcX12_countOf, wiX12, by decide +kernel⟩
theorem mvX12_countOf : MFv yX12_countOf RX12 := ⟨wnX12_countOf, wsX12_countOf⟩
theorem mfX12_count : MF yX12_count cX12_count 2 (some .int) 1 := ⟨wcX12_count, wiX12, by decide +kernel⟩
theorem mvX12_count : MFv yX12_count RX12 := ⟨wnX12_count, wsX12_count⟩
theorem mfX12_mix : MF yX12_mix cX12_mix 3 none 1 := ⟨wcX12_mix, wiX12, by decide +kernel⟩
theorem mvX12_mix : MFv yX12_mix RX12 := ⟨wnX12_mix, wsX12_mix⟩
theorem mfX12_digest : MF yX12_digest cX12_digest 3 (some .long) 0 := ⟨wcX12_digest, wiX12, by decide +kernel⟩
theorem mvX12_digest : MFv yX12_digest RX12 := ⟨wnX12_digest, wsX12_digest⟩
end
section
section
variable {p : Program} {l : Launch} {e : Env} {R : Room} {s : State} {m : MethodId} {args : Array Value} {below : List Frame} {meth : Method} {c : Code} {E : VE} {A : Nat → Prop} {cc : ByteArray} {nL cells slots : Nat} {ret : Option FieldType} {own : String} {Q : State → Prop} {w : va_W} {pc idx : Nat} {lv : List (Nat × Value)} {st : List Value}
theorem v_ldcS0 (C : VC p s m args meth c E A cc nL ret RX7) (hd : decode cc pc = .ok (.ldc 48, 2)) (k : V p l e R s m args below meth c E A nL cells slots Q w (pc + 2) lv (.ref (E.2.2.2.2.1 0) :: st)) : V p l e R s m args below meth c E A nL cells slots Q w pc lv st := fun H locs ls hP hD hS hl => va_ldcS C.1 C.2.1 C.2.2.2.2.1 C.2.2.2.2.2.2.2.2.2.2.1 hd (k H locs ls hP hD hS hl)
theorem v_ldcS1 (C : VC p s m args meth c E A cc nL ret RX7) (hd : decode cc pc = .ok (.ldc 68, 2)) (k : V p l e R s m args below meth c E A nL cells slots Q w (pc + 2) lv (.ref (E.2.2.2.2.1 1) :: st)) : V p l e R s m args below meth c E A nL cells slots Q w pc lv st := fun H locs ls hP hD hS hl => va_ldcS C.1 C.2.1 C.2.2.2.2.1 C.2.2.2.2.2.2.2.2.2.2.2.1 hd (k H locs ls hP hD hS hl)
theorem v_ldcS2 (C : VC p s m args meth c E A cc nL ret RX7) (hd : decode cc pc = .ok (.ldc 73, 2)) (k : V p l e R s m args below meth c E A nL cells slots Q w (pc + 2) lv (.ref (E.2.2.2.2.1 2) :: st)) : V p l e R s m args below meth c E A nL cells slots Q w pc lv st := fun H locs ls hP hD hS hl => va_ldcS C.1 C.2.1 C.2.2.2.2.1 C.2.2.2.2.2.2.2.2.2.2.2.2.1 hd (k H locs ls hP hD hS hl)
theorem v_ldcS3 (C : VC p s m args meth c E A cc nL ret RX7) (hd : decode cc pc = .ok (.ldc 75, 2)) (k : V p l e R s m args below meth c E A nL cells slots Q w (pc + 2) lv (.ref (E.2.2.2.2.1 3) :: st)) : V p l e R s m args below meth c E A nL cells slots Q w pc lv st := fun H locs ls hP hD hS hl => va_ldcS C.1 C.2.1 C.2.2.2.2.1 C.2.2.2.2.2.2.2.2.2.2.2.2.2.1 hd (k H locs ls hP hD hS hl)
theorem v_slen (C : VC p s m args meth c E A cc nL ret own) {i : Nat} (rest : List Value) (hi : i < 4) (hlk : Cond.methodLink own idx yJ0_length_8abf5 ∈ gG) (hfr : 4 ≤ R.frames) (hlo : 200 ≤ R.locals) (hroom : (rest.map fun v => v.category).sum ≤ 8) (hd : decode cc pc = .ok (.invokevirtual idx, 3)) (k : V p l e R s m args below meth c E A nL cells slots Q w (pc + 3) lv (.int (nI (lenS.getD i 0)) :: rest)) : V p l e R s m args below meth c E A nL cells slots Q w pc lv (.ref (E.2.2.2.2.1 i) :: rest) := sorry
theorem v_scharAt (C : VC p s m args meth c E A cc nL ret own) {i : Nat} {j : Int32} (rest : List Value) (hi : i < 4) (hj : vp_in j (lenS.getD i 0)) (hlk : Cond.methodLink own idx yJ0_charAt_5068e ∈ gG) (hfr : 5 ≤ R.frames) (hlo : 200 ≤ R.locals) (hroom : (rest.map fun v => v.category).sum ≤ 8) (hd : decode cc pc = .ok (.invokevirtual idx, 3)) (k : V p l e R s m args below meth c E A nL cells slots Q w (pc + 3) lv (.int ((bytS.getD i []).getD j.toNatClampNeg 0) :: rest)) : V p l e R s m args below meth c E A nL cells slots Q w pc lv (.int j :: .ref (E.2.2.2.2.1 i) :: rest) := sorry
theorem v_imageOf (C : VC p s m args meth c E A cc nL ret own) (a : Nat → Nat → Nat) (t : Nat → St) (x : Int32) (rest : List Value) (hlk : Cond.methodLink own idx yX11_imageOf ∈ gG) (hfr : 2 ≤ R.frames) (hlo : 60 ≤ R.locals) (hroom : (rest.map fun v => v.category).sum ≤ 8) (hd : decode cc pc = .ok (.invokevirtual idx, 3)) (kt : x = 0 → V p l e R s m args below meth c E A nL cells slots Q (wBig E a t) (pc + 3) lv (.ref (a 4 0) :: rest)) (kf : ¬ x = 0 → V p l e R s m args below meth c E A nL cells slots Q (wBig E a t) (pc + 3) lv (.ref (a 5 0) :: rest)) : V p l e R s m args below meth c E A nL cells slots Q (wBig E a t) pc lv (.int x :: .ref (a 0 0) :: rest) := sorry
end
theorem ctX5_forceOf (l : Launch) (E : VE) (a : Nat → Nat) (x1 : Int32) (x2 : Int32) (x3 : Int32) {Post : Int32 → Prop} (hw : wpX5_forceOf x1 x2 x3 Post) (sz : Nat) : Met l yX5_forceOf (mW yX5_forceOf cX5_forceOf 5 (some .int)) rmX5_forceOf (CPre E [.ref (a 0), .int x1, .int x2, .int x3] sz (fl [bBox E a])) (CQi E (fun (z : Int32) (_ : Unit) => Post z) (fun _ => (fl [bBox E a])) (fl [bBox E a]) sz) 0 0 (va_A (fl [bBox E a]) sz) := sorry
theorem ctX5_hasInk (l : Launch) (E : VE) (a : Nat → Nat) (x1 : Int32) {Post : Int32 → Prop} (hw : wpX5_hasInk x1 Post) (sz : Nat) : Met l yX5_hasInk (mW yX5_hasInk cX5_hasInk 3 (some .boolean)) rmX5_hasInk (CPre E [.ref (a 0), .int x1] sz (fl [bBox E a])) (CQi E (fun (z : Int32) (_ : Unit) => Post z) (fun _ => (fl [bBox E a])) (fl [bBox E a]) sz) 0 0 (va_A (fl [bBox E a]) sz) := sorry
end
section
section
variable {pr : Program} {l : Launch} {e : Env} {s : State} {m : MethodId} {args : Array Value} {below : List Frame} {meth : Method} {c : Code} {E : VE} {A : Nat → Prop} {w0 : va_W}
theorem dX4_placeOf_0 : decode cX4_placeOf 0 = .ok (.iconst 2, 1) := by decide +kernel
theorem dX4_placeOf_1 : decode cX4_placeOf 1 = .ok (.iload_n 0, 1) := by decide +kernel
theorem dX4_placeOf_2 : decode cX4_placeOf 2 = .ok (.bipush 14, 2) := by decide +kernel
theorem dX4_placeOf_4 : decode cX4_placeOf 4 = .ok (.imul, 1) := by decide +kernel
theorem dX4_placeOf_5 : decode cX4_placeOf 5 = .ok (.iadd, 1) := by decide +kernel
theorem dX4_placeOf_6 : decode cX4_placeOf 6 = .ok (.iload_n 1, 1) := by decide +kernel
theorem dX4_placeOf_7 : decode cX4_placeOf 7 = .ok (.iadd, 1) := by decide +kernel
theorem dX4_placeOf_8 : decode cX4_placeOf 8 = .ok (.ireturn, 1) := by decide +kernel
theorem dX4_dentOf_0 : decode cX4_dentOf 0 = .ok (.aload_n 0, 1) := by decide +kernel
theorem dX4_dentOf_1 : decode cX4_dentOf 1 = .ok (.getfield 11, 3) := by decide +kernel
theorem dX4_dentOf_4 : decode cX4_dentOf 4 = .ok (.iload_n 1, 1) := by decide +kernel
theorem dX4_dentOf_5 : decode cX4_dentOf 5 = .ok (.iconst 2, 1) := by decide +kernel
theorem dX4_dentOf_6 : decode cX4_dentOf 6 = .ok (.iload_n 2, 1) := by decide +kernel
theorem dX4_dentOf_7 : decode cX4_dentOf 7 = .ok (.iadd, 1) := by decide +kernel
theorem dX4_dentOf_8 : decode cX4_dentOf 8 = .ok (.invokestatic 55, 3) := by decide +kernel
theorem dX4_dentOf_11 : decode cX4_dentOf 11 = .ok (.iaload, 1) := by decide +kernel
theorem dX4_dentOf_12 : decode cX4_dentOf 12 = .ok (.ireturn, 1) := by decide +kernel
theorem dX4_noteCount_0 : decode cX4_noteCount 0 = .ok (.aload_n 0, 1) := by decide +kernel
theorem dX4_noteCount_1 : decode cX4_noteCount 1 = .ok (.getfield 11, 3) := by decide +kernel
theorem dX4_noteCount_4 : decode cX4_noteCount 4 = .ok (.iconst 1, 1) := by decide +kernel
theorem dX4_noteCount_5 : decode cX4_noteCount 5 = .ok (.iaload, 1) := by decide +kernel
theorem dX4_noteCount_6 : decode cX4_noteCount 6 = .ok (.ireturn, 1) := by decide +kernel
theorem dX4_forceDown_0 : decode cX4_forceDown 0 = .ok (.iload_n 2, 1) := by decide +kernel
theorem dX4_forceDown_1 : decode cX4_forceDown 1 = .ok (.ifCond .lt 9, 3) := by decide +kernel
theorem dX4_forceDown_4 : decode cX4_forceDown 4 = .ok (.iload_n 2, 1) := by decide +kernel
theorem dX4_forceDown_5 : decode cX4_forceDown 5 = .ok (.bipush 6, 2) := by decide +kernel
theorem dX4_forceDown_7 : decode cX4_forceDown 7 = .ok (.if_icmp .lt 7, 3) := by decide +kernel
theorem dX4_forceDown_10 : decode cX4_forceDown 10 = .ok (.iconst 0, 1) := by decide +kernel
theorem dX4_forceDown_11 : decode cX4_forceDown 11 = .ok (.goto 14, 3) := by decide +kernel
theorem dX4_forceDown_14 : decode cX4_forceDown 14 = .ok (.aload_n 0, 1) := by decide +kernel
theorem dX4_forceDown_15 : decode cX4_forceDown 15 = .ok (.getfield 40, 3) := by decide +kernel
theorem dX4_forceDown_18 : decode cX4_forceDown 18 = .ok (.iload_n 1, 1) := by decide +kernel
theorem dX4_forceDown_19 : decode cX4_forceDown 19 = .ok (.bipush 6, 2) := by decide +kernel
theorem dX4_forceDown_21 : decode cX4_forceDown 21 = .ok (.imul, 1) := by decide +kernel
theorem dX4_forceDown_22 : decode cX4_forceDown 22 = .ok (.iload_n 2, 1) := by decide +kernel
theorem dX4_forceDown_23 : decode cX4_forceDown 23 = .ok (.iadd, 1) := by decide +kernel
theorem dX4_forceDown_24 : decode cX4_forceDown 24 = .ok (.iaload, 1) := by decide +kernel
theorem dX4_forceDown_25 : decode cX4_forceDown 25 = .ok (.ireturn, 1) := by decide +kernel
theorem dX4_forceOn_0 : decode cX4_forceOn 0 = .ok (.aload_n 0, 1) := by decide +kernel
theorem dX4_forceOn_1 : decode cX4_forceOn 1 = .ok (.iload_n 1, 1) := by decide +kernel
theorem dX4_forceOn_2 : decode cX4_forceOn 2 = .ok (.iload_n 2, 1) := by decide +kernel
theorem dX4_forceOn_3 : decode cX4_forceOn 3 = .ok (.aload_n 0, 1) := by decide +kernel
theorem dX4_forceOn_4 : decode cX4_forceOn 4 = .ok (.getfield 37, 3) := by decide +kernel
theorem dX4_forceOn_7 : decode cX4_forceOn 7 = .ok (.iload_n 1, 1) := by decide +kernel
theorem dX4_forceOn_8 : decode cX4_forceOn 8 = .ok (.iaload, 1) := by decide +kernel
theorem dX4_forceOn_9 : decode cX4_forceOn 9 = .ok (.isub, 1) := by decide +kernel
theorem dX4_forceOn_10 : decode cX4_forceOn 10 = .ok (.invokevirtual 80, 3) := by decide +kernel
theorem dX4_forceOn_13 : decode cX4_forceOn 13 = .ok (.ireturn, 1) := by decide +kernel
theorem dX11_dentInto_0 : decode cX11_dentInto 0 = .ok (.iconst 0, 1) := by decide +kernel
theorem dX11_dentInto_1 : decode cX11_dentInto 1 = .ok (.istore 4, 2) := by decide +kernel
theorem dX11_dentInto_3 : decode cX11_dentInto 3 = .ok (.iload 4, 2) := by decide +kernel
theorem dX11_dentInto_5 : decode cX11_dentInto 5 = .ok (.bipush 12, 2) := by decide +kernel
theorem dX11_dentInto_7 : decode cX11_dentInto 7 = .ok (.if_icmp .ge 49, 3) := by decide +kernel
theorem dX11_dentInto_10 : decode cX11_dentInto 10 = .ok (.iload_n 1, 1) := by decide +kernel
theorem dX11_dentInto_11 : decode cX11_dentInto 11 = .ok (.iload 4, 2) := by decide +kernel
theorem dX11_dentInto_13 : decode cX11_dentInto 13 = .ok (.iadd, 1) := by decide +kernel
theorem dX11_dentInto_14 : decode cX11_dentInto 14 = .ok (.istore 5, 2) := by decide +kernel
theorem dX11_dentInto_16 : decode cX11_dentInto 16 = .ok (.iload_n 2, 1) := by decide +kernel
theorem dX11_dentInto_17 : decode cX11_dentInto 17 = .ok (.iload 4, 2) := by decide +kernel
theorem dX11_dentInto_19 : decode cX11_dentInto 19 = .ok (.ishr, 1) := by decide +kernel
theorem dX11_dentInto_20 : decode cX11_dentInto 20 = .ok (.iconst 1, 1) := by decide +kernel
theorem dX11_dentInto_21 : decode cX11_dentInto 21 = .ok (.iand, 1) := by decide +kernel
theorem dX11_dentInto_22 : decode cX11_dentInto 22 = .ok (.ifCond .eq 28, 3) := by decide +kernel
theorem dX11_dentInto_25 : decode cX11_dentInto 25 = .ok (.iload 5, 2) := by decide +kernel
theorem dX11_dentInto_27 : decode cX11_dentInto 27 = .ok (.ifCond .lt 23, 3) := by decide +kernel
theorem dX11_dentInto_30 : decode cX11_dentInto 30 = .ok (.iload 5, 2) := by decide +kernel
theorem dX11_dentInto_32 : decode cX11_dentInto 32 = .ok (.aload_n 0, 1) := by decide +kernel
theorem dX11_dentInto_33 : decode cX11_dentInto 33 = .ok (.arraylength, 1) := by decide +kernel
theorem dX11_dentInto_34 : decode cX11_dentInto 34 = .ok (.if_icmp .ge 16, 3) := by decide +kernel
theorem dX11_dentInto_37 : decode cX11_dentInto 37 = .ok (.aload_n 0, 1) := by decide +kernel
theorem dX11_dentInto_38 : decode cX11_dentInto 38 = .ok (.iload 5, 2) := by decide +kernel
theorem dX11_dentInto_40 : decode cX11_dentInto 40 = .ok (.iaload, 1) := by decide +kernel
theorem dX11_dentInto_41 : decode cX11_dentInto 41 = .ok (.iload_n 3, 1) := by decide +kernel
theorem dX11_dentInto_42 : decode cX11_dentInto 42 = .ok (.if_icmp .ge 8, 3) := by decide +kernel
theorem dX11_dentInto_45 : decode cX11_dentInto 45 = .ok (.aload_n 0, 1) := by decide +kernel
theorem dX11_dentInto_46 : decode cX11_dentInto 46 = .ok (.iload 5, 2) := by decide +kernel
theorem dX11_dentInto_48 : decode cX11_dentInto 48 = .ok (.iload_n 3, 1) := by decide +kernel
theorem dX11_dentInto_49 : decode cX11_dentInto 49 = .ok (.iastore, 1) := by decide +kernel
theorem dX11_dentInto_50 : decode cX11_dentInto 50 = .ok (.iinc 4 1, 3) := by decide +kernel
theorem dX11_dentInto_53 : decode cX11_dentInto 53 = .ok (.goto (-50), 3) := by decide +kernel
theorem dX11_dentInto_56 : decode cX11_dentInto 56 = .ok (.return_, 1) := by decide +kernel
theorem dX2_look_0 : decode cX2_look 0 = .ok (.iconst 0, 1) := by decide +kernel
theorem dX2_look_1 : decode cX2_look 1 = .ok (.istore 4, 2) := by decide +kernel
theorem dX2_look_3 : decode cX2_look 3 = .ok (.iload 4, 2) := by decide +kernel
theorem dX2_look_5 : decode cX2_look 5 = .ok (.bipush 12, 2) := by decide +kernel
theorem dX2_look_7 : decode cX2_look 7 = .ok (.if_icmp .ge 31, 3) := by decide +kernel
theorem dX2_look_10 : decode cX2_look 10 = .ok (.aload_n 0, 1) := by decide +kernel
theorem dX2_look_11 : decode cX2_look 11 = .ok (.getfield 9, 3) := by decide +kernel
theorem dX2_look_14 : decode cX2_look 14 = .ok (.iload 4, 2) := by decide +kernel
theorem dX2_look_16 : decode cX2_look 16 = .ok (.aload_n 1, 1) := by decide +kernel
theorem dX2_look_17 : decode cX2_look 17 = .ok (.iload_n 2, 1) := by decide +kernel
theorem dX2_look_18 : decode cX2_look 18 = .ok (.iload 4, 2) := by decide +kernel
theorem dX2_look_20 : decode cX2_look 20 = .ok (.invokevirtual 25, 3) := by decide +kernel
theorem dX2_look_23 : decode cX2_look 23 = .ok (.iastore, 1) := by decide +kernel
theorem dX2_look_24 : decode cX2_look 24 = .ok (.aload_n 0, 1) := by decide +kernel
theorem dX2_look_25 : decode cX2_look 25 = .ok (.getfield 15, 3) := by decide +kernel
theorem dX2_look_28 : decode cX2_look 28 = .ok (.iload 4, 2) := by decide +kernel
theorem dX2_look_30 : decode cX2_look 30 = .ok (.iconst 0, 1) := by decide +kernel
theorem dX2_look_31 : decode cX2_look 31 = .ok (.iastore, 1) := by decide +kernel
theorem dX2_look_32 : decode cX2_look 32 = .ok (.iinc 4 1, 3) := by decide +kernel
theorem dX2_look_35 : decode cX2_look 35 = .ok (.goto (-32), 3) := by decide +kernel
theorem dX2_look_38 : decode cX2_look 38 = .ok (.iconst 0, 1) := by decide +kernel
theorem dX2_look_39 : decode cX2_look 39 = .ok (.istore 4, 2) := by decide +kernel
theorem dX2_look_41 : decode cX2_look 41 = .ok (.iload 4, 2) := by decide +kernel
theorem dX2_look_43 : decode cX2_look 43 = .ok (.aload_n 1, 1) := by decide +kernel
theorem dX2_look_44 : decode cX2_look 44 = .ok (.invokevirtual 31, 3) := by decide +kernel
theorem dX2_look_47 : decode cX2_look 47 = .ok (.if_icmp .ge 40, 3) := by decide +kernel
theorem dX2_look_50 : decode cX2_look 50 = .ok (.iload_n 3, 1) := by decide +kernel
theorem dX2_look_51 : decode cX2_look 51 = .ok (.iload 4, 2) := by decide +kernel
theorem dX2_look_53 : decode cX2_look 53 = .ok (.ishr, 1) := by decide +kernel
theorem dX2_look_54 : decode cX2_look 54 = .ok (.iconst 1, 1) := by decide +kernel
theorem dX2_look_55 : decode cX2_look 55 = .ok (.iand, 1) := by decide +kernel
theorem dX2_look_56 : decode cX2_look 56 = .ok (.ifCond .eq 25, 3) := by decide +kernel
theorem dX2_look_59 : decode cX2_look 59 = .ok (.aload_n 0, 1) := by decide +kernel
theorem dX2_look_60 : decode cX2_look 60 = .ok (.getfield 15, 3) := by decide +kernel
theorem dX2_look_63 : decode cX2_look 63 = .ok (.iconst 0, 1) := by decide +kernel
theorem dX2_look_64 : decode cX2_look 64 = .ok (.aload_n 1, 1) := by decide +kernel
theorem dX2_look_65 : decode cX2_look 65 = .ok (.getfield 35, 3) := by decide +kernel
theorem dX2_look_68 : decode cX2_look 68 = .ok (.iload 4, 2) := by decide +kernel
theorem dX2_look_70 : decode cX2_look 70 = .ok (.iaload, 1) := by decide +kernel
theorem dX2_look_71 : decode cX2_look 71 = .ok (.aload_n 1, 1) := by decide +kernel
theorem dX2_look_72 : decode cX2_look 72 = .ok (.iload 4, 2) := by decide +kernel
theorem dX2_look_74 : decode cX2_look 74 = .ok (.iload_n 2, 1) := by decide +kernel
theorem dX2_look_75 : decode cX2_look 75 = .ok (.invokevirtual 38, 3) := by decide +kernel
theorem dX2_look_78 : decode cX2_look 78 = .ok (.invokestatic 41, 3) := by decide +kernel
theorem dX2_look_81 : decode cX2_look 81 = .ok (.iinc 4 1, 3) := by decide +kernel
theorem dX2_look_84 : decode cX2_look 84 = .ok (.goto (-43), 3) := by decide +kernel
theorem dX2_look_87 : decode cX2_look 87 = .ok (.return_, 1) := by decide +kernel
theorem dX2_guess_0 : decode cX2_guess 0 = .ok (.aload_n 0, 1) := by decide +kernel
theorem dX2_guess_1 : decode cX2_guess 1 = .ok (.iconst 0, 1) := by decide +kernel
theorem dX2_guess_2 : decode cX2_guess 2 = .ok (.putfield 18, 3) := by decide +kernel
theorem dX2_guess_5 : decode cX2_guess 5 = .ok (.aload_n 0, 1) := by decide +kernel
theorem dX2_guess_6 : decode cX2_guess 6 = .ok (.iconst 0, 1) := by decide +kernel
theorem dX2_guess_7 : decode cX2_guess 7 = .ok (.putfield 22, 3) := by decide +kernel
theorem dX2_guess_10 : decode cX2_guess 10 = .ok (.iload_n 1, 1) := by decide +kernel
theorem dX2_guess_11 : decode cX2_guess 11 = .ok (.ifCond .gt 5, 3) := by decide +kernel
theorem dX2_guess_14 : decode cX2_guess 14 = .ok (.iconst 0, 1) := by decide +kernel
theorem dX2_guess_15 : decode cX2_guess 15 = .ok (.ireturn, 1) := by decide +kernel
theorem dX2_guess_16 : decode cX2_guess 16 = .ok (.iconst 0, 1) := by decide +kernel
theorem dX2_guess_17 : decode cX2_guess 17 = .ok (.istore_n 2, 1) := by decide +kernel
theorem dX2_guess_18 : decode cX2_guess 18 = .ok (.iload_n 2, 1) := by decide +kernel
theorem dX2_guess_19 : decode cX2_guess 19 = .ok (.bipush 12, 2) := by decide +kernel
theorem dX2_guess_21 : decode cX2_guess 21 = .ok (.if_icmp .ge 88, 3) := by decide +kernel
theorem dX2_guess_24 : decode cX2_guess 24 = .ok (.aload_n 0, 1) := by decide +kernel
theorem dX2_guess_25 : decode cX2_guess 25 = .ok (.getfield 9, 3) := by decide +kernel
theorem dX2_guess_28 : decode cX2_guess 28 = .ok (.iload_n 2, 1) := by decide +kernel
theorem dX2_guess_29 : decode cX2_guess 29 = .ok (.iaload, 1) := by decide +kernel
theorem dX2_guess_30 : decode cX2_guess 30 = .ok (.aload_n 0, 1) := by decide +kernel
theorem dX2_guess_31 : decode cX2_guess 31 = .ok (.getfield 15, 3) := by decide +kernel
theorem dX2_guess_34 : decode cX2_guess 34 = .ok (.iload_n 2, 1) := by decide +kernel
theorem dX2_guess_35 : decode cX2_guess 35 = .ok (.iaload, 1) := by decide +kernel
theorem dX2_guess_36 : decode cX2_guess 36 = .ok (.if_icmp .eq 7, 3) := by decide +kernel
theorem dX2_guess_39 : decode cX2_guess 39 = .ok (.iconst 1, 1) := by decide +kernel
theorem dX2_guess_40 : decode cX2_guess 40 = .ok (.goto 4, 3) := by decide +kernel
theorem dX2_guess_43 : decode cX2_guess 43 = .ok (.iconst 0, 1) := by decide +kernel
theorem dX2_guess_44 : decode cX2_guess 44 = .ok (.istore_n 3, 1) := by decide +kernel
theorem dX2_guess_45 : decode cX2_guess 45 = .ok (.iload_n 3, 1) := by decide +kernel
theorem dX2_guess_46 : decode cX2_guess 46 = .ok (.ifCond .eq 15, 3) := by decide +kernel
theorem dX2_guess_49 : decode cX2_guess 49 = .ok (.aload_n 0, 1) := by decide +kernel
theorem dX2_guess_50 : decode cX2_guess 50 = .ok (.getfield 9, 3) := by decide +kernel
theorem dX2_guess_53 : decode cX2_guess 53 = .ok (.iload_n 2, 1) := by decide +kernel
theorem dX2_guess_54 : decode cX2_guess 54 = .ok (.iaload, 1) := by decide +kernel
theorem dX2_guess_55 : decode cX2_guess 55 = .ok (.iload_n 1, 1) := by decide +kernel
theorem dX2_guess_56 : decode cX2_guess 56 = .ok (.if_icmp .eq 5, 3) := by decide +kernel
theorem dX2_guess_59 : decode cX2_guess 59 = .ok (.iconst 0, 1) := by decide +kernel
theorem dX2_guess_60 : decode cX2_guess 60 = .ok (.ireturn, 1) := by decide +kernel
theorem dX2_guess_61 : decode cX2_guess 61 = .ok (.iload_n 3, 1) := by decide +kernel
theorem dX2_guess_62 : decode cX2_guess 62 = .ok (.ifCond .eq 15, 3) := by decide +kernel
theorem dX2_guess_65 : decode cX2_guess 65 = .ok (.aload_n 0, 1) := by decide +kernel
theorem dX2_guess_66 : decode cX2_guess 66 = .ok (.dup, 1) := by decide +kernel
theorem dX2_guess_67 : decode cX2_guess 67 = .ok (.getfield 18, 3) := by decide +kernel
theorem dX2_guess_70 : decode cX2_guess 70 = .ok (.iconst 1, 1) := by decide +kernel
theorem dX2_guess_71 : decode cX2_guess 71 = .ok (.iload_n 2, 1) := by decide +kernel
theorem dX2_guess_72 : decode cX2_guess 72 = .ok (.ishl, 1) := by decide +kernel
theorem dX2_guess_73 : decode cX2_guess 73 = .ok (.ior, 1) := by decide +kernel
theorem dX2_guess_74 : decode cX2_guess 74 = .ok (.putfield 18, 3) := by decide +kernel
theorem dX2_guess_77 : decode cX2_guess 77 = .ok (.iload_n 3, 1) := by decide +kernel
theorem dX2_guess_78 : decode cX2_guess 78 = .ok (.ifCond .ne 13, 3) := by decide +kernel
theorem dX2_guess_81 : decode cX2_guess 81 = .ok (.aload_n 0, 1) := by decide +kernel
theorem dX2_guess_82 : decode cX2_guess 82 = .ok (.getfield 15, 3) := by decide +kernel
theorem dX2_guess_85 : decode cX2_guess 85 = .ok (.iload_n 2, 1) := by decide +kernel
theorem dX2_guess_86 : decode cX2_guess 86 = .ok (.iaload, 1) := by decide +kernel
theorem dX2_guess_87 : decode cX2_guess 87 = .ok (.iload_n 1, 1) := by decide +kernel
theorem dX2_guess_88 : decode cX2_guess 88 = .ok (.if_icmp .lt 15, 3) := by decide +kernel
theorem dX2_guess_91 : decode cX2_guess 91 = .ok (.aload_n 0, 1) := by decide +kernel
theorem dX2_guess_92 : decode cX2_guess 92 = .ok (.dup, 1) := by decide +kernel
theorem dX2_guess_93 : decode cX2_guess 93 = .ok (.getfield 22, 3) := by decide +kernel
theorem dX2_guess_96 : decode cX2_guess 96 = .ok (.iconst 1, 1) := by decide +kernel
theorem dX2_guess_97 : decode cX2_guess 97 = .ok (.iload_n 2, 1) := by decide +kernel
theorem dX2_guess_98 : decode cX2_guess 98 = .ok (.ishl, 1) := by decide +kernel
theorem dX2_guess_99 : decode cX2_guess 99 = .ok (.ior, 1) := by decide +kernel
theorem dX2_guess_100 : decode cX2_guess 100 = .ok (.putfield 22, 3) := by decide +kernel
theorem dX2_guess_103 : decode cX2_guess 103 = .ok (.iinc 2 1, 3) := by decide +kernel
theorem dX2_guess_106 : decode cX2_guess 106 = .ok (.goto (-88), 3) := by decide +kernel
theorem dX2_guess_109 : decode cX2_guess 109 = .ok (.iconst 1, 1) := by decide +kernel
theorem dX2_guess_110 : decode cX2_guess 110 = .ok (.ireturn, 1) := by decide +kernel
theorem dX2_isFit_0 : decode cX2_isFit 0 = .ok (.iload_n 1, 1) := by decide +kernel
theorem dX2_isFit_1 : decode cX2_isFit 1 = .ok (.aload_n 0, 1) := by decide +kernel
theorem dX2_isFit_2 : decode cX2_isFit 2 = .ok (.getfield 18, 3) := by decide +kernel
theorem dX2_isFit_5 : decode cX2_isFit 5 = .ok (.iand, 1) := by decide +kernel
theorem dX2_isFit_6 : decode cX2_isFit 6 = .ok (.aload_n 0, 1) := by decide +kernel
theorem dX2_isFit_7 : decode cX2_isFit 7 = .ok (.getfield 18, 3) := by decide +kernel
theorem dX2_isFit_10 : decode cX2_isFit 10 = .ok (.if_icmp .ne 18, 3) := by decide +kernel
theorem dX2_isFit_13 : decode cX2_isFit 13 = .ok (.iload_n 1, 1) := by decide +kernel
theorem dX2_isFit_14 : decode cX2_isFit 14 = .ok (.aload_n 0, 1) := by decide +kernel
theorem dX2_isFit_15 : decode cX2_isFit 15 = .ok (.getfield 22, 3) := by decide +kernel
theorem dX2_isFit_18 : decode cX2_isFit 18 = .ok (.iconst (-1), 1) := by decide +kernel
theorem dX2_isFit_19 : decode cX2_isFit 19 = .ok (.ixor, 1) := by decide +kernel
theorem dX2_isFit_20 : decode cX2_isFit 20 = .ok (.iand, 1) := by decide +kernel
theorem dX2_isFit_21 : decode cX2_isFit 21 = .ok (.ifCond .ne 7, 3) := by decide +kernel
theorem dX2_isFit_24 : decode cX2_isFit 24 = .ok (.iconst 1, 1) := by decide +kernel
theorem dX2_isFit_25 : decode cX2_isFit 25 = .ok (.goto 4, 3) := by decide +kernel
theorem dX2_isFit_28 : decode cX2_isFit 28 = .ok (.iconst 0, 1) := by decide +kernel
theorem dX2_isFit_29 : decode cX2_isFit 29 = .ok (.ireturn, 1) := by decide +kernel
theorem dX4_beginAnew_0 : decode cX4_beginAnew 0 = .ok (.aload_n 0, 1) := by decide +kernel
theorem dX4_beginAnew_1 : decode cX4_beginAnew 1 = .ok (.iload_n 1, 1) := by decide +kernel
theorem dX4_beginAnew_2 : decode cX4_beginAnew 2 = .ok (.putfield 22, 3) := by decide +kernel
theorem dX4_beginAnew_5 : decode cX4_beginAnew 5 = .ok (.aload_n 0, 1) := by decide +kernel
theorem dX4_beginAnew_6 : decode cX4_beginAnew 6 = .ok (.iconst 0, 1) := by decide +kernel
theorem dX4_beginAnew_7 : decode cX4_beginAnew 7 = .ok (.putfield 25, 3) := by decide +kernel
theorem dX4_beginAnew_10 : decode cX4_beginAnew 10 = .ok (.aload_n 0, 1) := by decide +kernel
theorem dX4_beginAnew_11 : decode cX4_beginAnew 11 = .ok (.iconst 0, 1) := by decide +kernel
theorem dX4_beginAnew_12 : decode cX4_beginAnew 12 = .ok (.putfield 18, 3) := by decide +kernel
theorem dX4_beginAnew_15 : decode cX4_beginAnew 15 = .ok (.aload_n 0, 1) := by decide +kernel
theorem dX4_beginAnew_16 : decode cX4_beginAnew 16 = .ok (.iconst 0, 1) := by decide +kernel
theorem dX4_beginAnew_17 : decode cX4_beginAnew 17 = .ok (.putfield 46, 3) := by decide +kernel
theorem dX4_beginAnew_20 : decode cX4_beginAnew 20 = .ok (.iconst 0, 1) := by decide +kernel
theorem dX4_beginAnew_21 : decode cX4_beginAnew 21 = .ok (.istore_n 2, 1) := by decide +kernel
theorem dX4_beginAnew_22 : decode cX4_beginAnew 22 = .ok (.iload_n 2, 1) := by decide +kernel
theorem dX4_beginAnew_23 : decode cX4_beginAnew 23 = .ok (.aload_n 0, 1) := by decide +kernel
theorem dX4_beginAnew_24 : decode cX4_beginAnew 24 = .ok (.getfield 11, 3) := by decide +kernel
theorem dX4_beginAnew_27 : decode cX4_beginAnew 27 = .ok (.arraylength, 1) := by decide +kernel
theorem dX4_beginAnew_28 : decode cX4_beginAnew 28 = .ok (.if_icmp .ge 16, 3) := by decide +kernel
theorem dX4_beginAnew_31 : decode cX4_beginAnew 31 = .ok (.aload_n 0, 1) := by decide +kernel
theorem dX4_beginAnew_32 : decode cX4_beginAnew 32 = .ok (.getfield 11, 3) := by decide +kernel
theorem dX4_beginAnew_35 : decode cX4_beginAnew 35 = .ok (.iload_n 2, 1) := by decide +kernel
theorem dX4_beginAnew_36 : decode cX4_beginAnew 36 = .ok (.iconst 0, 1) := by decide +kernel
theorem dX4_beginAnew_37 : decode cX4_beginAnew 37 = .ok (.iastore, 1) := by decide +kernel
theorem dX4_beginAnew_38 : decode cX4_beginAnew 38 = .ok (.iinc 2 1, 3) := by decide +kernel
theorem dX4_beginAnew_41 : decode cX4_beginAnew 41 = .ok (.goto (-19), 3) := by decide +kernel
theorem dX4_beginAnew_44 : decode cX4_beginAnew 44 = .ok (.return_, 1) := by decide +kernel
theorem dX4_copyFrom_0 : decode cX4_copyFrom 0 = .ok (.aload_n 0, 1) := by decide +kernel
theorem dX4_copyFrom_1 : decode cX4_copyFrom 1 = .ok (.aload_n 1, 1) := by decide +kernel
theorem dX4_copyFrom_2 : decode cX4_copyFrom 2 = .ok (.getfield 22, 3) := by decide +kernel
theorem dX4_copyFrom_5 : decode cX4_copyFrom 5 = .ok (.putfield 22, 3) := by decide +kernel
theorem dX4_copyFrom_8 : decode cX4_copyFrom 8 = .ok (.aload_n 0, 1) := by decide +kernel
theorem dX4_copyFrom_9 : decode cX4_copyFrom 9 = .ok (.aload_n 1, 1) := by decide +kernel
theorem dX4_copyFrom_10 : decode cX4_copyFrom 10 = .ok (.getfield 25, 3) := by decide +kernel
theorem dX4_copyFrom_13 : decode cX4_copyFrom 13 = .ok (.putfield 25, 3) := by decide +kernel
theorem dX4_copyFrom_16 : decode cX4_copyFrom 16 = .ok (.aload_n 0, 1) := by decide +kernel
theorem dX4_copyFrom_17 : decode cX4_copyFrom 17 = .ok (.aload_n 1, 1) := by decide +kernel
theorem dX4_copyFrom_18 : decode cX4_copyFrom 18 = .ok (.getfield 18, 3) := by decide +kernel
theorem dX4_copyFrom_21 : decode cX4_copyFrom 21 = .ok (.putfield 18, 3) := by decide +kernel
theorem dX4_copyFrom_24 : decode cX4_copyFrom 24 = .ok (.aload_n 0, 1) := by decide +kernel
theorem dX4_copyFrom_25 : decode cX4_copyFrom 25 = .ok (.aload_n 1, 1) := by decide +kernel
theorem dX4_copyFrom_26 : decode cX4_copyFrom 26 = .ok (.getfield 46, 3) := by decide +kernel
theorem dX4_copyFrom_29 : decode cX4_copyFrom 29 = .ok (.putfield 46, 3) := by decide +kernel
theorem dX4_copyFrom_32 : decode cX4_copyFrom 32 = .ok (.aload_n 1, 1) := by decide +kernel
theorem dX4_copyFrom_33 : decode cX4_copyFrom 33 = .ok (.getfield 11, 3) := by decide +kernel
theorem dX4_copyFrom_36 : decode cX4_copyFrom 36 = .ok (.iconst 0, 1) := by decide +kernel
theorem dX4_copyFrom_37 : decode cX4_copyFrom 37 = .ok (.aload_n 0, 1) := by decide +kernel
theorem dX4_copyFrom_38 : decode cX4_copyFrom 38 = .ok (.getfield 11, 3) := by decide +kernel
theorem dX4_copyFrom_41 : decode cX4_copyFrom 41 = .ok (.iconst 0, 1) := by decide +kernel
theorem dX4_copyFrom_42 : decode cX4_copyFrom 42 = .ok (.bipush 86, 2) := by decide +kernel
theorem dX4_copyFrom_44 : decode cX4_copyFrom 44 = .ok (.invokestatic 49, 3) := by decide +kernel
theorem dX4_copyFrom_47 : decode cX4_copyFrom 47 = .ok (.aload_n 1, 1) := by decide +kernel
theorem dX4_copyFrom_48 : decode cX4_copyFrom 48 = .ok (.getfield 15, 3) := by decide +kernel
theorem dX4_copyFrom_51 : decode cX4_copyFrom 51 = .ok (.iconst 0, 1) := by decide +kernel
theorem dX4_copyFrom_52 : decode cX4_copyFrom 52 = .ok (.aload_n 0, 1) := by decide +kernel
theorem dX4_copyFrom_53 : decode cX4_copyFrom 53 = .ok (.getfield 15, 3) := by decide +kernel
theorem dX4_copyFrom_56 : decode cX4_copyFrom 56 = .ok (.iconst 0, 1) := by decide +kernel
theorem dX4_copyFrom_57 : decode cX4_copyFrom 57 = .ok (.aload_n 0, 1) := by decide +kernel
theorem dX4_copyFrom_58 : decode cX4_copyFrom 58 = .ok (.getfield 18, 3) := by decide +kernel
theorem dX4_copyFrom_61 : decode cX4_copyFrom 61 = .ok (.bipush 86, 2) := by decide +kernel
theorem dX4_copyFrom_63 : decode cX4_copyFrom 63 = .ok (.imul, 1) := by decide +kernel
theorem dX4_copyFrom_64 : decode cX4_copyFrom 64 = .ok (.invokestatic 49, 3) := by decide +kernel
theorem dX4_copyFrom_67 : decode cX4_copyFrom 67 = .ok (.aload_n 1, 1) := by decide +kernel
theorem dX4_copyFrom_68 : decode cX4_copyFrom 68 = .ok (.getfield 28, 3) := by decide +kernel
theorem dX4_copyFrom_71 : decode cX4_copyFrom 71 = .ok (.iconst 0, 1) := by decide +kernel
theorem dX4_copyFrom_72 : decode cX4_copyFrom 72 = .ok (.aload_n 0, 1) := by decide +kernel
theorem dX4_copyFrom_73 : decode cX4_copyFrom 73 = .ok (.getfield 28, 3) := by decide +kernel
theorem dX4_copyFrom_76 : decode cX4_copyFrom 76 = .ok (.iconst 0, 1) := by decide +kernel
theorem dX4_copyFrom_77 : decode cX4_copyFrom 77 = .ok (.bipush 10, 2) := by decide +kernel
theorem dX4_copyFrom_79 : decode cX4_copyFrom 79 = .ok (.invokestatic 49, 3) := by decide +kernel
theorem dX4_copyFrom_82 : decode cX4_copyFrom 82 = .ok (.aload_n 1, 1) := by decide +kernel
theorem dX4_copyFrom_83 : decode cX4_copyFrom 83 = .ok (.getfield 31, 3) := by decide +kernel
theorem dX4_copyFrom_86 : decode cX4_copyFrom 86 = .ok (.iconst 0, 1) := by decide +kernel
theorem dX4_copyFrom_87 : decode cX4_copyFrom 87 = .ok (.aload_n 0, 1) := by decide +kernel
theorem dX4_copyFrom_88 : decode cX4_copyFrom 88 = .ok (.getfield 31, 3) := by decide +kernel
theorem dX4_copyFrom_91 : decode cX4_copyFrom 91 = .ok (.iconst 0, 1) := by decide +kernel
theorem dX4_copyFrom_92 : decode cX4_copyFrom 92 = .ok (.bipush 10, 2) := by decide +kernel
theorem dX4_copyFrom_94 : decode cX4_copyFrom 94 = .ok (.invokestatic 49, 3) := by decide +kernel
theorem dX4_copyFrom_97 : decode cX4_copyFrom 97 = .ok (.aload_n 1, 1) := by decide +kernel
theorem dX4_copyFrom_98 : decode cX4_copyFrom 98 = .ok (.getfield 34, 3) := by decide +kernel
theorem dX4_copyFrom_101 : decode cX4_copyFrom 101 = .ok (.iconst 0, 1) := by decide +kernel
theorem dX4_copyFrom_102 : decode cX4_copyFrom 102 = .ok (.aload_n 0, 1) := by decide +kernel
theorem dX4_copyFrom_103 : decode cX4_copyFrom 103 = .ok (.getfield 34, 3) := by decide +kernel
theorem dX4_copyFrom_106 : decode cX4_copyFrom 106 = .ok (.iconst 0, 1) := by decide +kernel
theorem dX4_copyFrom_107 : decode cX4_copyFrom 107 = .ok (.bipush 10, 2) := by decide +kernel
theorem dX4_copyFrom_109 : decode cX4_copyFrom 109 = .ok (.invokestatic 49, 3) := by decide +kernel
theorem dX4_copyFrom_112 : decode cX4_copyFrom 112 = .ok (.aload_n 1, 1) := by decide +kernel
theorem dX4_copyFrom_113 : decode cX4_copyFrom 113 = .ok (.getfield 37, 3) := by decide +kernel
theorem dX4_copyFrom_116 : decode cX4_copyFrom 116 = .ok (.iconst 0, 1) := by decide +kernel
theorem dX4_copyFrom_117 : decode cX4_copyFrom 117 = .ok (.aload_n 0, 1) := by decide +kernel
theorem dX4_copyFrom_118 : decode cX4_copyFrom 118 = .ok (.getfield 37, 3) := by decide +kernel
theorem dX4_copyFrom_121 : decode cX4_copyFrom 121 = .ok (.iconst 0, 1) := by decide +kernel
theorem dX4_copyFrom_122 : decode cX4_copyFrom 122 = .ok (.bipush 10, 2) := by decide +kernel
theorem dX4_copyFrom_124 : decode cX4_copyFrom 124 = .ok (.invokestatic 49, 3) := by decide +kernel
theorem dX4_copyFrom_127 : decode cX4_copyFrom 127 = .ok (.aload_n 1, 1) := by decide +kernel
theorem dX4_copyFrom_128 : decode cX4_copyFrom 128 = .ok (.getfield 40, 3) := by decide +kernel
theorem dX4_copyFrom_131 : decode cX4_copyFrom 131 = .ok (.iconst 0, 1) := by decide +kernel
theorem dX4_copyFrom_132 : decode cX4_copyFrom 132 = .ok (.aload_n 0, 1) := by decide +kernel
theorem dX4_copyFrom_133 : decode cX4_copyFrom 133 = .ok (.getfield 40, 3) := by decide +kernel
theorem dX4_copyFrom_136 : decode cX4_copyFrom 136 = .ok (.iconst 0, 1) := by decide +kernel
theorem dX4_copyFrom_137 : decode cX4_copyFrom 137 = .ok (.bipush 60, 2) := by decide +kernel
theorem dX4_copyFrom_139 : decode cX4_copyFrom 139 = .ok (.invokestatic 49, 3) := by decide +kernel
theorem dX4_copyFrom_142 : decode cX4_copyFrom 142 = .ok (.aload_n 1, 1) := by decide +kernel
theorem dX4_copyFrom_143 : decode cX4_copyFrom 143 = .ok (.getfield 43, 3) := by decide +kernel
theorem dX4_copyFrom_146 : decode cX4_copyFrom 146 = .ok (.iconst 0, 1) := by decide +kernel
theorem dX4_copyFrom_147 : decode cX4_copyFrom 147 = .ok (.aload_n 0, 1) := by decide +kernel
theorem dX4_copyFrom_148 : decode cX4_copyFrom 148 = .ok (.getfield 43, 3) := by decide +kernel
theorem dX4_copyFrom_151 : decode cX4_copyFrom 151 = .ok (.iconst 0, 1) := by decide +kernel
theorem dX4_copyFrom_152 : decode cX4_copyFrom 152 = .ok (.bipush 8, 2) := by decide +kernel
theorem dX4_copyFrom_154 : decode cX4_copyFrom 154 = .ok (.invokestatic 49, 3) := by decide +kernel
theorem dX4_copyFrom_157 : decode cX4_copyFrom 157 = .ok (.return_, 1) := by decide +kernel
theorem dX4_keepForUndo_0 : decode cX4_keepForUndo 0 = .ok (.aload_n 0, 1) := by decide +kernel
theorem dX4_keepForUndo_1 : decode cX4_keepForUndo 1 = .ok (.getfield 18, 3) := by decide +kernel
theorem dX4_keepForUndo_4 : decode cX4_keepForUndo 4 = .ok (.bipush 8, 2) := by decide +kernel
theorem dX4_keepForUndo_6 : decode cX4_keepForUndo 6 = .ok (.if_icmp .lt 26, 3) := by decide +kernel
theorem dX4_keepForUndo_9 : decode cX4_keepForUndo 9 = .ok (.aload_n 0, 1) := by decide +kernel
theorem dX4_keepForUndo_10 : decode cX4_keepForUndo 10 = .ok (.getfield 15, 3) := by decide +kernel
theorem dX4_keepForUndo_13 : decode cX4_keepForUndo 13 = .ok (.bipush 86, 2) := by decide +kernel
theorem dX4_keepForUndo_15 : decode cX4_keepForUndo 15 = .ok (.aload_n 0, 1) := by decide +kernel
theorem dX4_keepForUndo_16 : decode cX4_keepForUndo 16 = .ok (.getfield 15, 3) := by decide +kernel
theorem dX4_keepForUndo_19 : decode cX4_keepForUndo 19 = .ok (.iconst 0, 1) := by decide +kernel
theorem dX4_keepForUndo_20 : decode cX4_keepForUndo 20 = .ok (.sipush 602, 3) := by decide +kernel
theorem dX4_keepForUndo_23 : decode cX4_keepForUndo 23 = .ok (.invokestatic 49, 3) := by decide +kernel
theorem dX4_keepForUndo_26 : decode cX4_keepForUndo 26 = .ok (.aload_n 0, 1) := by decide +kernel
theorem dX4_keepForUndo_27 : decode cX4_keepForUndo 27 = .ok (.bipush 7, 2) := by decide +kernel
theorem dX4_keepForUndo_29 : decode cX4_keepForUndo 29 = .ok (.putfield 18, 3) := by decide +kernel
theorem dX4_keepForUndo_32 : decode cX4_keepForUndo 32 = .ok (.aload_n 0, 1) := by decide +kernel
theorem dX4_keepForUndo_33 : decode cX4_keepForUndo 33 = .ok (.getfield 11, 3) := by decide +kernel
theorem dX4_keepForUndo_36 : decode cX4_keepForUndo 36 = .ok (.iconst 0, 1) := by decide +kernel
theorem dX4_keepForUndo_37 : decode cX4_keepForUndo 37 = .ok (.aload_n 0, 1) := by decide +kernel
theorem dX4_keepForUndo_38 : decode cX4_keepForUndo 38 = .ok (.getfield 15, 3) := by decide +kernel
theorem dX4_keepForUndo_41 : decode cX4_keepForUndo 41 = .ok (.aload_n 0, 1) := by decide +kernel
theorem dX4_keepForUndo_42 : decode cX4_keepForUndo 42 = .ok (.getfield 18, 3) := by decide +kernel
theorem dX4_keepForUndo_45 : decode cX4_keepForUndo 45 = .ok (.bipush 86, 2) := by decide +kernel
theorem dX4_keepForUndo_47 : decode cX4_keepForUndo 47 = .ok (.imul, 1) := by decide +kernel
theorem dX4_keepForUndo_48 : decode cX4_keepForUndo 48 = .ok (.bipush 86, 2) := by decide +kernel
theorem dX4_keepForUndo_50 : decode cX4_keepForUndo 50 = .ok (.invokestatic 49, 3) := by decide +kernel
theorem dX4_keepForUndo_53 : decode cX4_keepForUndo 53 = .ok (.aload_n 0, 1) := by decide +kernel
theorem dX4_keepForUndo_54 : decode cX4_keepForUndo 54 = .ok (.dup, 1) := by decide +kernel
theorem dX4_keepForUndo_55 : decode cX4_keepForUndo 55 = .ok (.getfield 18, 3) := by decide +kernel
theorem dX4_keepForUndo_58 : decode cX4_keepForUndo 58 = .ok (.iconst 1, 1) := by decide +kernel
theorem dX4_keepForUndo_59 : decode cX4_keepForUndo 59 = .ok (.iadd, 1) := by decide +kernel
theorem dX4_keepForUndo_60 : decode cX4_keepForUndo 60 = .ok (.putfield 18, 3) := by decide +kernel
theorem dX4_keepForUndo_63 : decode cX4_keepForUndo 63 = .ok (.return_, 1) := by decide +kernel
theorem dX4_goBack_0 : decode cX4_goBack 0 = .ok (.aload_n 0, 1) := by decide +kernel
theorem dX4_goBack_1 : decode cX4_goBack 1 = .ok (.getfield 18, 3) := by decide +kernel
theorem dX4_goBack_4 : decode cX4_goBack 4 = .ok (.ifCond .le 34, 3) := by decide +kernel
theorem dX4_goBack_7 : decode cX4_goBack 7 = .ok (.aload_n 0, 1) := by decide +kernel
theorem dX4_goBack_8 : decode cX4_goBack 8 = .ok (.dup, 1) := by decide +kernel
theorem dX4_goBack_9 : decode cX4_goBack 9 = .ok (.getfield 18, 3) := by decide +kernel
theorem dX4_goBack_12 : decode cX4_goBack 12 = .ok (.iconst 1, 1) := by decide +kernel
theorem dX4_goBack_13 : decode cX4_goBack 13 = .ok (.isub, 1) := by decide +kernel
theorem dX4_goBack_14 : decode cX4_goBack 14 = .ok (.putfield 18, 3) := by decide +kernel
theorem dX4_goBack_17 : decode cX4_goBack 17 = .ok (.aload_n 0, 1) := by decide +kernel
theorem dX4_goBack_18 : decode cX4_goBack 18 = .ok (.getfield 15, 3) := by decide +kernel
theorem dX4_goBack_21 : decode cX4_goBack 21 = .ok (.aload_n 0, 1) := by decide +kernel
theorem dX4_goBack_22 : decode cX4_goBack 22 = .ok (.getfield 18, 3) := by decide +kernel
theorem dX4_goBack_25 : decode cX4_goBack 25 = .ok (.bipush 86, 2) := by decide +kernel
theorem dX4_goBack_27 : decode cX4_goBack 27 = .ok (.imul, 1) := by decide +kernel
theorem dX4_goBack_28 : decode cX4_goBack 28 = .ok (.aload_n 0, 1) := by decide +kernel
theorem dX4_goBack_29 : decode cX4_goBack 29 = .ok (.getfield 11, 3) := by decide +kernel
theorem dX4_goBack_32 : decode cX4_goBack 32 = .ok (.iconst 0, 1) := by decide +kernel
theorem dX4_goBack_33 : decode cX4_goBack 33 = .ok (.bipush 86, 2) := by decide +kernel
theorem dX4_goBack_35 : decode cX4_goBack 35 = .ok (.invokestatic 49, 3) := by decide +kernel
theorem dX4_goBack_38 : decode cX4_goBack 38 = .ok (.return_, 1) := by decide +kernel
theorem dX4_top_0 : decode cX4_top 0 = .ok (.aload_n 0, 1) := by decide +kernel
theorem dX4_top_1 : decode cX4_top 1 = .ok (.getfield 11, 3) := by decide +kernel
theorem dX4_top_4 : decode cX4_top 4 = .ok (.iconst 0, 1) := by decide +kernel
theorem dX4_top_5 : decode cX4_top 5 = .ok (.iaload, 1) := by decide +kernel
theorem dX4_top_6 : decode cX4_top 6 = .ok (.ireturn, 1) := by decide +kernel
theorem dX4_isUsedUp_0 : decode cX4_isUsedUp 0 = .ok (.aload_n 0, 1) := by decide +kernel
theorem dX4_isUsedUp_1 : decode cX4_isUsedUp 1 = .ok (.getfield 11, 3) := by decide +kernel
theorem dX4_isUsedUp_4 : decode cX4_isUsedUp 4 = .ok (.iconst 0, 1) := by decide +kernel
theorem dX4_isUsedUp_5 : decode cX4_isUsedUp 5 = .ok (.iaload, 1) := by decide +kernel
theorem dX4_isUsedUp_6 : decode cX4_isUsedUp 6 = .ok (.aload_n 0, 1) := by decide +kernel
theorem dX4_isUsedUp_7 : decode cX4_isUsedUp 7 = .ok (.getfield 22, 3) := by decide +kernel
theorem dX4_isUsedUp_10 : decode cX4_isUsedUp 10 = .ok (.if_icmp .lt 7, 3) := by decide +kernel
theorem dX4_isUsedUp_13 : decode cX4_isUsedUp 13 = .ok (.iconst 1, 1) := by decide +kernel
theorem dX4_isUsedUp_14 : decode cX4_isUsedUp 14 = .ok (.goto 4, 3) := by decide +kernel
theorem dX4_isUsedUp_17 : decode cX4_isUsedUp 17 = .ok (.iconst 0, 1) := by decide +kernel
theorem dX4_isUsedUp_18 : decode cX4_isUsedUp 18 = .ok (.ireturn, 1) := by decide +kernel
theorem dX4_hasSheet_0 : decode cX4_hasSheet 0 = .ok (.iload_n 1, 1) := by decide +kernel
theorem dX4_hasSheet_1 : decode cX4_hasSheet 1 = .ok (.ifCond .lt 15, 3) := by decide +kernel
theorem dX4_hasSheet_4 : decode cX4_hasSheet 4 = .ok (.iload_n 1, 1) := by decide +kernel
theorem dX4_hasSheet_5 : decode cX4_hasSheet 5 = .ok (.aload_n 0, 1) := by decide +kernel
theorem dX4_hasSheet_6 : decode cX4_hasSheet 6 = .ok (.getfield 22, 3) := by decide +kernel
theorem dX4_hasSheet_9 : decode cX4_hasSheet 9 = .ok (.if_icmp .ge 7, 3) := by decide +kernel
theorem dX4_hasSheet_12 : decode cX4_hasSheet 12 = .ok (.iconst 1, 1) := by decide +kernel
theorem dX4_hasSheet_13 : decode cX4_hasSheet 13 = .ok (.goto 4, 3) := by decide +kernel
theorem dX4_hasSheet_16 : decode cX4_hasSheet 16 = .ok (.iconst 0, 1) := by decide +kernel
theorem dX4_hasSheet_17 : decode cX4_hasSheet 17 = .ok (.ireturn, 1) := by decide +kernel
theorem dX4_hasSheets_0 : decode cX4_hasSheets 0 = .ok (.iload_n 1, 1) := by decide +kernel
theorem dX4_hasSheets_1 : decode cX4_hasSheets 1 = .ok (.ifCond .lt 17, 3) := by decide +kernel
theorem dX4_hasSheets_4 : decode cX4_hasSheets 4 = .ok (.iload_n 1, 1) := by decide +kernel
theorem dX4_hasSheets_5 : decode cX4_hasSheets 5 = .ok (.iconst 1, 1) := by decide +kernel
theorem dX4_hasSheets_6 : decode cX4_hasSheets 6 = .ok (.aload_n 0, 1) := by decide +kernel
theorem dX4_hasSheets_7 : decode cX4_hasSheets 7 = .ok (.getfield 22, 3) := by decide +kernel
theorem dX4_hasSheets_10 : decode cX4_hasSheets 10 = .ok (.ishl, 1) := by decide +kernel
theorem dX4_hasSheets_11 : decode cX4_hasSheets 11 = .ok (.if_icmp .ge 7, 3) := by decide +kernel
theorem dX4_hasSheets_14 : decode cX4_hasSheets 14 = .ok (.iconst 1, 1) := by decide +kernel
theorem dX4_hasSheets_15 : decode cX4_hasSheets 15 = .ok (.goto 4, 3) := by decide +kernel
theorem dX4_hasSheets_18 : decode cX4_hasSheets 18 = .ok (.iconst 0, 1) := by decide +kernel
theorem dX4_hasSheets_19 : decode cX4_hasSheets 19 = .ok (.ireturn, 1) := by decide +kernel
theorem dX4_hasNote_0 : decode cX4_hasNote 0 = .ok (.iload_n 1, 1) := by decide +kernel
theorem dX4_hasNote_1 : decode cX4_hasNote 1 = .ok (.ifCond .lt 17, 3) := by decide +kernel
theorem dX4_hasNote_4 : decode cX4_hasNote 4 = .ok (.iload_n 1, 1) := by decide +kernel
theorem dX4_hasNote_5 : decode cX4_hasNote 5 = .ok (.aload_n 0, 1) := by decide +kernel
theorem dX4_hasNote_6 : decode cX4_hasNote 6 = .ok (.getfield 11, 3) := by decide +kernel
theorem dX4_hasNote_9 : decode cX4_hasNote 9 = .ok (.iconst 1, 1) := by decide +kernel
theorem dX4_hasNote_10 : decode cX4_hasNote 10 = .ok (.iaload, 1) := by decide +kernel
theorem dX4_hasNote_11 : decode cX4_hasNote 11 = .ok (.if_icmp .ge 7, 3) := by decide +kernel
theorem dX4_hasNote_14 : decode cX4_hasNote 14 = .ok (.iconst 1, 1) := by decide +kernel
theorem dX4_hasNote_15 : decode cX4_hasNote 15 = .ok (.goto 4, 3) := by decide +kernel
theorem dX4_hasNote_18 : decode cX4_hasNote 18 = .ok (.iconst 0, 1) := by decide +kernel
theorem dX4_hasNote_19 : decode cX4_hasNote 19 = .ok (.ireturn, 1) := by decide +kernel
theorem dX4_hasNotes_0 : decode cX4_hasNotes 0 = .ok (.iload_n 1, 1) := by decide +kernel
theorem dX4_hasNotes_1 : decode cX4_hasNotes 1 = .ok (.ifCond .lt 19, 3) := by decide +kernel
theorem dX4_hasNotes_4 : decode cX4_hasNotes 4 = .ok (.iload_n 1, 1) := by decide +kernel
theorem dX4_hasNotes_5 : decode cX4_hasNotes 5 = .ok (.iconst 1, 1) := by decide +kernel
theorem dX4_hasNotes_6 : decode cX4_hasNotes 6 = .ok (.aload_n 0, 1) := by decide +kernel
theorem dX4_hasNotes_7 : decode cX4_hasNotes 7 = .ok (.getfield 11, 3) := by decide +kernel
theorem dX4_hasNotes_10 : decode cX4_hasNotes 10 = .ok (.iconst 1, 1) := by decide +kernel
theorem dX4_hasNotes_11 : decode cX4_hasNotes 11 = .ok (.iaload, 1) := by decide +kernel
theorem dX4_hasNotes_12 : decode cX4_hasNotes 12 = .ok (.ishl, 1) := by decide +kernel
theorem dX4_hasNotes_13 : decode cX4_hasNotes 13 = .ok (.if_icmp .ge 7, 3) := by decide +kernel
theorem dX4_hasNotes_16 : decode cX4_hasNotes 16 = .ok (.iconst 1, 1) := by decide +kernel
theorem dX4_hasNotes_17 : decode cX4_hasNotes 17 = .ok (.goto 4, 3) := by decide +kernel
theorem dX4_hasNotes_20 : decode cX4_hasNotes 20 = .ok (.iconst 0, 1) := by decide +kernel
theorem dX4_hasNotes_21 : decode cX4_hasNotes 21 = .ok (.ireturn, 1) := by decide +kernel
theorem dX4_inkOf_0 : decode cX4_inkOf 0 = .ok (.aload_n 0, 1) := by decide +kernel
theorem dX4_inkOf_1 : decode cX4_inkOf 1 = .ok (.getfield 11, 3) := by decide +kernel
theorem dX4_inkOf_4 : decode cX4_inkOf 4 = .ok (.iload_n 1, 1) := by decide +kernel
theorem dX4_inkOf_5 : decode cX4_inkOf 5 = .ok (.iconst 0, 1) := by decide +kernel
theorem dX4_inkOf_6 : decode cX4_inkOf 6 = .ok (.invokestatic 55, 3) := by decide +kernel
theorem dX4_inkOf_9 : decode cX4_inkOf 9 = .ok (.iaload, 1) := by decide +kernel
theorem dX4_inkOf_10 : decode cX4_inkOf 10 = .ok (.ireturn, 1) := by decide +kernel
theorem dX4_copyOf_0 : decode cX4_copyOf 0 = .ok (.aload_n 0, 1) := by decide +kernel
theorem dX4_copyOf_1 : decode cX4_copyOf 1 = .ok (.getfield 11, 3) := by decide +kernel
theorem dX4_copyOf_4 : decode cX4_copyOf 4 = .ok (.iload_n 1, 1) := by decide +kernel
theorem dX4_copyOf_5 : decode cX4_copyOf 5 = .ok (.iconst 1, 1) := by decide +kernel
theorem dX4_copyOf_6 : decode cX4_copyOf 6 = .ok (.invokestatic 55, 3) := by decide +kernel
theorem dX4_copyOf_9 : decode cX4_copyOf 9 = .ok (.iaload, 1) := by decide +kernel
theorem dX4_copyOf_10 : decode cX4_copyOf 10 = .ok (.ireturn, 1) := by decide +kernel
set_option maxHeartbeats 4000000 in
set_option maxRecDepth 100000 in
theorem ctX4_placeOf (l : Launch) (E : VE)  (x0 : Int32) (x1 : Int32)   {Post : Int32 → Prop} (hw : wpX4_placeOf x0 x1 Post) (sz : Nat) : Met l yX4_placeOf (mW yX4_placeOf cX4_placeOf 2 (some .int)) rmX4_placeOf (CPre E [.int x0, .int x1] sz (fl [])) (CQi E (fun (z : Int32) (_ : Unit) => Post z) (fun _ => (fl [])) (fl []) sz) 0 0 (va_A (fl []) sz) := by
  refine v_met (by decide) (Nat.le_of_ble_eq_true rfl) ?_
  intro pr e s m below meth c A hsz hA C
  subst hsz
  refine v_iconst (pc := 0) C 2 ki_2 dX4_placeOf_0 ?_
  refine v_iload_n (pc := 1) C 0 rfl rfl dX4_placeOf_1 ?_
  refine v_bipush (pc := 2) C 14 kb_14 dX4_placeOf_2 ?_
  refine v_imul (pc := 4) C dX4_placeOf_4 ?_
  refine v_iadd (pc := 5) C dX4_placeOf_5 ?_
  refine v_iload_n (pc := 6) C 1 rfl rfl dX4_placeOf_6 ?_
  refine v_iadd (pc := 7) C dX4_placeOf_7 ?_
  exact v_ireti (pc := 8) C () hA rfl hw dX4_placeOf_8
set_option maxHeartbeats 4000000 in
set_option maxRecDepth 100000 in
theorem ctX4_dentOf (l : Launch) (E : VE) (a : Nat → Nat) (x1 : Int32) (x2 : Int32) (p : St)  {Post : Int32 → Prop} (hw : wpX4_dentOf x1 x2 p Post) (sz : Nat) : Met l yX4_dentOf (mW yX4_dentOf cX4_dentOf 3 (some .int)) rmX4_dentOf (CPre E [.ref (a 0), .int x1, .int x2] sz (fl [bPad E a p])) (CQi E (fun (z : Int32) (_ : Unit) => Post z) (fun _ => (fl [bPad E a p])) (fl [bPad E a p]) sz) 0 0 (va_A (fl [bPad E a p]) sz) := by
  refine v_met (by decide) (Nat.le_of_ble_eq_true rfl) ?_
  intro pr e s m below meth c A hsz hA C
  subst hsz
  refine v_aload_n (pc := 0) C 0 rfl rfl dX4_dentOf_0 ?_
  refine v_get (pc := 1) C cfX4 rfl 0 0 rfl (by decide) wfX4_11 rfl dX4_dentOf_1 ?_
  refine v_iload_n (pc := 4) C 1 rfl rfl dX4_dentOf_4 ?_
  refine v_iconst (pc := 5) C 2 ki_2 dX4_dentOf_5 ?_
  refine v_iload_n (pc := 6) C 2 rfl rfl dX4_dentOf_6 ?_
  refine v_iadd (pc := 7) C dX4_dentOf_7 ?_
  refine v_goBi (pc := 8) C (bs := [bPad E a p]) (cs := []) (cs' := (fun (_ : Unit) => [])) (bs' := (fun (_ : Unit) => [bPad E a p])) (w' := (fun (_ : Unit) => (fl [bPad E a p]))) [] rfl rfl (fun _ => rfl) (fun _ => rfl) (fun _ => rfl) (v_runSB (pc := 8) C [.int x1, .int ((2 : Int32) + x2)] [.ref (a 1)] (fun sz => ctX4_placeOf l E x1 ((2 : Int32) + x2) hw sz) [] rfl rfl rfl mfX4_placeOf msX4_placeOf wmX4_55 rfl ⟨Nat.le_of_ble_eq_true rfl, Nat.le_of_ble_eq_true rfl⟩ ⟨rfl, rfl⟩ rfl (Nat.le_of_ble_eq_true rfl) ⟨Nat.zero_le _, Nat.zero_le _⟩ dX4_dentOf_8) (fun r1 _ hw => ?_)
  obtain ⟨hg, hw⟩ := hw
  refine v_iald (pc := 11) C 1 rfl hg rfl dX4_dentOf_11 ?_
  exact v_ireti (pc := 12) C () hA rfl hw dX4_dentOf_12
set_option maxHeartbeats 4000000 in
set_option maxRecDepth 100000 in
theorem ctX4_noteCount (l : Launch) (E : VE) (a : Nat → Nat)  (p : St)  {Post : Int32 → Prop} (hw : wpX4_noteCount p Post) (sz : Nat) : Met l yX4_noteCount (mW yX4_noteCount cX4_noteCount 1 (some .int)) rmX4_noteCount (CPre E [.ref (a 0)] sz (fl [bPad E a p])) (CQi E (fun (z : Int32) (_ : Unit) => Post z) (fun _ => (fl [bPad E a p])) (fl [bPad E a p]) sz) 0 0 (va_A (fl [bPad E a p]) sz) := by
  refine v_met (by decide) (Nat.le_of_ble_eq_true rfl) ?_
  intro pr e s m below meth c A hsz hA C
  subst hsz
  refine v_aload_n (pc := 0) C 0 rfl rfl dX4_noteCount_0 ?_
  refine v_get (pc := 1) C cfX4 rfl 0 0 rfl (by decide) wfX4_11 rfl dX4_noteCount_1 ?_
  refine v_iconst (pc := 4) C 1 ki_1 dX4_noteCount_4 ?_
  refine v_iald (pc := 5) C 1 rfl vi_1_86 tn_1 dX4_noteCount_5 ?_
  exact v_ireti (pc := 6) C () hA rfl hw dX4_noteCount_6
set_option maxHeartbeats 4000000 in
set_option maxRecDepth 100000 in
theorem ctX4_forceDown (l : Launch) (E : VE) (a : Nat → Nat) (x1 : Int32) (x2 : Int32) (p : St)  {Post : Int32 → Prop} (hw : wpX4_forceDown x1 x2 p Post) (sz : Nat) : Met l yX4_forceDown (mW yX4_forceDown cX4_forceDown 3 (some .int)) rmX4_forceDown (CPre E [.ref (a 0), .int x1, .int x2] sz (fl [bPad E a p])) (CQi E (fun (z : Int32) (_ : Unit) => Post z) (fun _ => (fl [bPad E a p])) (fl [bPad E a p]) sz) 0 0 (va_A (fl [bPad E a p]) sz) := by
  refine v_met (by decide) (Nat.le_of_ble_eq_true rfl) ?_
  intro pr e s m below meth c A hsz hA C
  subst hsz
  refine v_iload_n (pc := 0) C 2 rfl rfl dX4_forceDown_0 ?_
  refine v_if_lt (pc := 1) C 10 (by decide) dX4_forceDown_1 (fun hc => ?_) (fun hc => ?_)
  · have hw := hw.1 hc
    refine v_iconst (pc := 10) C 0 ki_0 dX4_forceDown_10 ?_
    refine v_goto (pc := 11) C 25 (by decide) dX4_forceDown_11 ?_
    exact v_ireti (pc := 25) C () hA rfl hw dX4_forceDown_25
  · have hw := hw.2 hc
    refine v_iload_n (pc := 4) C 2 rfl rfl dX4_forceDown_4 ?_
    refine v_bipush (pc := 5) C 6 kb_6 dX4_forceDown_5 ?_
    refine v_icmp_lt (pc := 7) C 14 (by decide) dX4_forceDown_7 (fun hc => ?_) (fun hc => ?_)
    · have hw := hw.1 hc
      refine v_aload_n (pc := 14) C 0 rfl rfl dX4_forceDown_14 ?_
      refine v_get (pc := 15) C cfX4 rfl 0 9 rfl (by decide) wfX4_40 rfl dX4_forceDown_15 ?_
      refine v_iload_n (pc := 18) C 1 rfl rfl dX4_forceDown_18 ?_
      refine v_bipush (pc := 19) C 6 kb_6 dX4_forceDown_19 ?_
      refine v_imul (pc := 21) C dX4_forceDown_21 ?_
      refine v_iload_n (pc := 22) C 2 rfl rfl dX4_forceDown_22 ?_
      refine v_iadd (pc := 23) C dX4_forceDown_23 ?_
      obtain ⟨hg, hw⟩ := hw
      refine v_iald (pc := 24) C 7 rfl hg rfl dX4_forceDown_24 ?_
      exact v_ireti (pc := 25) C () hA rfl hw dX4_forceDown_25
    · have hw := hw.2 hc
      refine v_iconst (pc := 10) C 0 ki_0 dX4_forceDown_10 ?_
      refine v_goto (pc := 11) C 25 (by decide) dX4_forceDown_11 ?_
      exact v_ireti (pc := 25) C () hA rfl hw dX4_forceDown_25
set_option maxHeartbeats 4000000 in
set_option maxRecDepth 100000 in
theorem ctX4_forceOn (l : Launch) (E : VE) (a : Nat → Nat) (x1 : Int32) (x2 : Int32) (p : St)  {Post : Int32 → Prop} (hw : wpX4_forceOn x1 x2 p Post) (sz : Nat) : Met l yX4_forceOn (mW yX4_forceOn cX4_forceOn 3 (some .int)) rmX4_forceOn (CPre E [.ref (a 0), .int x1, .int x2] sz (fl [bPad E a p])) (CQi E (fun (z : Int32) (_ : Unit) => Post z) (fun _ => (fl [bPad E a p])) (fl [bPad E a p]) sz) 0 0 (va_A (fl [bPad E a p]) sz) := by
  refine v_met (by decide) (Nat.le_of_ble_eq_true rfl) ?_
  intro pr e s m below meth c A hsz hA C
  subst hsz
  refine v_aload_n (pc := 0) C 0 rfl rfl dX4_forceOn_0 ?_
  refine v_iload_n (pc := 1) C 1 rfl rfl dX4_forceOn_1 ?_
  refine v_iload_n (pc := 2) C 2 rfl rfl dX4_forceOn_2 ?_
  refine v_aload_n (pc := 3) C 0 rfl rfl dX4_forceOn_3 ?_
  refine v_get (pc := 4) C cfX4 rfl 0 8 rfl (by decide) wfX4_37 rfl dX4_forceOn_4 ?_
  refine v_iload_n (pc := 7) C 1 rfl rfl dX4_forceOn_7 ?_
  obtain ⟨hg, hw⟩ := hw
  refine v_iald (pc := 8) C 6 rfl hg rfl dX4_forceOn_8 ?_
  refine v_isub (pc := 9) C dX4_forceOn_9 ?_
  refine v_goAi (pc := 10) C (wc' := (fun (_ : Unit) => (fl [bPad E a p]))) (fun _ => rfl) (v_runVA (pc := 10) C [.int x1, .int (x2 - ((p.A 8) x1.toNatClampNeg))] [] (fun sz => ctX4_forceDown l E a x1 (x2 - ((p.A 8) x1.toNatClampNeg)) p hw sz) mfX4_forceDown mvX4_forceDown wmX4_80 rfl ⟨Nat.le_of_ble_eq_true rfl, Nat.le_of_ble_eq_true rfl⟩ ⟨rfl, rfl⟩ 0 (ci := 4) (qc := (RX4, TX4, 12)) rfl rfl rfl rfl (Nat.le_of_ble_eq_true rfl) ⟨Nat.zero_le _, Nat.zero_le _⟩ dX4_forceOn_10) (fun r1 _ hw => ?_)
  exact v_ireti (pc := 13) C () hA rfl hw dX4_forceOn_13
set_option maxHeartbeats 4000000 in
set_option maxRecDepth 100000 in
theorem vlX11_dentInto_3 (C : VC pr s m args meth c E A cX11_dentInto 6 none RX11) (hA : va_A w0 s.heap.size = A) (a : Nat → Nat) (n0 : Nat) {Post : (Nat → Int32) → Prop} {KX : (Nat → Int32) → Prop} (hX : ∀ (p : (Nat → Int32)), KX p → V pr l e rmX11_dentInto s m args below meth c E A 6 0 0 (MQ below (CQv E Post (fun u => (fl [bArr E a n0 u])) w0 s.heap.size) args s 0 0 A) (fl [bArr E a n0 p]) 56 [] []) : ∀ (n : Nat) (x1 : Int32) (x2 : Int32) (x3 : Int32) (x4 : Int32) (p : (Nat → Int32)), wLX11_dentInto_3 n0 Post KX n (x1, x2, x3, x4, p) → V pr l e rmX11_dentInto s m args below meth c E A 6 0 0 (MQ below (CQv E Post (fun u => (fl [bArr E a n0 u])) w0 s.heap.size) args s 0 0 A) (fl [bArr E a n0 p]) 3 [(0, .ref (a 0)), (1, .int x1), (2, .int x2), (3, .int x3), (4, .int x4)] [] := by
  intro n
  induction n with
  | zero => intro x1 x2 x3 x4 p hw; exact absurd hw id
  | succ n hself =>
    intro x1 x2 x3 x4 p hw
    have hw : wlX11_dentInto_3 n0 Post KX (wLX11_dentInto_3 n0 Post KX n) x1 x2 x3 x4 p := hw
    refine v_iload (pc := 3) C 4 rfl dX11_dentInto_3 ?_
    refine v_bipush (pc := 5) C 12 kb_12 dX11_dentInto_5 ?_
    refine v_icmp_ge (pc := 7) C 56 (by decide) dX11_dentInto_7 (fun hc => ?_) (fun hc => ?_)
    · have hw := hw.1 hc
      refine v_sub (lv' := []) [] rfl ?_
      exact hX p hw
    · have hw := hw.2 hc
      refine v_iload_n (pc := 10) C 1 rfl rfl dX11_dentInto_10 ?_
      refine v_iload (pc := 11) C 4 rfl dX11_dentInto_11 ?_
      refine v_iadd (pc := 13) C dX11_dentInto_13 ?_
      refine v_topi (fun x5_1 ex => ?_)
      have hw := hw x5_1 ex
      refine v_istore (pc := 14) C [(5, .int x5_1), (0, .ref (a 0)), (1, .int x1), (2, .int x2), (3, .int x3), (4, .int x4)] rfl (by decide) dX11_dentInto_14 ?_
      refine v_iload_n (pc := 16) C 3 rfl rfl dX11_dentInto_16 ?_
      refine v_iload (pc := 17) C 5 rfl dX11_dentInto_17 ?_
      refine v_ishr (pc := 19) C dX11_dentInto_19 ?_
      refine v_iconst (pc := 20) C 1 ki_1 dX11_dentInto_20 ?_
      refine v_iand (pc := 21) C dX11_dentInto_21 ?_
      refine v_if_eq (pc := 22) C 50 (by decide) dX11_dentInto_22 (fun hc => ?_) (fun hc => ?_)
      · have hw := hw.1 hc
        obtain ⟨x4_2, ex⟩ : ∃ y : Int32, y = x4 + 1 := ⟨_, rfl⟩
        have hw := hw x4_2 ex
        refine v_iinc (pc := 50) C 5 rfl (by rw [ex, ki_1]) [(4, .int x4_2), (5, .int x5_1), (0, .ref (a 0)), (1, .int x1), (2, .int x2), (3, .int x3)] rfl (by decide) dX11_dentInto_50 ?_
        refine v_goto (pc := 53) C 3 (by decide) dX11_dentInto_53 ?_
        refine v_sub (lv' := [(0, .ref (a 0)), (1, .int x1), (2, .int x2), (3, .int x3), (4, .int x4_2)]) [2, 3, 4, 5, 0] rfl ?_
        exact hself x1 x2 x3 x4_2 p hw
      · have hw := hw.2 hc
        refine v_iload (pc := 25) C 0 rfl dX11_dentInto_25 ?_
        refine v_if_lt (pc := 27) C 50 (by decide) dX11_dentInto_27 (fun hc => ?_) (fun hc => ?_)
        · have hw := hw.1 hc
          obtain ⟨x4_3, ex⟩ : ∃ y : Int32, y = x4 + 1 := ⟨_, rfl⟩
          have hw := hw x4_3 ex
          refine v_iinc (pc := 50) C 5 rfl (by rw [ex, ki_1]) [(4, .int x4_3), (5, .int x5_1), (0, .ref (a 0)), (1, .int x1), (2, .int x2), (3, .int x3)] rfl (by decide) dX11_dentInto_50 ?_
          refine v_goto (pc := 53) C 3 (by decide) dX11_dentInto_53 ?_
          refine v_sub (lv' := [(0, .ref (a 0)), (1, .int x1), (2, .int x2), (3, .int x3), (4, .int x4_3)]) [2, 3, 4, 5, 0] rfl ?_
          exact hself x1 x2 x3 x4_3 p hw
        · have hw := hw.2 hc
          refine v_iload (pc := 30) C 0 rfl dX11_dentInto_30 ?_
          refine v_aload_n (pc := 32) C 1 rfl rfl dX11_dentInto_32 ?_
          refine v_alen (pc := 33) C 0 (v := (Int32.ofNat n0)) rfl rfl dX11_dentInto_33 ?_
          refine v_icmp_ge (pc := 34) C 50 (by decide) dX11_dentInto_34 (fun hc => ?_) (fun hc => ?_)
          · have hw := hw.1 hc
            obtain ⟨x4_4, ex⟩ : ∃ y : Int32, y = x4 + 1 := ⟨_, rfl⟩
            have hw := hw x4_4 ex
            refine v_iinc (pc := 50) C 5 rfl (by rw [ex, ki_1]) [(4, .int x4_4), (5, .int x5_1), (0, .ref (a 0)), (1, .int x1), (2, .int x2), (3, .int x3)] rfl (by decide) dX11_dentInto_50 ?_
            refine v_goto (pc := 53) C 3 (by decide) dX11_dentInto_53 ?_
            refine v_sub (lv' := [(0, .ref (a 0)), (1, .int x1), (2, .int x2), (3, .int x3), (4, .int x4_4)]) [2, 3, 4, 5, 0] rfl ?_
            exact hself x1 x2 x3 x4_4 p hw
          · have hw := hw.2 hc
            refine v_aload_n (pc := 37) C 1 rfl rfl dX11_dentInto_37 ?_
            refine v_iload (pc := 38) C 0 rfl dX11_dentInto_38 ?_
            obtain ⟨hg, hw⟩ := hw
            refine v_iald (pc := 40) C 0 rfl hg rfl dX11_dentInto_40 ?_
            refine v_iload_n (pc := 41) C 4 rfl rfl dX11_dentInto_41 ?_
            refine v_icmp_ge (pc := 42) C 50 (by decide) dX11_dentInto_42 (fun hc => ?_) (fun hc => ?_)
            · have hw := hw.1 hc
              obtain ⟨x4_5, ex⟩ : ∃ y : Int32, y = x4 + 1 := ⟨_, rfl⟩
              have hw := hw x4_5 ex
              refine v_iinc (pc := 50) C 5 rfl (by rw [ex, ki_1]) [(4, .int x4_5), (5, .int x5_1), (0, .ref (a 0)), (1, .int x1), (2, .int x2), (3, .int x3)] rfl (by decide) dX11_dentInto_50 ?_
              refine v_goto (pc := 53) C 3 (by decide) dX11_dentInto_53 ?_
              refine v_sub (lv' := [(0, .ref (a 0)), (1, .int x1), (2, .int x2), (3, .int x3), (4, .int x4_5)]) [2, 3, 4, 5, 0] rfl ?_
              exact hself x1 x2 x3 x4_5 p hw
            · have hw := hw.2 hc
              refine v_aload_n (pc := 45) C 1 rfl rfl dX11_dentInto_45 ?_
              refine v_iload (pc := 46) C 0 rfl dX11_dentInto_46 ?_
              refine v_iload_n (pc := 48) C 4 rfl rfl dX11_dentInto_48 ?_
              obtain ⟨hg, hw⟩ := hw
              obtain ⟨p6, es⟩ : ∃ y : (Nat → Int32), y = (upd p x5_1.toNatClampNeg x3) := ⟨_, rfl⟩
              have hw := hw p6 es
              refine v_iast (pc := 49) C 0 (w' := (fl [bArr E a n0 p6])) rfl rfl (by subst es; rfl) hg dX11_dentInto_49 ?_
              obtain ⟨x4_7, ex⟩ : ∃ y : Int32, y = x4 + 1 := ⟨_, rfl⟩
              have hw := hw x4_7 ex
              refine v_iinc (pc := 50) C 5 rfl (by rw [ex, ki_1]) [(4, .int x4_7), (5, .int x5_1), (0, .ref (a 0)), (1, .int x1), (2, .int x2), (3, .int x3)] rfl (by decide) dX11_dentInto_50 ?_
              refine v_goto (pc := 53) C 3 (by decide) dX11_dentInto_53 ?_
              refine v_sub (lv' := [(0, .ref (a 0)), (1, .int x1), (2, .int x2), (3, .int x3), (4, .int x4_7)]) [2, 3, 4, 5, 0] rfl ?_
              exact hself x1 x2 x3 x4_7 p6 hw
set_option maxHeartbeats 4000000 in
set_option maxRecDepth 100000 in
theorem ctX11_dentInto (l : Launch) (E : VE) (a : Nat → Nat) (x1 : Int32) (x2 : Int32) (x3 : Int32) (p : (Nat → Int32)) (n0 : Nat) {Post : (Nat → Int32) → Prop} (hw : wpX11_dentInto x1 x2 x3 p n0 Post) (sz : Nat) : Met l yX11_dentInto (mW yX11_dentInto cX11_dentInto 6 none) rmX11_dentInto (CPre E [.ref (a 0), .int x1, .int x2, .int x3] sz (fl [bArr E a n0 p])) (CQv E Post (fun u => (fl [bArr E a n0 u])) (fl [bArr E a n0 p]) sz) 0 0 (va_A (fl [bArr E a n0 p]) sz) := by
  refine v_met (by decide) (Nat.le_of_ble_eq_true rfl) ?_
  intro pr e s m below meth c A hsz hA C
  subst hsz
  refine v_iconst (pc := 0) C 0 ki_0 dX11_dentInto_0 ?_
  refine v_istore (pc := 1) C [(4, .int 0), (0, .ref (a 0)), (1, .int x1), (2, .int x2), (3, .int x3)] rfl (by decide) dX11_dentInto_1 ?_
  obtain ⟨n, hw⟩ := hw
  refine v_sub (lv' := [(0, .ref (a 0)), (1, .int x1), (2, .int x2), (3, .int x3), (4, .int 0)]) [1, 2, 3, 4, 0] rfl ?_
  refine vlX11_dentInto_3 C hA a n0 (fun p8 hw => ?_) n x1 x2 x3 0 p hw
  exact v_vret (pc := 56) C p8 hA rfl hw dX11_dentInto_56
set_option maxHeartbeats 4000000 in
set_option maxRecDepth 100000 in
theorem vlX2_look_3 (C : VC pr s m args meth c E A cX2_look 5 none RX2) (hA : va_A w0 s.heap.size = A) (a : Nat → Nat) (b : Nat → Nat) (q : St) {Post : St → Prop} {KX : Int32 → Int32 → St → Prop} (hX : ∀ (x2 : Int32) (x3 : Int32) (p : St), KX x2 x3 p → V pr l e rmX2_look s m args below meth c E A 5 0 0 (MQ below (CQv E Post (fun u => (fl [bLost E a u, bPad E b q])) w0 s.heap.size) args s 0 0 A) (fl [bLost E a p, bPad E b q]) 38 [(0, .ref (a 0)), (1, .ref (b 0)), (2, .int x2), (3, .int x3)] []) : ∀ (n : Nat) (x2 : Int32) (x3 : Int32) (x4 : Int32) (p : St), wLX2_look_3 q Post KX n (x2, x3, x4, p) → V pr l e rmX2_look s m args below meth c E A 5 0 0 (MQ below (CQv E Post (fun u => (fl [bLost E a u, bPad E b q])) w0 s.heap.size) args s 0 0 A) (fl [bLost E a p, bPad E b q]) 3 [(0, .ref (a 0)), (1, .ref (b 0)), (2, .int x2), (3, .int x3), (4, .int x4)] [] := by
  intro n
  induction n with
  | zero => intro x2 x3 x4 p hw; exact absurd hw id
  | succ n hself =>
    intro x2 x3 x4 p hw
    have hw : wlX2_look_3 q Post KX (wLX2_look_3 q Post KX n) x2 x3 x4 p := hw
    refine v_iload (pc := 3) C 4 rfl dX2_look_3 ?_
    refine v_bipush (pc := 5) C 12 kb_12 dX2_look_5 ?_
    refine v_icmp_ge (pc := 7) C 38 (by decide) dX2_look_7 (fun hc => ?_) (fun hc => ?_)
    · have hw := hw.1 hc
      refine v_sub (lv' := [(0, .ref (a 0)), (1, .ref (b 0)), (2, .int x2), (3, .int x3)]) [0, 1, 2, 3] rfl ?_
      exact hX x2 x3 p hw
    · have hw := hw.2 hc
      refine v_aload_n (pc := 10) C 0 rfl rfl dX2_look_10 ?_
      refine v_get (pc := 11) C cfX2 rfl 0 0 rfl (by decide) wfX2_9 rfl dX2_look_11 ?_
      refine v_iload (pc := 14) C 4 rfl dX2_look_14 ?_
      refine v_aload_n (pc := 16) C 1 rfl rfl dX2_look_16 ?_
      refine v_iload_n (pc := 17) C 2 rfl rfl dX2_look_17 ?_
      refine v_iload (pc := 18) C 4 rfl dX2_look_18 ?_
      refine v_goBi (pc := 20) C (bs := [bLost E a p, bPad E b q]) (cs := [bPad E b q]) (cs' := (fun (_ : Unit) => [bPad E b q])) (bs' := (fun (_ : Unit) => [bLost E a p, bPad E b q])) (w' := (fun (_ : Unit) => (fl [bLost E a p, bPad E b q]))) [1] rfl rfl (fun _ => rfl) (fun _ => rfl) (fun _ => rfl) (v_runVB (pc := 20) C [.int x2, .int x4] [.int x4, .ref (a 1)] (fun sz => ctX4_dentOf l E b x2 x4 q hw sz) [1] rfl rfl rfl mfX4_dentOf mvX4_dentOf wmX2_25 rfl ⟨Nat.le_of_ble_eq_true rfl, Nat.le_of_ble_eq_true rfl⟩ ⟨rfl, rfl⟩ 3 (ci := 4) (qc := (RX4, TX4, 12)) rfl rfl rfl rfl (Nat.le_of_ble_eq_true rfl) ⟨Nat.zero_le _, Nat.zero_le _⟩ dX2_look_20) (fun r1 _ hw => ?_)
      obtain ⟨hg, hw⟩ := hw
      obtain ⟨p2, es⟩ : ∃ y : St, y = p.sA 0 (upd (p.A 0) x4.toNatClampNeg r1) := ⟨_, rfl⟩
      have hw := hw p2 es
      refine v_iast (pc := 23) C 1 (w' := (fl [bLost E a p2, bPad E b q])) rfl rfl (by subst es; rfl) hg dX2_look_23 ?_
      refine v_aload_n (pc := 24) C 0 rfl rfl dX2_look_24 ?_
      refine v_get (pc := 25) C cfX2 rfl 0 1 rfl (by decide) wfX2_15 rfl dX2_look_25 ?_
      refine v_iload (pc := 28) C 4 rfl dX2_look_28 ?_
      refine v_iconst (pc := 30) C 0 ki_0 dX2_look_30 ?_
      obtain ⟨hg, hw⟩ := hw
      obtain ⟨p3, es⟩ : ∃ y : St, y = p2.sA 1 (upd (p2.A 1) x4.toNatClampNeg 0) := ⟨_, rfl⟩
      have hw := hw p3 es
      refine v_iast (pc := 31) C 2 (w' := (fl [bLost E a p3, bPad E b q])) rfl rfl (by subst es; rfl) hg dX2_look_31 ?_
      obtain ⟨x4_4, ex⟩ : ∃ y : Int32, y = x4 + 1 := ⟨_, rfl⟩
      have hw := hw x4_4 ex
      refine v_iinc (pc := 32) C 4 rfl (by rw [ex, ki_1]) [(4, .int x4_4), (0, .ref (a 0)), (1, .ref (b 0)), (2, .int x2), (3, .int x3)] rfl (by decide) dX2_look_32 ?_
      refine v_goto (pc := 35) C 3 (by decide) dX2_look_35 ?_
      refine v_sub (lv' := [(0, .ref (a 0)), (1, .ref (b 0)), (2, .int x2), (3, .int x3), (4, .int x4_4)]) [1, 2, 3, 4, 0] rfl ?_
      exact hself x2 x3 x4_4 p3 hw
set_option maxHeartbeats 4000000 in
set_option maxRecDepth 100000 in
theorem vlX2_look_41 (C : VC pr s m args meth c E A cX2_look 5 none RX2) (hA : va_A w0 s.heap.size = A) (a : Nat → Nat) (b : Nat → Nat) (q : St) {Post : St → Prop} {KX : St → Prop} (hX : ∀ (p : St), KX p → V pr l e rmX2_look s m args below meth c E A 5 0 0 (MQ below (CQv E Post (fun u => (fl [bLost E a u, bPad E b q])) w0 s.heap.size) args s 0 0 A) (fl [bLost E a p, bPad E b q]) 87 [] []) : ∀ (n : Nat) (x2 : Int32) (x3 : Int32) (x4 : Int32) (p : St), wLX2_look_41 q Post KX n (x2, x3, x4, p) → V pr l e rmX2_look s m args below meth c E A 5 0 0 (MQ below (CQv E Post (fun u => (fl [bLost E a u, bPad E b q])) w0 s.heap.size) args s 0 0 A) (fl [bLost E a p, bPad E b q]) 41 [(0, .ref (a 0)), (1, .ref (b 0)), (2, .int x2), (3, .int x3), (4, .int x4)] [] := by
  intro n
  induction n with
  | zero => intro x2 x3 x4 p hw; exact absurd hw id
  | succ n hself =>
    intro x2 x3 x4 p hw
    have hw : wlX2_look_41 q Post KX (wLX2_look_41 q Post KX n) x2 x3 x4 p := hw
    refine v_iload (pc := 41) C 4 rfl dX2_look_41 ?_
    refine v_aload_n (pc := 43) C 1 rfl rfl dX2_look_43 ?_
    refine v_goBi (pc := 44) C (bs := [bLost E a p, bPad E b q]) (cs := [bPad E b q]) (cs' := (fun (_ : Unit) => [bPad E b q])) (bs' := (fun (_ : Unit) => [bLost E a p, bPad E b q])) (w' := (fun (_ : Unit) => (fl [bLost E a p, bPad E b q]))) [1] rfl rfl (fun _ => rfl) (fun _ => rfl) (fun _ => rfl) (v_runVB (pc := 44) C [] [.int x4] (fun sz => ctX4_noteCount l E b q hw sz) [1] rfl rfl rfl mfX4_noteCount mvX4_noteCount wmX2_31 rfl ⟨Nat.le_of_ble_eq_true rfl, Nat.le_of_ble_eq_true rfl⟩ ⟨rfl, rfl⟩ 3 (ci := 4) (qc := (RX4, TX4, 12)) rfl rfl rfl rfl (Nat.le_of_ble_eq_true rfl) ⟨Nat.zero_le _, Nat.zero_le _⟩ dX2_look_44) (fun r8 _ hw => ?_)
    refine v_icmp_ge (pc := 47) C 87 (by decide) dX2_look_47 (fun hc => ?_) (fun hc => ?_)
    · have hw := hw.1 hc
      refine v_sub (lv' := []) [] rfl ?_
      exact hX p hw
    · have hw := hw.2 hc
      refine v_iload_n (pc := 50) C 3 rfl rfl dX2_look_50 ?_
      refine v_iload (pc := 51) C 4 rfl dX2_look_51 ?_
      refine v_ishr (pc := 53) C dX2_look_53 ?_
      refine v_iconst (pc := 54) C 1 ki_1 dX2_look_54 ?_
      refine v_iand (pc := 55) C dX2_look_55 ?_
      refine v_if_eq (pc := 56) C 81 (by decide) dX2_look_56 (fun hc => ?_) (fun hc => ?_)
      · have hw := hw.1 hc
        obtain ⟨x4_9, ex⟩ : ∃ y : Int32, y = x4 + 1 := ⟨_, rfl⟩
        have hw := hw x4_9 ex
        refine v_iinc (pc := 81) C 4 rfl (by rw [ex, ki_1]) [(4, .int x4_9), (0, .ref (a 0)), (1, .ref (b 0)), (2, .int x2), (3, .int x3)] rfl (by decide) dX2_look_81 ?_
        refine v_goto (pc := 84) C 41 (by decide) dX2_look_84 ?_
        refine v_sub (lv' := [(0, .ref (a 0)), (1, .ref (b 0)), (2, .int x2), (3, .int x3), (4, .int x4_9)]) [1, 2, 3, 4, 0] rfl ?_
        exact hself x2 x3 x4_9 p hw
      · have hw := hw.2 hc
        refine v_aload_n (pc := 59) C 0 rfl rfl dX2_look_59 ?_
        refine v_get (pc := 60) C cfX2 rfl 0 1 rfl (by decide) wfX2_15 rfl dX2_look_60 ?_
        refine v_iconst (pc := 63) C 0 ki_0 dX2_look_63 ?_
        refine v_aload_n (pc := 64) C 1 rfl rfl dX2_look_64 ?_
        refine v_getN (pc := 65) C cfX4 rfl 3 7 rfl (by decide) wfX2_35 rfl dX2_look_65 ?_
        refine v_iload (pc := 68) C 4 rfl dX2_look_68 ?_
        obtain ⟨hg, hw⟩ := hw
        refine v_iald (pc := 70) C 8 rfl hg rfl dX2_look_70 ?_
        refine v_aload_n (pc := 71) C 1 rfl rfl dX2_look_71 ?_
        refine v_iload (pc := 72) C 4 rfl dX2_look_72 ?_
        refine v_iload_n (pc := 74) C 2 rfl rfl dX2_look_74 ?_
        refine v_goBi (pc := 75) C (bs := [bLost E a p, bPad E b q]) (cs := [bPad E b q]) (cs' := (fun (_ : Unit) => [bPad E b q])) (bs' := (fun (_ : Unit) => [bLost E a p, bPad E b q])) (w' := (fun (_ : Unit) => (fl [bLost E a p, bPad E b q]))) [1] rfl rfl (fun _ => rfl) (fun _ => rfl) (fun _ => rfl) (v_runVB (pc := 75) C [.int x4, .int x2] [.int ((q.A 7) x4.toNatClampNeg), .int 0, .ref (a 2)] (fun sz => ctX4_forceOn l E b x4 x2 q hw sz) [1] rfl rfl rfl mfX4_forceOn mvX4_forceOn wmX2_38 rfl ⟨Nat.le_of_ble_eq_true rfl, Nat.le_of_ble_eq_true rfl⟩ ⟨rfl, rfl⟩ 3 (ci := 4) (qc := (RX4, TX4, 12)) rfl rfl rfl rfl (Nat.le_of_ble_eq_true rfl) ⟨Nat.zero_le _, Nat.zero_le _⟩ dX2_look_75) (fun r10 _ hw => ?_)
        refine v_gov (pc := 78) C (wc := (fl [bArr E (fun _ => (a 2)) 12 (p.A 1)])) (wc' := (fun (u : (Nat → Int32)) => (fl [bArr E (fun _ => (a 2)) 12 u]))) (w' := (fun (u : (Nat → Int32)) => (fl [bLost E a (p.sA 1 u), bPad E b q]))) [2] rfl (fun _ => rfl) (fun _ => rfl) (v_runSN (pc := 78) C [.ref (a 2), .int 0, .int ((q.A 7) x4.toNatClampNeg), .int r10] [] (fun sz => ctX11_dentInto l E (fun _ => (a 2)) 0 ((q.A 7) x4.toNatClampNeg) r10 (p.A 1) 12 hw sz) [2] rfl rfl mfX11_dentInto msX11_dentInto wmX2_41 rfl ⟨Nat.le_of_ble_eq_true rfl, Nat.le_of_ble_eq_true rfl⟩ ⟨rfl, rfl⟩ rfl (Nat.le_of_ble_eq_true rfl) ⟨Nat.zero_le _, Nat.zero_le _⟩ dX2_look_78) (fun p11 hw => ?_)
        obtain ⟨x4_12, ex⟩ : ∃ y : Int32, y = x4 + 1 := ⟨_, rfl⟩
        have hw := hw x4_12 ex
        refine v_iinc (pc := 81) C 4 rfl (by rw [ex, ki_1]) [(4, .int x4_12), (0, .ref (a 0)), (1, .ref (b 0)), (2, .int x2), (3, .int x3)] rfl (by decide) dX2_look_81 ?_
        refine v_goto (pc := 84) C 41 (by decide) dX2_look_84 ?_
        refine v_sub (lv' := [(0, .ref (a 0)), (1, .ref (b 0)), (2, .int x2), (3, .int x3), (4, .int x4_12)]) [1, 2, 3, 4, 0] rfl ?_
        exact hself x2 x3 x4_12 (p.sA 1 p11) hw
set_option maxHeartbeats 4000000 in
set_option maxRecDepth 100000 in
theorem ctX2_look (l : Launch) (E : VE) (a : Nat → Nat) (b : Nat → Nat) (x2 : Int32) (x3 : Int32) (p : St) (q : St)  {Post : St → Prop} (hw : wpX2_look x2 x3 p q Post) (sz : Nat) : Met l yX2_look (mW yX2_look cX2_look 5 none) rmX2_look (CPre E [.ref (a 0), .ref (b 0), .int x2, .int x3] sz (fl [bLost E a p, bPad E b q])) (CQv E Post (fun u => (fl [bLost E a u, bPad E b q])) (fl [bLost E a p, bPad E b q]) sz) 0 0 (va_A (fl [bLost E a p, bPad E b q]) sz) := by
  refine v_met (by decide) (Nat.le_of_ble_eq_true rfl) ?_
  intro pr e s m below meth c A hsz hA C
  subst hsz
  refine v_iconst (pc := 0) C 0 ki_0 dX2_look_0 ?_
  refine v_istore (pc := 1) C [(4, .int 0), (0, .ref (a 0)), (1, .ref (b 0)), (2, .int x2), (3, .int x3)] rfl (by decide) dX2_look_1 ?_
  obtain ⟨n, hw⟩ := hw
  refine v_sub (lv' := [(0, .ref (a 0)), (1, .ref (b 0)), (2, .int x2), (3, .int x3), (4, .int 0)]) [1, 2, 3, 4, 0] rfl ?_
  refine vlX2_look_3 C hA a b q (fun y5 y6 p7 hw => ?_) n x2 x3 0 p hw
  refine v_iconst (pc := 38) C 0 ki_0 dX2_look_38 ?_
  refine v_istore (pc := 39) C [(4, .int 0), (0, .ref (a 0)), (1, .ref (b 0)), (2, .int y5), (3, .int y6)] rfl (by decide) dX2_look_39 ?_
  obtain ⟨n, hw⟩ := hw
  refine v_sub (lv' := [(0, .ref (a 0)), (1, .ref (b 0)), (2, .int y5), (3, .int y6), (4, .int 0)]) [1, 2, 3, 4, 0] rfl ?_
  refine vlX2_look_41 C hA a b q (fun p13 hw => ?_) n y5 y6 0 p7 hw
  exact v_vret (pc := 87) C p13 hA rfl hw dX2_look_87
set_option maxHeartbeats 4000000 in
set_option maxRecDepth 100000 in
theorem vjX2_guess_91 (C : VC pr s m args meth c E A cX2_guess 4 (some .boolean) RX2) (hA : va_A w0 s.heap.size = A) (a : Nat → Nat)  {Post : Int32 → St → Prop} {self : (Int32 × Int32 × St) → Prop} {KX : St → Prop} (x1 : Int32) (x2 : Int32) (p : St) (hw : wjX2_guess_91  Post self KX x1 x2 p) (hself : ∀ (x1 : Int32) (x2 : Int32) (p : St), self (x1, x2, p) → V pr l e rmX2_guess s m args below meth c E A 4 0 0 (MQ below (CQi E Post (fun u => (fl [bLost E a u])) w0 s.heap.size) args s 0 0 A) (fl [bLost E a p]) 18 [(0, .ref (a 0)), (1, .int x1), (2, .int x2)] []) (hX : ∀ (p : St), KX p → V pr l e rmX2_guess s m args below meth c E A 4 0 0 (MQ below (CQi E Post (fun u => (fl [bLost E a u])) w0 s.heap.size) args s 0 0 A) (fl [bLost E a p]) 109 [] []) : V pr l e rmX2_guess s m args below meth c E A 4 0 0 (MQ below (CQi E Post (fun u => (fl [bLost E a u])) w0 s.heap.size) args s 0 0 A) (fl [bLost E a p]) 91 [(0, .ref (a 0)), (1, .int x1), (2, .int x2)] [] := by
  refine v_aload_n (pc := 91) C 0 rfl rfl dX2_guess_91 ?_
  refine v_dup (pc := 92) C rfl dX2_guess_92 ?_
  refine v_get (pc := 93) C cfX2 rfl 0 3 rfl (by decide) wfX2_22 rfl dX2_guess_93 ?_
  refine v_iconst (pc := 96) C 1 ki_1 dX2_guess_96 ?_
  refine v_iload_n (pc := 97) C 2 rfl rfl dX2_guess_97 ?_
  refine v_ishl (pc := 98) C dX2_guess_98 ?_
  refine v_ior (pc := 99) C dX2_guess_99 ?_
  obtain ⟨p3, es⟩ : ∃ y : St, y = p.sI 3 ((p.I 3) ||| ((1 : Int32) <<< (x2 &&& 31))) := ⟨_, rfl⟩
  have hw := hw p3 es
  refine v_put (pc := 100) C cfX2 rfl 0 3 (ty := .int) (w' := (fl [bLost E a p3])) rfl (by subst es; rfl) (by decide) wfX2_22 rfl rfl rfl rfl (Nat.le_of_ble_eq_true rfl) dX2_guess_100 ?_
  obtain ⟨x2_4, ex⟩ : ∃ y : Int32, y = x2 + 1 := ⟨_, rfl⟩
  have hw := hw x2_4 ex
  refine v_iinc (pc := 103) C 2 rfl (by rw [ex, ki_1]) [(2, .int x2_4), (0, .ref (a 0)), (1, .int x1)] rfl (by decide) dX2_guess_103 ?_
  refine v_goto (pc := 106) C 18 (by decide) dX2_guess_106 ?_
  refine v_sub (lv' := [(0, .ref (a 0)), (1, .int x1), (2, .int x2_4)]) [1, 2, 0] rfl ?_
  exact hself x1 x2_4 p3 hw
set_option maxHeartbeats 4000000 in
set_option maxRecDepth 100000 in
theorem vjX2_guess_77 (C : VC pr s m args meth c E A cX2_guess 4 (some .boolean) RX2) (hA : va_A w0 s.heap.size = A) (a : Nat → Nat)  {Post : Int32 → St → Prop} {self : (Int32 × Int32 × St) → Prop} {KX : St → Prop} (x1 : Int32) (x2 : Int32) (x3 : Int32) (p : St) (hw : wjX2_guess_77  Post self KX x1 x2 x3 p) (hself : ∀ (x1 : Int32) (x2 : Int32) (p : St), self (x1, x2, p) → V pr l e rmX2_guess s m args below meth c E A 4 0 0 (MQ below (CQi E Post (fun u => (fl [bLost E a u])) w0 s.heap.size) args s 0 0 A) (fl [bLost E a p]) 18 [(0, .ref (a 0)), (1, .int x1), (2, .int x2)] []) (hX : ∀ (p : St), KX p → V pr l e rmX2_guess s m args below meth c E A 4 0 0 (MQ below (CQi E Post (fun u => (fl [bLost E a u])) w0 s.heap.size) args s 0 0 A) (fl [bLost E a p]) 109 [] []) : V pr l e rmX2_guess s m args below meth c E A 4 0 0 (MQ below (CQi E Post (fun u => (fl [bLost E a u])) w0 s.heap.size) args s 0 0 A) (fl [bLost E a p]) 77 [(0, .ref (a 0)), (1, .int x1), (2, .int x2), (3, .int x3)] [] := by
  refine v_iload_n (pc := 77) C 3 rfl rfl dX2_guess_77 ?_
  refine v_if_ne (pc := 78) C 91 (by decide) dX2_guess_78 (fun hc => ?_) (fun hc => ?_)
  · have hw := hw.1 hc
    refine v_sub (lv' := [(0, .ref (a 0)), (1, .int x1), (2, .int x2)]) [0, 1, 2] rfl ?_
    exact vjX2_guess_91 C hA a  x1 x2 p hw hself hX
  · have hw := hw.2 hc
    refine v_aload_n (pc := 81) C 0 rfl rfl dX2_guess_81 ?_
    refine v_get (pc := 82) C cfX2 rfl 0 1 rfl (by decide) wfX2_15 rfl dX2_guess_82 ?_
    refine v_iload_n (pc := 85) C 2 rfl rfl dX2_guess_85 ?_
    obtain ⟨hg, hw⟩ := hw
    refine v_iald (pc := 86) C 2 rfl hg rfl dX2_guess_86 ?_
    refine v_iload_n (pc := 87) C 1 rfl rfl dX2_guess_87 ?_
    refine v_icmp_lt (pc := 88) C 103 (by decide) dX2_guess_88 (fun hc => ?_) (fun hc => ?_)
    · have hw := hw.1 hc
      obtain ⟨x2_5, ex⟩ : ∃ y : Int32, y = x2 + 1 := ⟨_, rfl⟩
      have hw := hw x2_5 ex
      refine v_iinc (pc := 103) C 2 rfl (by rw [ex, ki_1]) [(2, .int x2_5), (0, .ref (a 0)), (1, .int x1), (3, .int x3)] rfl (by decide) dX2_guess_103 ?_
      refine v_goto (pc := 106) C 18 (by decide) dX2_guess_106 ?_
      refine v_sub (lv' := [(0, .ref (a 0)), (1, .int x1), (2, .int x2_5)]) [1, 2, 0] rfl ?_
      exact hself x1 x2_5 p hw
    · have hw := hw.2 hc
      refine v_sub (lv' := [(0, .ref (a 0)), (1, .int x1), (2, .int x2)]) [0, 1, 2] rfl ?_
      exact vjX2_guess_91 C hA a  x1 x2 p hw hself hX
set_option maxHeartbeats 4000000 in
set_option maxRecDepth 100000 in
theorem vjX2_guess_61 (C : VC pr s m args meth c E A cX2_guess 4 (some .boolean) RX2) (hA : va_A w0 s.heap.size = A) (a : Nat → Nat)  {Post : Int32 → St → Prop} {self : (Int32 × Int32 × St) → Prop} {KX : St → Prop} (x1 : Int32) (x2 : Int32) (x3 : Int32) (p : St) (hw : wjX2_guess_61  Post self KX x1 x2 x3 p) (hself : ∀ (x1 : Int32) (x2 : Int32) (p : St), self (x1, x2, p) → V pr l e rmX2_guess s m args below meth c E A 4 0 0 (MQ below (CQi E Post (fun u => (fl [bLost E a u])) w0 s.heap.size) args s 0 0 A) (fl [bLost E a p]) 18 [(0, .ref (a 0)), (1, .int x1), (2, .int x2)] []) (hX : ∀ (p : St), KX p → V pr l e rmX2_guess s m args below meth c E A 4 0 0 (MQ below (CQi E Post (fun u => (fl [bLost E a u])) w0 s.heap.size) args s 0 0 A) (fl [bLost E a p]) 109 [] []) : V pr l e rmX2_guess s m args below meth c E A 4 0 0 (MQ below (CQi E Post (fun u => (fl [bLost E a u])) w0 s.heap.size) args s 0 0 A) (fl [bLost E a p]) 61 [(0, .ref (a 0)), (1, .int x1), (2, .int x2), (3, .int x3)] [] := by
  refine v_iload_n (pc := 61) C 3 rfl rfl dX2_guess_61 ?_
  refine v_if_eq (pc := 62) C 77 (by decide) dX2_guess_62 (fun hc => ?_) (fun hc => ?_)
  · have hw := hw.1 hc
    refine v_sub (lv' := [(0, .ref (a 0)), (1, .int x1), (2, .int x2), (3, .int x3)]) [0, 1, 2, 3] rfl ?_
    exact vjX2_guess_77 C hA a  x1 x2 x3 p hw hself hX
  · have hw := hw.2 hc
    refine v_aload_n (pc := 65) C 0 rfl rfl dX2_guess_65 ?_
    refine v_dup (pc := 66) C rfl dX2_guess_66 ?_
    refine v_get (pc := 67) C cfX2 rfl 0 2 rfl (by decide) wfX2_18 rfl dX2_guess_67 ?_
    refine v_iconst (pc := 70) C 1 ki_1 dX2_guess_70 ?_
    refine v_iload_n (pc := 71) C 2 rfl rfl dX2_guess_71 ?_
    refine v_ishl (pc := 72) C dX2_guess_72 ?_
    refine v_ior (pc := 73) C dX2_guess_73 ?_
    obtain ⟨p6, es⟩ : ∃ y : St, y = p.sI 2 ((p.I 2) ||| ((1 : Int32) <<< (x2 &&& 31))) := ⟨_, rfl⟩
    have hw := hw p6 es
    refine v_put (pc := 74) C cfX2 rfl 0 2 (ty := .int) (w' := (fl [bLost E a p6])) rfl (by subst es; rfl) (by decide) wfX2_18 rfl rfl rfl rfl (Nat.le_of_ble_eq_true rfl) dX2_guess_74 ?_
    refine v_sub (lv' := [(0, .ref (a 0)), (1, .int x1), (2, .int x2), (3, .int x3)]) [0, 1, 2, 3] rfl ?_
    exact vjX2_guess_77 C hA a  x1 x2 x3 p6 hw hself hX
set_option maxHeartbeats 4000000 in
set_option maxRecDepth 100000 in
theorem vjX2_guess_44 (C : VC pr s m args meth c E A cX2_guess 4 (some .boolean) RX2) (hA : va_A w0 s.heap.size = A) (a : Nat → Nat)  {Post : Int32 → St → Prop} {self : (Int32 × Int32 × St) → Prop} {KX : St → Prop} (x1 : Int32) (x2 : Int32) (z0 : Int32) (p : St) (hw : wjX2_guess_44  Post self KX x1 x2 z0 p) (hself : ∀ (x1 : Int32) (x2 : Int32) (p : St), self (x1, x2, p) → V pr l e rmX2_guess s m args below meth c E A 4 0 0 (MQ below (CQi E Post (fun u => (fl [bLost E a u])) w0 s.heap.size) args s 0 0 A) (fl [bLost E a p]) 18 [(0, .ref (a 0)), (1, .int x1), (2, .int x2)] []) (hX : ∀ (p : St), KX p → V pr l e rmX2_guess s m args below meth c E A 4 0 0 (MQ below (CQi E Post (fun u => (fl [bLost E a u])) w0 s.heap.size) args s 0 0 A) (fl [bLost E a p]) 109 [] []) : V pr l e rmX2_guess s m args below meth c E A 4 0 0 (MQ below (CQi E Post (fun u => (fl [bLost E a u])) w0 s.heap.size) args s 0 0 A) (fl [bLost E a p]) 44 [(0, .ref (a 0)), (1, .int x1), (2, .int x2)] [.int z0] := by
  refine v_istore_n (pc := 44) C [(3, .int z0), (0, .ref (a 0)), (1, .int x1), (2, .int x2)] rfl rfl (by decide) dX2_guess_44 ?_
  refine v_iload_n (pc := 45) C 0 rfl rfl dX2_guess_45 ?_
  refine v_if_eq (pc := 46) C 61 (by decide) dX2_guess_46 (fun hc => ?_) (fun hc => ?_)
  · have hw := hw.1 hc
    refine v_sub (lv' := [(0, .ref (a 0)), (1, .int x1), (2, .int x2), (3, .int z0)]) [1, 2, 3, 0] rfl ?_
    exact vjX2_guess_61 C hA a  x1 x2 z0 p hw hself hX
  · have hw := hw.2 hc
    refine v_aload_n (pc := 49) C 1 rfl rfl dX2_guess_49 ?_
    refine v_get (pc := 50) C cfX2 rfl 0 0 rfl (by decide) wfX2_9 rfl dX2_guess_50 ?_
    refine v_iload_n (pc := 53) C 3 rfl rfl dX2_guess_53 ?_
    obtain ⟨hg, hw⟩ := hw
    refine v_iald (pc := 54) C 1 rfl hg rfl dX2_guess_54 ?_
    refine v_iload_n (pc := 55) C 2 rfl rfl dX2_guess_55 ?_
    refine v_icmp_eq (pc := 56) C 61 (by decide) dX2_guess_56 (fun hc => ?_) (fun hc => ?_)
    · have hw := hw.1 hc
      refine v_sub (lv' := [(0, .ref (a 0)), (1, .int x1), (2, .int x2), (3, .int z0)]) [1, 2, 3, 0] rfl ?_
      exact vjX2_guess_61 C hA a  x1 x2 z0 p hw hself hX
    · have hw := hw.2 hc
      refine v_iconst (pc := 59) C 0 ki_0 dX2_guess_59 ?_
      exact v_iretz (pc := 60) C rfl p hA rfl hw dX2_guess_60
set_option maxHeartbeats 4000000 in
set_option maxRecDepth 100000 in
theorem vlX2_guess_18 (C : VC pr s m args meth c E A cX2_guess 4 (some .boolean) RX2) (hA : va_A w0 s.heap.size = A) (a : Nat → Nat)  {Post : Int32 → St → Prop} {KX : St → Prop} (hX : ∀ (p : St), KX p → V pr l e rmX2_guess s m args below meth c E A 4 0 0 (MQ below (CQi E Post (fun u => (fl [bLost E a u])) w0 s.heap.size) args s 0 0 A) (fl [bLost E a p]) 109 [] []) : ∀ (n : Nat) (x1 : Int32) (x2 : Int32) (p : St), wLX2_guess_18  Post KX n (x1, x2, p) → V pr l e rmX2_guess s m args below meth c E A 4 0 0 (MQ below (CQi E Post (fun u => (fl [bLost E a u])) w0 s.heap.size) args s 0 0 A) (fl [bLost E a p]) 18 [(0, .ref (a 0)), (1, .int x1), (2, .int x2)] [] := by
  intro n
  induction n with
  | zero => intro x1 x2 p hw; exact absurd hw id
  | succ n hself =>
    intro x1 x2 p hw
    have hw : wlX2_guess_18  Post KX (wLX2_guess_18  Post KX n) x1 x2 p := hw
    refine v_iload_n (pc := 18) C 2 rfl rfl dX2_guess_18 ?_
    refine v_bipush (pc := 19) C 12 kb_12 dX2_guess_19 ?_
    refine v_icmp_ge (pc := 21) C 109 (by decide) dX2_guess_21 (fun hc => ?_) (fun hc => ?_)
    · have hw := hw.1 hc
      refine v_sub (lv' := []) [] rfl ?_
      exact hX p hw
    · have hw := hw.2 hc
      refine v_aload_n (pc := 24) C 0 rfl rfl dX2_guess_24 ?_
      refine v_get (pc := 25) C cfX2 rfl 0 0 rfl (by decide) wfX2_9 rfl dX2_guess_25 ?_
      refine v_iload_n (pc := 28) C 2 rfl rfl dX2_guess_28 ?_
      obtain ⟨hg, hw⟩ := hw
      refine v_iald (pc := 29) C 1 rfl hg rfl dX2_guess_29 ?_
      refine v_aload_n (pc := 30) C 0 rfl rfl dX2_guess_30 ?_
      refine v_get (pc := 31) C cfX2 rfl 0 1 rfl (by decide) wfX2_15 rfl dX2_guess_31 ?_
      refine v_iload_n (pc := 34) C 2 rfl rfl dX2_guess_34 ?_
      obtain ⟨hg, hw⟩ := hw
      refine v_iald (pc := 35) C 2 rfl hg rfl dX2_guess_35 ?_
      refine v_icmp_eq (pc := 36) C 43 (by decide) dX2_guess_36 (fun hc => ?_) (fun hc => ?_)
      · have hw := hw.1 hc
        refine v_iconst (pc := 43) C 0 ki_0 dX2_guess_43 ?_
        refine v_sub (lv' := [(0, .ref (a 0)), (1, .int x1), (2, .int x2)]) [0, 1, 2] rfl ?_
        exact vjX2_guess_44 C hA a  x1 x2 0 p hw hself hX
      · have hw := hw.2 hc
        refine v_iconst (pc := 39) C 1 ki_1 dX2_guess_39 ?_
        refine v_goto (pc := 40) C 44 (by decide) dX2_guess_40 ?_
        refine v_sub (lv' := [(0, .ref (a 0)), (1, .int x1), (2, .int x2)]) [0, 1, 2] rfl ?_
        exact vjX2_guess_44 C hA a  x1 x2 1 p hw hself hX
set_option maxHeartbeats 4000000 in
set_option maxRecDepth 100000 in
theorem ctX2_guess (l : Launch) (E : VE) (a : Nat → Nat) (x1 : Int32) (p : St)  {Post : Int32 → St → Prop} (hw : wpX2_guess x1 p Post) (sz : Nat) : Met l yX2_guess (mW yX2_guess cX2_guess 4 (some .boolean)) rmX2_guess (CPre E [.ref (a 0), .int x1] sz (fl [bLost E a p])) (CQi E Post (fun u => (fl [bLost E a u])) (fl [bLost E a p]) sz) 0 0 (va_A (fl [bLost E a p]) sz) := by
  refine v_met (by decide) (Nat.le_of_ble_eq_true rfl) ?_
  intro pr e s m below meth c A hsz hA C
  subst hsz
  refine v_aload_n (pc := 0) C 0 rfl rfl dX2_guess_0 ?_
  refine v_iconst (pc := 1) C 0 ki_0 dX2_guess_1 ?_
  obtain ⟨p1, es⟩ : ∃ y : St, y = p.sI 2 0 := ⟨_, rfl⟩
  have hw := hw p1 es
  refine v_put (pc := 2) C cfX2 rfl 0 2 (ty := .int) (w' := (fl [bLost E a p1])) rfl (by subst es; rfl) (by decide) wfX2_18 rfl rfl rfl rfl (Nat.le_of_ble_eq_true rfl) dX2_guess_2 ?_
  refine v_aload_n (pc := 5) C 0 rfl rfl dX2_guess_5 ?_
  refine v_iconst (pc := 6) C 0 ki_0 dX2_guess_6 ?_
  obtain ⟨p2, es⟩ : ∃ y : St, y = p1.sI 3 0 := ⟨_, rfl⟩
  have hw := hw p2 es
  refine v_put (pc := 7) C cfX2 rfl 0 3 (ty := .int) (w' := (fl [bLost E a p2])) rfl (by subst es; rfl) (by decide) wfX2_22 rfl rfl rfl rfl (Nat.le_of_ble_eq_true rfl) dX2_guess_7 ?_
  refine v_iload_n (pc := 10) C 1 rfl rfl dX2_guess_10 ?_
  refine v_if_gt (pc := 11) C 16 (by decide) dX2_guess_11 (fun hc => ?_) (fun hc => ?_)
  · have hw := hw.1 hc
    refine v_iconst (pc := 16) C 0 ki_0 dX2_guess_16 ?_
    refine v_istore_n (pc := 17) C [(2, .int 0), (0, .ref (a 0)), (1, .int x1)] rfl rfl (by decide) dX2_guess_17 ?_
    obtain ⟨n, hw⟩ := hw
    refine v_sub (lv' := [(0, .ref (a 0)), (1, .int x1), (2, .int 0)]) [1, 2, 0] rfl ?_
    refine vlX2_guess_18 C hA a  (fun p7 hw => ?_) n x1 0 p2 hw
    refine v_iconst (pc := 109) C 1 ki_1 dX2_guess_109 ?_
    exact v_iretz (pc := 110) C rfl p7 hA rfl hw dX2_guess_110
  · have hw := hw.2 hc
    refine v_iconst (pc := 14) C 0 ki_0 dX2_guess_14 ?_
    exact v_iretz (pc := 15) C rfl p2 hA rfl hw dX2_guess_15
set_option maxHeartbeats 4000000 in
set_option maxRecDepth 100000 in
theorem ctX2_isFit (l : Launch) (E : VE) (a : Nat → Nat) (x1 : Int32) (p : St)  {Post : Int32 → Prop} (hw : wpX2_isFit x1 p Post) (sz : Nat) : Met l yX2_isFit (mW yX2_isFit cX2_isFit 2 (some .boolean)) rmX2_isFit (CPre E [.ref (a 0), .int x1] sz (fl [bLost E a p])) (CQi E (fun (z : Int32) (_ : Unit) => Post z) (fun _ => (fl [bLost E a p])) (fl [bLost E a p]) sz) 0 0 (va_A (fl [bLost E a p]) sz) := by
  refine v_met (by decide) (Nat.le_of_ble_eq_true rfl) ?_
  intro pr e s m below meth c A hsz hA C
  subst hsz
  refine v_iload_n (pc := 0) C 1 rfl rfl dX2_isFit_0 ?_
  refine v_aload_n (pc := 1) C 0 rfl rfl dX2_isFit_1 ?_
  refine v_get (pc := 2) C cfX2 rfl 0 2 rfl (by decide) wfX2_18 rfl dX2_isFit_2 ?_
  refine v_iand (pc := 5) C dX2_isFit_5 ?_
  refine v_aload_n (pc := 6) C 0 rfl rfl dX2_isFit_6 ?_
  refine v_get (pc := 7) C cfX2 rfl 0 2 rfl (by decide) wfX2_18 rfl dX2_isFit_7 ?_
  refine v_icmp_ne (pc := 10) C 28 (by decide) dX2_isFit_10 (fun hc => ?_) (fun hc => ?_)
  · have hw := hw.1 hc
    refine v_iconst (pc := 28) C 0 ki_0 dX2_isFit_28 ?_
    exact v_iretz (pc := 29) C rfl () hA rfl hw dX2_isFit_29
  · have hw := hw.2 hc
    refine v_iload_n (pc := 13) C 1 rfl rfl dX2_isFit_13 ?_
    refine v_aload_n (pc := 14) C 0 rfl rfl dX2_isFit_14 ?_
    refine v_get (pc := 15) C cfX2 rfl 0 3 rfl (by decide) wfX2_22 rfl dX2_isFit_15 ?_
    refine v_iconst (pc := 18) C (-1) ki_m1 dX2_isFit_18 ?_
    refine v_ixor (pc := 19) C dX2_isFit_19 ?_
    refine v_iand (pc := 20) C dX2_isFit_20 ?_
    refine v_if_ne (pc := 21) C 28 (by decide) dX2_isFit_21 (fun hc => ?_) (fun hc => ?_)
    · have hw := hw.1 hc
      refine v_iconst (pc := 28) C 0 ki_0 dX2_isFit_28 ?_
      exact v_iretz (pc := 29) C rfl () hA rfl hw dX2_isFit_29
    · have hw := hw.2 hc
      refine v_iconst (pc := 24) C 1 ki_1 dX2_isFit_24 ?_
      refine v_goto (pc := 25) C 29 (by decide) dX2_isFit_25 ?_
      exact v_iretz (pc := 29) C rfl () hA rfl hw dX2_isFit_29
set_option maxHeartbeats 4000000 in
set_option maxRecDepth 100000 in
theorem vlX4_beginAnew_22 (C : VC pr s m args meth c E A cX4_beginAnew 3 none RX4) (hA : va_A w0 s.heap.size = A) (a : Nat → Nat)  {Post : St → Prop} {KX : St → Prop} (hX : ∀ (p : St), KX p → V pr l e rmX4_beginAnew s m args below meth c E A 3 0 0 (MQ below (CQv E Post (fun u => (fl [bPad E a u])) w0 s.heap.size) args s 0 0 A) (fl [bPad E a p]) 44 [] []) : ∀ (n : Nat) (x2 : Int32) (p : St), wLX4_beginAnew_22  Post KX n (x2, p) → V pr l e rmX4_beginAnew s m args below meth c E A 3 0 0 (MQ below (CQv E Post (fun u => (fl [bPad E a u])) w0 s.heap.size) args s 0 0 A) (fl [bPad E a p]) 22 [(0, .ref (a 0)), (2, .int x2)] [] := by
  intro n
  induction n with
  | zero => intro x2 p hw; exact absurd hw id
  | succ n hself =>
    intro x2 p hw
    have hw : wlX4_beginAnew_22  Post KX (wLX4_beginAnew_22  Post KX n) x2 p := hw
    refine v_iload_n (pc := 22) C 1 rfl rfl dX4_beginAnew_22 ?_
    refine v_aload_n (pc := 23) C 0 rfl rfl dX4_beginAnew_23 ?_
    refine v_get (pc := 24) C cfX4 rfl 0 0 rfl (by decide) wfX4_11 rfl dX4_beginAnew_24 ?_
    refine v_alen (pc := 27) C 1 (v := 86) rfl (show Int32.ofNat 86 = 86 by decide) dX4_beginAnew_27 ?_
    refine v_icmp_ge (pc := 28) C 44 (by decide) dX4_beginAnew_28 (fun hc => ?_) (fun hc => ?_)
    · have hw := hw.1 hc
      refine v_sub (lv' := []) [] rfl ?_
      exact hX p hw
    · have hw := hw.2 hc
      refine v_aload_n (pc := 31) C 0 rfl rfl dX4_beginAnew_31 ?_
      refine v_get (pc := 32) C cfX4 rfl 0 0 rfl (by decide) wfX4_11 rfl dX4_beginAnew_32 ?_
      refine v_iload_n (pc := 35) C 1 rfl rfl dX4_beginAnew_35 ?_
      refine v_iconst (pc := 36) C 0 ki_0 dX4_beginAnew_36 ?_
      obtain ⟨hg, hw⟩ := hw
      obtain ⟨p5, es⟩ : ∃ y : St, y = p.sA 0 (upd (p.A 0) x2.toNatClampNeg 0) := ⟨_, rfl⟩
      have hw := hw p5 es
      refine v_iast (pc := 37) C 1 (w' := (fl [bPad E a p5])) rfl rfl (by subst es; rfl) hg dX4_beginAnew_37 ?_
      obtain ⟨x2_6, ex⟩ : ∃ y : Int32, y = x2 + 1 := ⟨_, rfl⟩
      have hw := hw x2_6 ex
      refine v_iinc (pc := 38) C 1 rfl (by rw [ex, ki_1]) [(2, .int x2_6), (0, .ref (a 0))] rfl (by decide) dX4_beginAnew_38 ?_
      refine v_goto (pc := 41) C 22 (by decide) dX4_beginAnew_41 ?_
      refine v_sub (lv' := [(0, .ref (a 0)), (2, .int x2_6)]) [1, 0] rfl ?_
      exact hself x2_6 p5 hw
set_option maxHeartbeats 4000000 in
set_option maxRecDepth 100000 in
theorem ctX4_beginAnew (l : Launch) (E : VE) (a : Nat → Nat) (x1 : Int32) (p : St)  {Post : St → Prop} (hw : wpX4_beginAnew x1 p Post) (sz : Nat) : Met l yX4_beginAnew (mW yX4_beginAnew cX4_beginAnew 3 none) rmX4_beginAnew (CPre E [.ref (a 0), .int x1] sz (fl [bPad E a p])) (CQv E Post (fun u => (fl [bPad E a u])) (fl [bPad E a p]) sz) 0 0 (va_A (fl [bPad E a p]) sz) := by
  refine v_met (by decide) (Nat.le_of_ble_eq_true rfl) ?_
  intro pr e s m below meth c A hsz hA C
  subst hsz
  refine v_aload_n (pc := 0) C 0 rfl rfl dX4_beginAnew_0 ?_
  refine v_iload_n (pc := 1) C 1 rfl rfl dX4_beginAnew_1 ?_
  obtain ⟨p1, es⟩ : ∃ y : St, y = p.sI 3 x1 := ⟨_, rfl⟩
  have hw := hw p1 es
  refine v_put (pc := 2) C cfX4 rfl 0 3 (ty := .int) (w' := (fl [bPad E a p1])) rfl (by subst es; rfl) (by decide) wfX4_22 rfl rfl rfl rfl (Nat.le_of_ble_eq_true rfl) dX4_beginAnew_2 ?_
  refine v_aload_n (pc := 5) C 0 rfl rfl dX4_beginAnew_5 ?_
  refine v_iconst (pc := 6) C 0 ki_0 dX4_beginAnew_6 ?_
  obtain ⟨p2, es⟩ : ∃ y : St, y = p1.sI 4 0 := ⟨_, rfl⟩
  have hw := hw p2 es
  refine v_put (pc := 7) C cfX4 rfl 0 4 (ty := .int) (w' := (fl [bPad E a p2])) rfl (by subst es; rfl) (by decide) wfX4_25 rfl rfl rfl rfl (Nat.le_of_ble_eq_true rfl) dX4_beginAnew_7 ?_
  refine v_aload_n (pc := 10) C 0 rfl rfl dX4_beginAnew_10 ?_
  refine v_iconst (pc := 11) C 0 ki_0 dX4_beginAnew_11 ?_
  obtain ⟨p3, es⟩ : ∃ y : St, y = p2.sI 2 0 := ⟨_, rfl⟩
  have hw := hw p3 es
  refine v_put (pc := 12) C cfX4 rfl 0 2 (ty := .int) (w' := (fl [bPad E a p3])) rfl (by subst es; rfl) (by decide) wfX4_18 rfl rfl rfl rfl (Nat.le_of_ble_eq_true rfl) dX4_beginAnew_12 ?_
  refine v_aload_n (pc := 15) C 0 rfl rfl dX4_beginAnew_15 ?_
  refine v_iconst (pc := 16) C 0 ki_0 dX4_beginAnew_16 ?_
  obtain ⟨p4, es⟩ : ∃ y : St, y = p3.sI 11 0 := ⟨_, rfl⟩
  have hw := hw p4 es
  refine v_put (pc := 17) C cfX4 rfl 0 11 (ty := .int) (w' := (fl [bPad E a p4])) rfl (by subst es; rfl) (by decide) wfX4_46 rfl rfl rfl rfl (Nat.le_of_ble_eq_true rfl) dX4_beginAnew_17 ?_
  refine v_iconst (pc := 20) C 0 ki_0 dX4_beginAnew_20 ?_
  refine v_istore_n (pc := 21) C [(2, .int 0), (0, .ref (a 0)), (1, .int x1)] rfl rfl (by decide) dX4_beginAnew_21 ?_
  obtain ⟨n, hw⟩ := hw
  refine v_sub (lv' := [(0, .ref (a 0)), (2, .int 0)]) [1, 0] rfl ?_
  refine vlX4_beginAnew_22 C hA a  (fun p7 hw => ?_) n 0 p4 hw
  exact v_vret (pc := 44) C p7 hA rfl hw dX4_beginAnew_44
set_option maxHeartbeats 4000000 in
set_option maxRecDepth 100000 in
theorem ctX4_copyFrom (l : Launch) (E : VE) (a : Nat → Nat) (b : Nat → Nat)  (p : St) (q : St)  {Post : St → Prop} (hw : wpX4_copyFrom p q Post) (sz : Nat) : Met l yX4_copyFrom (mW yX4_copyFrom cX4_copyFrom 2 none) rmX4_copyFrom (CPre E [.ref (a 0), .ref (b 0)] sz (fl [bPad E a p, bPad E b q])) (CQv E Post (fun u => (fl [bPad E a u, bPad E b q])) (fl [bPad E a p, bPad E b q]) sz) 0 0 (va_A (fl [bPad E a p, bPad E b q]) sz) := by
  refine v_met (by decide) (Nat.le_of_ble_eq_true rfl) ?_
  intro pr e s m below meth c A hsz hA C
  subst hsz
  refine v_aload_n (pc := 0) C 0 rfl rfl dX4_copyFrom_0 ?_
  refine v_aload_n (pc := 1) C 1 rfl rfl dX4_copyFrom_1 ?_
  refine v_get (pc := 2) C cfX4 rfl 9 3 rfl (by decide) wfX4_22 rfl dX4_copyFrom_2 ?_
  obtain ⟨p1, es⟩ : ∃ y : St, y = p.sI 3 (q.I 3) := ⟨_, rfl⟩
  have hw := hw p1 es
  refine v_put (pc := 5) C cfX4 rfl 0 3 (ty := .int) (w' := (fl [bPad E a p1, bPad E b q])) rfl (by subst es; rfl) (by decide) wfX4_22 rfl rfl rfl rfl (Nat.le_of_ble_eq_true rfl) dX4_copyFrom_5 ?_
  refine v_aload_n (pc := 8) C 0 rfl rfl dX4_copyFrom_8 ?_
  refine v_aload_n (pc := 9) C 1 rfl rfl dX4_copyFrom_9 ?_
  refine v_get (pc := 10) C cfX4 rfl 9 4 rfl (by decide) wfX4_25 rfl dX4_copyFrom_10 ?_
  obtain ⟨p2, es⟩ : ∃ y : St, y = p1.sI 4 (q.I 4) := ⟨_, rfl⟩
  have hw := hw p2 es
  refine v_put (pc := 13) C cfX4 rfl 0 4 (ty := .int) (w' := (fl [bPad E a p2, bPad E b q])) rfl (by subst es; rfl) (by decide) wfX4_25 rfl rfl rfl rfl (Nat.le_of_ble_eq_true rfl) dX4_copyFrom_13 ?_
  refine v_aload_n (pc := 16) C 0 rfl rfl dX4_copyFrom_16 ?_
  refine v_aload_n (pc := 17) C 1 rfl rfl dX4_copyFrom_17 ?_
  refine v_get (pc := 18) C cfX4 rfl 9 2 rfl (by decide) wfX4_18 rfl dX4_copyFrom_18 ?_
  obtain ⟨p3, es⟩ : ∃ y : St, y = p2.sI 2 (q.I 2) := ⟨_, rfl⟩
  have hw := hw p3 es
  refine v_put (pc := 21) C cfX4 rfl 0 2 (ty := .int) (w' := (fl [bPad E a p3, bPad E b q])) rfl (by subst es; rfl) (by decide) wfX4_18 rfl rfl rfl rfl (Nat.le_of_ble_eq_true rfl) dX4_copyFrom_21 ?_
  refine v_aload_n (pc := 24) C 0 rfl rfl dX4_copyFrom_24 ?_
  refine v_aload_n (pc := 25) C 1 rfl rfl dX4_copyFrom_25 ?_
  refine v_get (pc := 26) C cfX4 rfl 9 11 rfl (by decide) wfX4_46 rfl dX4_copyFrom_26 ?_
  obtain ⟨p4, es⟩ : ∃ y : St, y = p3.sI 11 (q.I 11) := ⟨_, rfl⟩
  have hw := hw p4 es
  refine v_put (pc := 29) C cfX4 rfl 0 11 (ty := .int) (w' := (fl [bPad E a p4, bPad E b q])) rfl (by subst es; rfl) (by decide) wfX4_46 rfl rfl rfl rfl (Nat.le_of_ble_eq_true rfl) dX4_copyFrom_29 ?_
  refine v_aload_n (pc := 32) C 1 rfl rfl dX4_copyFrom_32 ?_
  refine v_get (pc := 33) C cfX4 rfl 9 0 rfl (by decide) wfX4_11 rfl dX4_copyFrom_33 ?_
  refine v_iconst (pc := 36) C 0 ki_0 dX4_copyFrom_36 ?_
  refine v_aload_n (pc := 37) C 0 rfl rfl dX4_copyFrom_37 ?_
  refine v_get (pc := 38) C cfX4 rfl 0 0 rfl (by decide) wfX4_11 rfl dX4_copyFrom_38 ?_
  refine v_iconst (pc := 41) C 0 ki_0 dX4_copyFrom_41 ?_
  refine v_bipush (pc := 42) C 86 kb_86 dX4_copyFrom_42 ?_
  obtain ⟨p5, es⟩ : ∃ y : St, y = p4.sA 0 (va_cpy (q.A 0) (p4.A 0) 0 0 86) := ⟨_, rfl⟩
  have hw := hw p5 es
  refine v_copy (pc := 44) C 10 1 (w' := (fl [bPad E a p5, bPad E b q])) rfl rfl (by subst es; rfl) (by decide) (by decide) (by decide) tn_0 tn_0 tn_86 (by decide) (by decide) wmX4_49 wnat wsta wsys (by decide) (Nat.le_of_ble_eq_true rfl) dX4_copyFrom_44 ?_
  refine v_aload_n (pc := 47) C 1 rfl rfl dX4_copyFrom_47 ?_
  refine v_get (pc := 48) C cfX4 rfl 9 1 rfl (by decide) wfX4_15 rfl dX4_copyFrom_48 ?_
  refine v_iconst (pc := 51) C 0 ki_0 dX4_copyFrom_51 ?_
  refine v_aload_n (pc := 52) C 0 rfl rfl dX4_copyFrom_52 ?_
  refine v_get (pc := 53) C cfX4 rfl 0 1 rfl (by decide) wfX4_15 rfl dX4_copyFrom_53 ?_
  refine v_iconst (pc := 56) C 0 ki_0 dX4_copyFrom_56 ?_
  refine v_aload_n (pc := 57) C 0 rfl rfl dX4_copyFrom_57 ?_
  refine v_get (pc := 58) C cfX4 rfl 0 2 rfl (by decide) wfX4_18 rfl dX4_copyFrom_58 ?_
  refine v_bipush (pc := 61) C 86 kb_86 dX4_copyFrom_61 ?_
  refine v_imul (pc := 63) C dX4_copyFrom_63 ?_
  obtain ⟨hg1, hg2, hg3, hw⟩ := hw
  obtain ⟨p6, es⟩ : ∃ y : St, y = p5.sA 1 (va_cpy (q.A 1) (p5.A 1) 0 0 ((p5.I 2) * 86).toNatClampNeg) := ⟨_, rfl⟩
  have hw := hw p6 es
  refine v_copy (pc := 64) C 11 2 (w' := (fl [bPad E a p6, bPad E b q])) rfl rfl (by subst es; rfl) (by decide) (by decide) hg1 tn_0 tn_0 rfl hg2 hg3 wmX4_49 wnat wsta wsys (by decide) (Nat.le_of_ble_eq_true rfl) dX4_copyFrom_64 ?_
  refine v_aload_n (pc := 67) C 1 rfl rfl dX4_copyFrom_67 ?_
  refine v_get (pc := 68) C cfX4 rfl 9 5 rfl (by decide) wfX4_28 rfl dX4_copyFrom_68 ?_
  refine v_iconst (pc := 71) C 0 ki_0 dX4_copyFrom_71 ?_
  refine v_aload_n (pc := 72) C 0 rfl rfl dX4_copyFrom_72 ?_
  refine v_get (pc := 73) C cfX4 rfl 0 5 rfl (by decide) wfX4_28 rfl dX4_copyFrom_73 ?_
  refine v_iconst (pc := 76) C 0 ki_0 dX4_copyFrom_76 ?_
  refine v_bipush (pc := 77) C 10 kb_10 dX4_copyFrom_77 ?_
  obtain ⟨p7, es⟩ : ∃ y : St, y = p6.sA 5 (va_cpy (q.A 5) (p6.A 5) 0 0 10) := ⟨_, rfl⟩
  have hw := hw p7 es
  refine v_copy (pc := 79) C 12 3 (w' := (fl [bPad E a p7, bPad E b q])) rfl rfl (by subst es; rfl) (by decide) (by decide) (by decide) tn_0 tn_0 tn_10 (by decide) (by decide) wmX4_49 wnat wsta wsys (by decide) (Nat.le_of_ble_eq_true rfl) dX4_copyFrom_79 ?_
  refine v_aload_n (pc := 82) C 1 rfl rfl dX4_copyFrom_82 ?_
  refine v_get (pc := 83) C cfX4 rfl 9 6 rfl (by decide) wfX4_31 rfl dX4_copyFrom_83 ?_
  refine v_iconst (pc := 86) C 0 ki_0 dX4_copyFrom_86 ?_
  refine v_aload_n (pc := 87) C 0 rfl rfl dX4_copyFrom_87 ?_
  refine v_get (pc := 88) C cfX4 rfl 0 6 rfl (by decide) wfX4_31 rfl dX4_copyFrom_88 ?_
  refine v_iconst (pc := 91) C 0 ki_0 dX4_copyFrom_91 ?_
  refine v_bipush (pc := 92) C 10 kb_10 dX4_copyFrom_92 ?_
  obtain ⟨p8, es⟩ : ∃ y : St, y = p7.sA 6 (va_cpy (q.A 6) (p7.A 6) 0 0 10) := ⟨_, rfl⟩
  have hw := hw p8 es
  refine v_copy (pc := 94) C 13 4 (w' := (fl [bPad E a p8, bPad E b q])) rfl rfl (by subst es; rfl) (by decide) (by decide) (by decide) tn_0 tn_0 tn_10 (by decide) (by decide) wmX4_49 wnat wsta wsys (by decide) (Nat.le_of_ble_eq_true rfl) dX4_copyFrom_94 ?_
  refine v_aload_n (pc := 97) C 1 rfl rfl dX4_copyFrom_97 ?_
  refine v_get (pc := 98) C cfX4 rfl 9 7 rfl (by decide) wfX4_34 rfl dX4_copyFrom_98 ?_
  refine v_iconst (pc := 101) C 0 ki_0 dX4_copyFrom_101 ?_
  refine v_aload_n (pc := 102) C 0 rfl rfl dX4_copyFrom_102 ?_
  refine v_get (pc := 103) C cfX4 rfl 0 7 rfl (by decide) wfX4_34 rfl dX4_copyFrom_103 ?_
  refine v_iconst (pc := 106) C 0 ki_0 dX4_copyFrom_106 ?_
  refine v_bipush (pc := 107) C 10 kb_10 dX4_copyFrom_107 ?_
  obtain ⟨p9, es⟩ : ∃ y : St, y = p8.sA 7 (va_cpy (q.A 7) (p8.A 7) 0 0 10) := ⟨_, rfl⟩
  have hw := hw p9 es
  refine v_copy (pc := 109) C 14 5 (w' := (fl [bPad E a p9, bPad E b q])) rfl rfl (by subst es; rfl) (by decide) (by decide) (by decide) tn_0 tn_0 tn_10 (by decide) (by decide) wmX4_49 wnat wsta wsys (by decide) (Nat.le_of_ble_eq_true rfl) dX4_copyFrom_109 ?_
  refine v_aload_n (pc := 112) C 1 rfl rfl dX4_copyFrom_112 ?_
  refine v_get (pc := 113) C cfX4 rfl 9 8 rfl (by decide) wfX4_37 rfl dX4_copyFrom_113 ?_
  refine v_iconst (pc := 116) C 0 ki_0 dX4_copyFrom_116 ?_
  refine v_aload_n (pc := 117) C 0 rfl rfl dX4_copyFrom_117 ?_
  refine v_get (pc := 118) C cfX4 rfl 0 8 rfl (by decide) wfX4_37 rfl dX4_copyFrom_118 ?_
  refine v_iconst (pc := 121) C 0 ki_0 dX4_copyFrom_121 ?_
  refine v_bipush (pc := 122) C 10 kb_10 dX4_copyFrom_122 ?_
  obtain ⟨p10, es⟩ : ∃ y : St, y = p9.sA 8 (va_cpy (q.A 8) (p9.A 8) 0 0 10) := ⟨_, rfl⟩
  have hw := hw p10 es
  refine v_copy (pc := 124) C 15 6 (w' := (fl [bPad E a p10, bPad E b q])) rfl rfl (by subst es; rfl) (by decide) (by decide) (by decide) tn_0 tn_0 tn_10 (by decide) (by decide) wmX4_49 wnat wsta wsys (by decide) (Nat.le_of_ble_eq_true rfl) dX4_copyFrom_124 ?_
  refine v_aload_n (pc := 127) C 1 rfl rfl dX4_copyFrom_127 ?_
  refine v_get (pc := 128) C cfX4 rfl 9 9 rfl (by decide) wfX4_40 rfl dX4_copyFrom_128 ?_
  refine v_iconst (pc := 131) C 0 ki_0 dX4_copyFrom_131 ?_
  refine v_aload_n (pc := 132) C 0 rfl rfl dX4_copyFrom_132 ?_
  refine v_get (pc := 133) C cfX4 rfl 0 9 rfl (by decide) wfX4_40 rfl dX4_copyFrom_133 ?_
  refine v_iconst (pc := 136) C 0 ki_0 dX4_copyFrom_136 ?_
  refine v_bipush (pc := 137) C 60 kb_60 dX4_copyFrom_137 ?_
  obtain ⟨p11, es⟩ : ∃ y : St, y = p10.sA 9 (va_cpy (q.A 9) (p10.A 9) 0 0 60) := ⟨_, rfl⟩
  have hw := hw p11 es
  refine v_copy (pc := 139) C 16 7 (w' := (fl [bPad E a p11, bPad E b q])) rfl rfl (by subst es; rfl) (by decide) (by decide) (by decide) tn_0 tn_0 tn_60 (by decide) (by decide) wmX4_49 wnat wsta wsys (by decide) (Nat.le_of_ble_eq_true rfl) dX4_copyFrom_139 ?_
  refine v_aload_n (pc := 142) C 1 rfl rfl dX4_copyFrom_142 ?_
  refine v_get (pc := 143) C cfX4 rfl 9 10 rfl (by decide) wfX4_43 rfl dX4_copyFrom_143 ?_
  refine v_iconst (pc := 146) C 0 ki_0 dX4_copyFrom_146 ?_
  refine v_aload_n (pc := 147) C 0 rfl rfl dX4_copyFrom_147 ?_
  refine v_get (pc := 148) C cfX4 rfl 0 10 rfl (by decide) wfX4_43 rfl dX4_copyFrom_148 ?_
  refine v_iconst (pc := 151) C 0 ki_0 dX4_copyFrom_151 ?_
  refine v_bipush (pc := 152) C 8 kb_8 dX4_copyFrom_152 ?_
  obtain ⟨p12, es⟩ : ∃ y : St, y = p11.sA 10 (va_cpy (q.A 10) (p11.A 10) 0 0 8) := ⟨_, rfl⟩
  have hw := hw p12 es
  refine v_copy (pc := 154) C 17 8 (w' := (fl [bPad E a p12, bPad E b q])) rfl rfl (by subst es; rfl) (by decide) (by decide) (by decide) tn_0 tn_0 tn_8 (by decide) (by decide) wmX4_49 wnat wsta wsys (by decide) (Nat.le_of_ble_eq_true rfl) dX4_copyFrom_154 ?_
  exact v_vret (pc := 157) C p12 hA rfl hw dX4_copyFrom_157
set_option maxHeartbeats 4000000 in
set_option maxRecDepth 100000 in
theorem vjX4_keepForUndo_32 (C : VC pr s m args meth c E A cX4_keepForUndo 1 none RX4) (hA : va_A w0 s.heap.size = A) (a : Nat → Nat)  {Post : St → Prop} (p : St) (hw : wjX4_keepForUndo_32  Post p) : V pr l e rmX4_keepForUndo s m args below meth c E A 1 0 0 (MQ below (CQv E Post (fun u => (fl [bPad E a u])) w0 s.heap.size) args s 0 0 A) (fl [bPad E a p]) 32 [(0, .ref (a 0))] [] := by
  refine v_aload_n (pc := 32) C 0 rfl rfl dX4_keepForUndo_32 ?_
  refine v_get (pc := 33) C cfX4 rfl 0 0 rfl (by decide) wfX4_11 rfl dX4_keepForUndo_33 ?_
  refine v_iconst (pc := 36) C 0 ki_0 dX4_keepForUndo_36 ?_
  refine v_aload_n (pc := 37) C 0 rfl rfl dX4_keepForUndo_37 ?_
  refine v_get (pc := 38) C cfX4 rfl 0 1 rfl (by decide) wfX4_15 rfl dX4_keepForUndo_38 ?_
  refine v_aload_n (pc := 41) C 0 rfl rfl dX4_keepForUndo_41 ?_
  refine v_get (pc := 42) C cfX4 rfl 0 2 rfl (by decide) wfX4_18 rfl dX4_keepForUndo_42 ?_
  refine v_bipush (pc := 45) C 86 kb_86 dX4_keepForUndo_45 ?_
  refine v_imul (pc := 47) C dX4_keepForUndo_47 ?_
  refine v_bipush (pc := 48) C 86 kb_86 dX4_keepForUndo_48 ?_
  obtain ⟨hg1, hg2, hw⟩ := hw
  obtain ⟨p1, es⟩ : ∃ y : St, y = p.sA 1 (va_cpy (p.A 0) (p.A 1) 0 ((p.I 2) * 86).toNatClampNeg 86) := ⟨_, rfl⟩
  have hw := hw p1 es
  refine v_copy (pc := 50) C 1 2 (w' := (fl [bPad E a p1])) rfl rfl (by subst es; rfl) (by decide) hg1 (by decide) tn_0 rfl tn_86 (by decide) hg2 wmX4_49 wnat wsta wsys (by decide) (Nat.le_of_ble_eq_true rfl) dX4_keepForUndo_50 ?_
  refine v_aload_n (pc := 53) C 0 rfl rfl dX4_keepForUndo_53 ?_
  refine v_dup (pc := 54) C rfl dX4_keepForUndo_54 ?_
  refine v_get (pc := 55) C cfX4 rfl 0 2 rfl (by decide) wfX4_18 rfl dX4_keepForUndo_55 ?_
  refine v_iconst (pc := 58) C 1 ki_1 dX4_keepForUndo_58 ?_
  refine v_iadd (pc := 59) C dX4_keepForUndo_59 ?_
  obtain ⟨p2, es⟩ : ∃ y : St, y = p1.sI 2 ((p1.I 2) + 1) := ⟨_, rfl⟩
  have hw := hw p2 es
  refine v_put (pc := 60) C cfX4 rfl 0 2 (ty := .int) (w' := (fl [bPad E a p2])) rfl (by subst es; rfl) (by decide) wfX4_18 rfl rfl rfl rfl (Nat.le_of_ble_eq_true rfl) dX4_keepForUndo_60 ?_
  exact v_vret (pc := 63) C p2 hA rfl hw dX4_keepForUndo_63
set_option maxHeartbeats 4000000 in
set_option maxRecDepth 100000 in
theorem ctX4_keepForUndo (l : Launch) (E : VE) (a : Nat → Nat)  (p : St)  {Post : St → Prop} (hw : wpX4_keepForUndo p Post) (sz : Nat) : Met l yX4_keepForUndo (mW yX4_keepForUndo cX4_keepForUndo 1 none) rmX4_keepForUndo (CPre E [.ref (a 0)] sz (fl [bPad E a p])) (CQv E Post (fun u => (fl [bPad E a u])) (fl [bPad E a p]) sz) 0 0 (va_A (fl [bPad E a p]) sz) := by
  refine v_met (by decide) (Nat.le_of_ble_eq_true rfl) ?_
  intro pr e s m below meth c A hsz hA C
  subst hsz
  refine v_aload_n (pc := 0) C 0 rfl rfl dX4_keepForUndo_0 ?_
  refine v_get (pc := 1) C cfX4 rfl 0 2 rfl (by decide) wfX4_18 rfl dX4_keepForUndo_1 ?_
  refine v_bipush (pc := 4) C 8 kb_8 dX4_keepForUndo_4 ?_
  refine v_icmp_lt (pc := 6) C 32 (by decide) dX4_keepForUndo_6 (fun hc => ?_) (fun hc => ?_)
  · have hw := hw.1 hc
    refine v_sub (lv' := [(0, .ref (a 0))]) [0] rfl ?_
    exact vjX4_keepForUndo_32 C hA a  p hw
  · have hw := hw.2 hc
    refine v_aload_n (pc := 9) C 0 rfl rfl dX4_keepForUndo_9 ?_
    refine v_get (pc := 10) C cfX4 rfl 0 1 rfl (by decide) wfX4_15 rfl dX4_keepForUndo_10 ?_
    refine v_bipush (pc := 13) C 86 kb_86 dX4_keepForUndo_13 ?_
    refine v_aload_n (pc := 15) C 0 rfl rfl dX4_keepForUndo_15 ?_
    refine v_get (pc := 16) C cfX4 rfl 0 1 rfl (by decide) wfX4_15 rfl dX4_keepForUndo_16 ?_
    refine v_iconst (pc := 19) C 0 ki_0 dX4_keepForUndo_19 ?_
    refine v_sipush (pc := 20) C 602 ks_602 dX4_keepForUndo_20 ?_
    obtain ⟨p3, es⟩ : ∃ y : St, y = p.sA 1 (va_cpy (p.A 1) (p.A 1) 86 0 602) := ⟨_, rfl⟩
    have hw := hw p3 es
    refine v_copy (pc := 23) C 2 2 (w' := (fl [bPad E a p3])) rfl rfl (by subst es; rfl) (by decide) (by decide) (by decide) tn_86 tn_0 tn_602 (by decide) (by decide) wmX4_49 wnat wsta wsys (by decide) (Nat.le_of_ble_eq_true rfl) dX4_keepForUndo_23 ?_
    refine v_aload_n (pc := 26) C 0 rfl rfl dX4_keepForUndo_26 ?_
    refine v_bipush (pc := 27) C 7 kb_7 dX4_keepForUndo_27 ?_
    obtain ⟨p4, es⟩ : ∃ y : St, y = p3.sI 2 7 := ⟨_, rfl⟩
    have hw := hw p4 es
    refine v_put (pc := 29) C cfX4 rfl 0 2 (ty := .int) (w' := (fl [bPad E a p4])) rfl (by subst es; rfl) (by decide) wfX4_18 rfl rfl rfl rfl (Nat.le_of_ble_eq_true rfl) dX4_keepForUndo_29 ?_
    refine v_sub (lv' := [(0, .ref (a 0))]) [0] rfl ?_
    exact vjX4_keepForUndo_32 C hA a  p4 hw
set_option maxHeartbeats 4000000 in
set_option maxRecDepth 100000 in
theorem ctX4_goBack (l : Launch) (E : VE) (a : Nat → Nat)  (p : St)  {Post : St → Prop} (hw : wpX4_goBack p Post) (sz : Nat) : Met l yX4_goBack (mW yX4_goBack cX4_goBack 1 none) rmX4_goBack (CPre E [.ref (a 0)] sz (fl [bPad E a p])) (CQv E Post (fun u => (fl [bPad E a u])) (fl [bPad E a p]) sz) 0 0 (va_A (fl [bPad E a p]) sz) := by
  refine v_met (by decide) (Nat.le_of_ble_eq_true rfl) ?_
  intro pr e s m below meth c A hsz hA C
  subst hsz
  refine v_aload_n (pc := 0) C 0 rfl rfl dX4_goBack_0 ?_
  refine v_get (pc := 1) C cfX4 rfl 0 2 rfl (by decide) wfX4_18 rfl dX4_goBack_1 ?_
  refine v_if_le (pc := 4) C 38 (by decide) dX4_goBack_4 (fun hc => ?_) (fun hc => ?_)
  · have hw := hw.1 hc
    exact v_vret (pc := 38) C p hA rfl hw dX4_goBack_38
  · have hw := hw.2 hc
    refine v_aload_n (pc := 7) C 0 rfl rfl dX4_goBack_7 ?_
    refine v_dup (pc := 8) C rfl dX4_goBack_8 ?_
    refine v_get (pc := 9) C cfX4 rfl 0 2 rfl (by decide) wfX4_18 rfl dX4_goBack_9 ?_
    refine v_iconst (pc := 12) C 1 ki_1 dX4_goBack_12 ?_
    refine v_isub (pc := 13) C dX4_goBack_13 ?_
    obtain ⟨p1, es⟩ : ∃ y : St, y = p.sI 2 ((p.I 2) - 1) := ⟨_, rfl⟩
    have hw := hw p1 es
    refine v_put (pc := 14) C cfX4 rfl 0 2 (ty := .int) (w' := (fl [bPad E a p1])) rfl (by subst es; rfl) (by decide) wfX4_18 rfl rfl rfl rfl (Nat.le_of_ble_eq_true rfl) dX4_goBack_14 ?_
    refine v_aload_n (pc := 17) C 0 rfl rfl dX4_goBack_17 ?_
    refine v_get (pc := 18) C cfX4 rfl 0 1 rfl (by decide) wfX4_15 rfl dX4_goBack_18 ?_
    refine v_aload_n (pc := 21) C 0 rfl rfl dX4_goBack_21 ?_
    refine v_get (pc := 22) C cfX4 rfl 0 2 rfl (by decide) wfX4_18 rfl dX4_goBack_22 ?_
    refine v_bipush (pc := 25) C 86 kb_86 dX4_goBack_25 ?_
    refine v_imul (pc := 27) C dX4_goBack_27 ?_
    refine v_aload_n (pc := 28) C 0 rfl rfl dX4_goBack_28 ?_
    refine v_get (pc := 29) C cfX4 rfl 0 0 rfl (by decide) wfX4_11 rfl dX4_goBack_29 ?_
    refine v_iconst (pc := 32) C 0 ki_0 dX4_goBack_32 ?_
    refine v_bipush (pc := 33) C 86 kb_86 dX4_goBack_33 ?_
    obtain ⟨hg1, hg2, hw⟩ := hw
    obtain ⟨p2, es⟩ : ∃ y : St, y = p1.sA 0 (va_cpy (p1.A 1) (p1.A 0) ((p1.I 2) * 86).toNatClampNeg 0 86) := ⟨_, rfl⟩
    have hw := hw p2 es
    refine v_copy (pc := 35) C 2 1 (w' := (fl [bPad E a p2])) rfl rfl (by subst es; rfl) hg1 (by decide) (by decide) rfl tn_0 tn_86 hg2 (by decide) wmX4_49 wnat wsta wsys (by decide) (Nat.le_of_ble_eq_true rfl) dX4_goBack_35 ?_
    exact v_vret (pc := 38) C p2 hA rfl hw dX4_goBack_38
set_option maxHeartbeats 4000000 in
set_option maxRecDepth 100000 in
theorem ctX4_top (l : Launch) (E : VE) (a : Nat → Nat)  (p : St)  {Post : Int32 → Prop} (hw : wpX4_top p Post) (sz : Nat) : Met l yX4_top (mW yX4_top cX4_top 1 (some .int)) rmX4_top (CPre E [.ref (a 0)] sz (fl [bPad E a p])) (CQi E (fun (z : Int32) (_ : Unit) => Post z) (fun _ => (fl [bPad E a p])) (fl [bPad E a p]) sz) 0 0 (va_A (fl [bPad E a p]) sz) := by
  refine v_met (by decide) (Nat.le_of_ble_eq_true rfl) ?_
  intro pr e s m below meth c A hsz hA C
  subst hsz
  refine v_aload_n (pc := 0) C 0 rfl rfl dX4_top_0 ?_
  refine v_get (pc := 1) C cfX4 rfl 0 0 rfl (by decide) wfX4_11 rfl dX4_top_1 ?_
  refine v_iconst (pc := 4) C 0 ki_0 dX4_top_4 ?_
  refine v_iald (pc := 5) C 1 rfl vi_0_86 tn_0 dX4_top_5 ?_
  exact v_ireti (pc := 6) C () hA rfl hw dX4_top_6
set_option maxHeartbeats 4000000 in
set_option maxRecDepth 100000 in
theorem ctX4_isUsedUp (l : Launch) (E : VE) (a : Nat → Nat)  (p : St)  {Post : Int32 → Prop} (hw : wpX4_isUsedUp p Post) (sz : Nat) : Met l yX4_isUsedUp (mW yX4_isUsedUp cX4_isUsedUp 1 (some .boolean)) rmX4_isUsedUp (CPre E [.ref (a 0)] sz (fl [bPad E a p])) (CQi E (fun (z : Int32) (_ : Unit) => Post z) (fun _ => (fl [bPad E a p])) (fl [bPad E a p]) sz) 0 0 (va_A (fl [bPad E a p]) sz) := by
  refine v_met (by decide) (Nat.le_of_ble_eq_true rfl) ?_
  intro pr e s m below meth c A hsz hA C
  subst hsz
  refine v_aload_n (pc := 0) C 0 rfl rfl dX4_isUsedUp_0 ?_
  refine v_get (pc := 1) C cfX4 rfl 0 0 rfl (by decide) wfX4_11 rfl dX4_isUsedUp_1 ?_
  refine v_iconst (pc := 4) C 0 ki_0 dX4_isUsedUp_4 ?_
  refine v_iald (pc := 5) C 1 rfl vi_0_86 tn_0 dX4_isUsedUp_5 ?_
  refine v_aload_n (pc := 6) C 0 rfl rfl dX4_isUsedUp_6 ?_
  refine v_get (pc := 7) C cfX4 rfl 0 3 rfl (by decide) wfX4_22 rfl dX4_isUsedUp_7 ?_
  refine v_icmp_lt (pc := 10) C 17 (by decide) dX4_isUsedUp_10 (fun hc => ?_) (fun hc => ?_)
  · have hw := hw.1 hc
    refine v_iconst (pc := 17) C 0 ki_0 dX4_isUsedUp_17 ?_
    exact v_iretz (pc := 18) C rfl () hA rfl hw dX4_isUsedUp_18
  · have hw := hw.2 hc
    refine v_iconst (pc := 13) C 1 ki_1 dX4_isUsedUp_13 ?_
    refine v_goto (pc := 14) C 18 (by decide) dX4_isUsedUp_14 ?_
    exact v_iretz (pc := 18) C rfl () hA rfl hw dX4_isUsedUp_18
set_option maxHeartbeats 4000000 in
set_option maxRecDepth 100000 in
theorem ctX4_hasSheet (l : Launch) (E : VE) (a : Nat → Nat) (x1 : Int32) (p : St)  {Post : Int32 → Prop} (hw : wpX4_hasSheet x1 p Post) (sz : Nat) : Met l yX4_hasSheet (mW yX4_hasSheet cX4_hasSheet 2 (some .boolean)) rmX4_hasSheet (CPre E [.ref (a 0), .int x1] sz (fl [bPad E a p])) (CQi E (fun (z : Int32) (_ : Unit) => Post z) (fun _ => (fl [bPad E a p])) (fl [bPad E a p]) sz) 0 0 (va_A (fl [bPad E a p]) sz) := by
  refine v_met (by decide) (Nat.le_of_ble_eq_true rfl) ?_
  intro pr e s m below meth c A hsz hA C
  subst hsz
  refine v_iload_n (pc := 0) C 1 rfl rfl dX4_hasSheet_0 ?_
  refine v_if_lt (pc := 1) C 16 (by decide) dX4_hasSheet_1 (fun hc => ?_) (fun hc => ?_)
  · have hw := hw.1 hc
    refine v_iconst (pc := 16) C 0 ki_0 dX4_hasSheet_16 ?_
    exact v_iretz (pc := 17) C rfl () hA rfl hw dX4_hasSheet_17
  · have hw := hw.2 hc
    refine v_iload_n (pc := 4) C 1 rfl rfl dX4_hasSheet_4 ?_
    refine v_aload_n (pc := 5) C 0 rfl rfl dX4_hasSheet_5 ?_
    refine v_get (pc := 6) C cfX4 rfl 0 3 rfl (by decide) wfX4_22 rfl dX4_hasSheet_6 ?_
    refine v_icmp_ge (pc := 9) C 16 (by decide) dX4_hasSheet_9 (fun hc => ?_) (fun hc => ?_)
    · have hw := hw.1 hc
      refine v_iconst (pc := 16) C 0 ki_0 dX4_hasSheet_16 ?_
      exact v_iretz (pc := 17) C rfl () hA rfl hw dX4_hasSheet_17
    · have hw := hw.2 hc
      refine v_iconst (pc := 12) C 1 ki_1 dX4_hasSheet_12 ?_
      refine v_goto (pc := 13) C 17 (by decide) dX4_hasSheet_13 ?_
      exact v_iretz (pc := 17) C rfl () hA rfl hw dX4_hasSheet_17
set_option maxHeartbeats 4000000 in
set_option maxRecDepth 100000 in
theorem ctX4_hasSheets (l : Launch) (E : VE) (a : Nat → Nat) (x1 : Int32) (p : St)  {Post : Int32 → Prop} (hw : wpX4_hasSheets x1 p Post) (sz : Nat) : Met l yX4_hasSheets (mW yX4_hasSheets cX4_hasSheets 2 (some .boolean)) rmX4_hasSheets (CPre E [.ref (a 0), .int x1] sz (fl [bPad E a p])) (CQi E (fun (z : Int32) (_ : Unit) => Post z) (fun _ => (fl [bPad E a p])) (fl [bPad E a p]) sz) 0 0 (va_A (fl [bPad E a p]) sz) := by
  refine v_met (by decide) (Nat.le_of_ble_eq_true rfl) ?_
  intro pr e s m below meth c A hsz hA C
  subst hsz
  refine v_iload_n (pc := 0) C 1 rfl rfl dX4_hasSheets_0 ?_
  refine v_if_lt (pc := 1) C 18 (by decide) dX4_hasSheets_1 (fun hc => ?_) (fun hc => ?_)
  · have hw := hw.1 hc
    refine v_iconst (pc := 18) C 0 ki_0 dX4_hasSheets_18 ?_
    exact v_iretz (pc := 19) C rfl () hA rfl hw dX4_hasSheets_19
  · have hw := hw.2 hc
    refine v_iload_n (pc := 4) C 1 rfl rfl dX4_hasSheets_4 ?_
    refine v_iconst (pc := 5) C 1 ki_1 dX4_hasSheets_5 ?_
    refine v_aload_n (pc := 6) C 0 rfl rfl dX4_hasSheets_6 ?_
    refine v_get (pc := 7) C cfX4 rfl 0 3 rfl (by decide) wfX4_22 rfl dX4_hasSheets_7 ?_
    refine v_ishl (pc := 10) C dX4_hasSheets_10 ?_
    refine v_icmp_ge (pc := 11) C 18 (by decide) dX4_hasSheets_11 (fun hc => ?_) (fun hc => ?_)
    · have hw := hw.1 hc
      refine v_iconst (pc := 18) C 0 ki_0 dX4_hasSheets_18 ?_
      exact v_iretz (pc := 19) C rfl () hA rfl hw dX4_hasSheets_19
    · have hw := hw.2 hc
      refine v_iconst (pc := 14) C 1 ki_1 dX4_hasSheets_14 ?_
      refine v_goto (pc := 15) C 19 (by decide) dX4_hasSheets_15 ?_
      exact v_iretz (pc := 19) C rfl () hA rfl hw dX4_hasSheets_19
set_option maxHeartbeats 4000000 in
set_option maxRecDepth 100000 in
theorem ctX4_hasNote (l : Launch) (E : VE) (a : Nat → Nat) (x1 : Int32) (p : St)  {Post : Int32 → Prop} (hw : wpX4_hasNote x1 p Post) (sz : Nat) : Met l yX4_hasNote (mW yX4_hasNote cX4_hasNote 2 (some .boolean)) rmX4_hasNote (CPre E [.ref (a 0), .int x1] sz (fl [bPad E a p])) (CQi E (fun (z : Int32) (_ : Unit) => Post z) (fun _ => (fl [bPad E a p])) (fl [bPad E a p]) sz) 0 0 (va_A (fl [bPad E a p]) sz) := by
  refine v_met (by decide) (Nat.le_of_ble_eq_true rfl) ?_
  intro pr e s m below meth c A hsz hA C
  subst hsz
  refine v_iload_n (pc := 0) C 1 rfl rfl dX4_hasNote_0 ?_
  refine v_if_lt (pc := 1) C 18 (by decide) dX4_hasNote_1 (fun hc => ?_) (fun hc => ?_)
  · have hw := hw.1 hc
    refine v_iconst (pc := 18) C 0 ki_0 dX4_hasNote_18 ?_
    exact v_iretz (pc := 19) C rfl () hA rfl hw dX4_hasNote_19
  · have hw := hw.2 hc
    refine v_iload_n (pc := 4) C 1 rfl rfl dX4_hasNote_4 ?_
    refine v_aload_n (pc := 5) C 0 rfl rfl dX4_hasNote_5 ?_
    refine v_get (pc := 6) C cfX4 rfl 0 0 rfl (by decide) wfX4_11 rfl dX4_hasNote_6 ?_
    refine v_iconst (pc := 9) C 1 ki_1 dX4_hasNote_9 ?_
    refine v_iald (pc := 10) C 1 rfl vi_1_86 tn_1 dX4_hasNote_10 ?_
    refine v_icmp_ge (pc := 11) C 18 (by decide) dX4_hasNote_11 (fun hc => ?_) (fun hc => ?_)
    · have hw := hw.1 hc
      refine v_iconst (pc := 18) C 0 ki_0 dX4_hasNote_18 ?_
      exact v_iretz (pc := 19) C rfl () hA rfl hw dX4_hasNote_19
    · have hw := hw.2 hc
      refine v_iconst (pc := 14) C 1 ki_1 dX4_hasNote_14 ?_
      refine v_goto (pc := 15) C 19 (by decide) dX4_hasNote_15 ?_
      exact v_iretz (pc := 19) C rfl () hA rfl hw dX4_hasNote_19
set_option maxHeartbeats 4000000 in
set_option maxRecDepth 100000 in
theorem ctX4_hasNotes (l : Launch) (E : VE) (a : Nat → Nat) (x1 : Int32) (p : St)  {Post : Int32 → Prop} (hw : wpX4_hasNotes x1 p Post) (sz : Nat) : Met l yX4_hasNotes (mW yX4_hasNotes cX4_hasNotes 2 (some .boolean)) rmX4_hasNotes (CPre E [.ref (a 0), .int x1] sz (fl [bPad E a p])) (CQi E (fun (z : Int32) (_ : Unit) => Post z) (fun _ => (fl [bPad E a p])) (fl [bPad E a p]) sz) 0 0 (va_A (fl [bPad E a p]) sz) := by
  refine v_met (by decide) (Nat.le_of_ble_eq_true rfl) ?_
  intro pr e s m below meth c A hsz hA C
  subst hsz
  refine v_iload_n (pc := 0) C 1 rfl rfl dX4_hasNotes_0 ?_
  refine v_if_lt (pc := 1) C 20 (by decide) dX4_hasNotes_1 (fun hc => ?_) (fun hc => ?_)
  · have hw := hw.1 hc
    refine v_iconst (pc := 20) C 0 ki_0 dX4_hasNotes_20 ?_
    exact v_iretz (pc := 21) C rfl () hA rfl hw dX4_hasNotes_21
  · have hw := hw.2 hc
    refine v_iload_n (pc := 4) C 1 rfl rfl dX4_hasNotes_4 ?_
    refine v_iconst (pc := 5) C 1 ki_1 dX4_hasNotes_5 ?_
    refine v_aload_n (pc := 6) C 0 rfl rfl dX4_hasNotes_6 ?_
    refine v_get (pc := 7) C cfX4 rfl 0 0 rfl (by decide) wfX4_11 rfl dX4_hasNotes_7 ?_
    refine v_iconst (pc := 10) C 1 ki_1 dX4_hasNotes_10 ?_
    refine v_iald (pc := 11) C 1 rfl vi_1_86 tn_1 dX4_hasNotes_11 ?_
    refine v_ishl (pc := 12) C dX4_hasNotes_12 ?_
    refine v_icmp_ge (pc := 13) C 20 (by decide) dX4_hasNotes_13 (fun hc => ?_) (fun hc => ?_)
    · have hw := hw.1 hc
      refine v_iconst (pc := 20) C 0 ki_0 dX4_hasNotes_20 ?_
      exact v_iretz (pc := 21) C rfl () hA rfl hw dX4_hasNotes_21
    · have hw := hw.2 hc
      refine v_iconst (pc := 16) C 1 ki_1 dX4_hasNotes_16 ?_
      refine v_goto (pc := 17) C 21 (by decide) dX4_hasNotes_17 ?_
      exact v_iretz (pc := 21) C rfl () hA rfl hw dX4_hasNotes_21
set_option maxHeartbeats 4000000 in
set_option maxRecDepth 100000 in
theorem ctX4_inkOf (l : Launch) (E : VE) (a : Nat → Nat) (x1 : Int32) (p : St)  {Post : Int32 → Prop} (hw : wpX4_inkOf x1 p Post) (sz : Nat) : Met l yX4_inkOf (mW yX4_inkOf cX4_inkOf 2 (some .int)) rmX4_inkOf (CPre E [.ref (a 0), .int x1] sz (fl [bPad E a p])) (CQi E (fun (z : Int32) (_ : Unit) => Post z) (fun _ => (fl [bPad E a p])) (fl [bPad E a p]) sz) 0 0 (va_A (fl [bPad E a p]) sz) := by
  refine v_met (by decide) (Nat.le_of_ble_eq_true rfl) ?_
  intro pr e s m below meth c A hsz hA C
  subst hsz
  refine v_aload_n (pc := 0) C 0 rfl rfl dX4_inkOf_0 ?_
  refine v_get (pc := 1) C cfX4 rfl 0 0 rfl (by decide) wfX4_11 rfl dX4_inkOf_1 ?_
  refine v_iload_n (pc := 4) C 1 rfl rfl dX4_inkOf_4 ?_
  refine v_iconst (pc := 5) C 0 ki_0 dX4_inkOf_5 ?_
  refine v_goBi (pc := 6) C (bs := [bPad E a p]) (cs := []) (cs' := (fun (_ : Unit) => [])) (bs' := (fun (_ : Unit) => [bPad E a p])) (w' := (fun (_ : Unit) => (fl [bPad E a p]))) [] rfl rfl (fun _ => rfl) (fun _ => rfl) (fun _ => rfl) (v_runSB (pc := 6) C [.int x1, .int 0] [.ref (a 1)] (fun sz => ctX4_placeOf l E x1 0 hw sz) [] rfl rfl rfl mfX4_placeOf msX4_placeOf wmX4_55 rfl ⟨Nat.le_of_ble_eq_true rfl, Nat.le_of_ble_eq_true rfl⟩ ⟨rfl, rfl⟩ rfl (Nat.le_of_ble_eq_true rfl) ⟨Nat.zero_le _, Nat.zero_le _⟩ dX4_inkOf_6) (fun r1 _ hw => ?_)
  obtain ⟨hg, hw⟩ := hw
  refine v_iald (pc := 9) C 1 rfl hg rfl dX4_inkOf_9 ?_
  exact v_ireti (pc := 10) C () hA rfl hw dX4_inkOf_10
set_option maxHeartbeats 4000000 in
set_option maxRecDepth 100000 in
theorem ctX4_copyOf (l : Launch) (E : VE) (a : Nat → Nat) (x1 : Int32) (p : St)  {Post : Int32 → Prop} (hw : wpX4_copyOf x1 p Post) (sz : Nat) : Met l yX4_copyOf (mW yX4_copyOf cX4_copyOf 2 (some .int)) rmX4_copyOf (CPre E [.ref (a 0), .int x1] sz (fl [bPad E a p])) (CQi E (fun (z : Int32) (_ : Unit) => Post z) (fun _ => (fl [bPad E a p])) (fl [bPad E a p]) sz) 0 0 (va_A (fl [bPad E a p]) sz) := by
  refine v_met (by decide) (Nat.le_of_ble_eq_true rfl) ?_
  intro pr e s m below meth c A hsz hA C
  subst hsz
  refine v_aload_n (pc := 0) C 0 rfl rfl dX4_copyOf_0 ?_
  refine v_get (pc := 1) C cfX4 rfl 0 0 rfl (by decide) wfX4_11 rfl dX4_copyOf_1 ?_
  refine v_iload_n (pc := 4) C 1 rfl rfl dX4_copyOf_4 ?_
  refine v_iconst (pc := 5) C 1 ki_1 dX4_copyOf_5 ?_
  refine v_goBi (pc := 6) C (bs := [bPad E a p]) (cs := []) (cs' := (fun (_ : Unit) => [])) (bs' := (fun (_ : Unit) => [bPad E a p])) (w' := (fun (_ : Unit) => (fl [bPad E a p]))) [] rfl rfl (fun _ => rfl) (fun _ => rfl) (fun _ => rfl) (v_runSB (pc := 6) C [.int x1, .int 1] [.ref (a 1)] (fun sz => ctX4_placeOf l E x1 1 hw sz) [] rfl rfl rfl mfX4_placeOf msX4_placeOf wmX4_55 rfl ⟨Nat.le_of_ble_eq_true rfl, Nat.le_of_ble_eq_true rfl⟩ ⟨rfl, rfl⟩ rfl (Nat.le_of_ble_eq_true rfl) ⟨Nat.zero_le _, Nat.zero_le _⟩ dX4_copyOf_6) (fun r1 _ hw => ?_)
  obtain ⟨hg, hw⟩ := hw
  refine v_iald (pc := 9) C 1 rfl hg rfl dX4_copyOf_9 ?_
  exact v_ireti (pc := 10) C () hA rfl hw dX4_copyOf_10
end
end
section
section
variable {pr : Program} {l : Launch} {e : Env} {s : State} {m : MethodId} {args : Array Value} {below : List Frame} {meth : Method} {c : Code} {E : VE} {A : Nat → Prop} {w0 : va_W}
theorem dX4_tearTop_0 : decode cX4_tearTop 0 = .ok (.aload_n 0, 1) := by decide +kernel
theorem dX4_tearTop_1 : decode cX4_tearTop 1 = .ok (.getfield 11, 3) := by decide +kernel
theorem dX4_tearTop_4 : decode cX4_tearTop 4 = .ok (.iconst 0, 1) := by decide +kernel
theorem dX4_tearTop_5 : decode cX4_tearTop 5 = .ok (.dup2, 1) := by decide +kernel
theorem dX4_tearTop_6 : decode cX4_tearTop 6 = .ok (.iaload, 1) := by decide +kernel
theorem dX4_tearTop_7 : decode cX4_tearTop 7 = .ok (.iconst 1, 1) := by decide +kernel
theorem dX4_tearTop_8 : decode cX4_tearTop 8 = .ok (.iadd, 1) := by decide +kernel
theorem dX4_tearTop_9 : decode cX4_tearTop 9 = .ok (.iastore, 1) := by decide +kernel
theorem dX4_tearTop_10 : decode cX4_tearTop 10 = .ok (.aload_n 0, 1) := by decide +kernel
theorem dX4_tearTop_11 : decode cX4_tearTop 11 = .ok (.getfield 11, 3) := by decide +kernel
theorem dX4_tearTop_14 : decode cX4_tearTop 14 = .ok (.iconst 0, 1) := by decide +kernel
theorem dX4_tearTop_15 : decode cX4_tearTop 15 = .ok (.iaload, 1) := by decide +kernel
theorem dX4_tearTop_16 : decode cX4_tearTop 16 = .ok (.iconst 1, 1) := by decide +kernel
theorem dX4_tearTop_17 : decode cX4_tearTop 17 = .ok (.isub, 1) := by decide +kernel
theorem dX4_tearTop_18 : decode cX4_tearTop 18 = .ok (.ireturn, 1) := by decide +kernel
theorem dX4_pressInto_0 : decode cX4_pressInto 0 = .ok (.aload_n 0, 1) := by decide +kernel
theorem dX4_pressInto_1 : decode cX4_pressInto 1 = .ok (.getfield 11, 3) := by decide +kernel
theorem dX4_pressInto_4 : decode cX4_pressInto 4 = .ok (.iload_n 1, 1) := by decide +kernel
theorem dX4_pressInto_5 : decode cX4_pressInto 5 = .ok (.iconst 2, 1) := by decide +kernel
theorem dX4_pressInto_6 : decode cX4_pressInto 6 = .ok (.invokestatic 55, 3) := by decide +kernel
theorem dX4_pressInto_9 : decode cX4_pressInto 9 = .ok (.iload_n 2, 1) := by decide +kernel
theorem dX4_pressInto_10 : decode cX4_pressInto 10 = .ok (.iload_n 3, 1) := by decide +kernel
theorem dX4_pressInto_11 : decode cX4_pressInto 11 = .ok (.invokestatic 76, 3) := by decide +kernel
theorem dX4_pressInto_14 : decode cX4_pressInto 14 = .ok (.iload_n 1, 1) := by decide +kernel
theorem dX4_pressInto_15 : decode cX4_pressInto 15 = .ok (.aload_n 0, 1) := by decide +kernel
theorem dX4_pressInto_16 : decode cX4_pressInto 16 = .ok (.getfield 11, 3) := by decide +kernel
theorem dX4_pressInto_19 : decode cX4_pressInto 19 = .ok (.iconst 0, 1) := by decide +kernel
theorem dX4_pressInto_20 : decode cX4_pressInto 20 = .ok (.iaload, 1) := by decide +kernel
theorem dX4_pressInto_21 : decode cX4_pressInto 21 = .ok (.if_icmp .le 20, 3) := by decide +kernel
theorem dX4_pressInto_24 : decode cX4_pressInto 24 = .ok (.aload_n 0, 1) := by decide +kernel
theorem dX4_pressInto_25 : decode cX4_pressInto 25 = .ok (.getfield 25, 3) := by decide +kernel
theorem dX4_pressInto_28 : decode cX4_pressInto 28 = .ok (.iload_n 1, 1) := by decide +kernel
theorem dX4_pressInto_29 : decode cX4_pressInto 29 = .ok (.iconst 1, 1) := by decide +kernel
theorem dX4_pressInto_30 : decode cX4_pressInto 30 = .ok (.isub, 1) := by decide +kernel
theorem dX4_pressInto_31 : decode cX4_pressInto 31 = .ok (.ishr, 1) := by decide +kernel
theorem dX4_pressInto_32 : decode cX4_pressInto 32 = .ok (.iconst 1, 1) := by decide +kernel
theorem dX4_pressInto_33 : decode cX4_pressInto 33 = .ok (.iand, 1) := by decide +kernel
theorem dX4_pressInto_34 : decode cX4_pressInto 34 = .ok (.ifCond .eq 7, 3) := by decide +kernel
theorem dX4_pressInto_37 : decode cX4_pressInto 37 = .ok (.iconst 1, 1) := by decide +kernel
theorem dX4_pressInto_38 : decode cX4_pressInto 38 = .ok (.goto 4, 3) := by decide +kernel
theorem dX4_pressInto_41 : decode cX4_pressInto 41 = .ok (.iconst 0, 1) := by decide +kernel
theorem dX4_pressInto_42 : decode cX4_pressInto 42 = .ok (.istore 4, 2) := by decide +kernel
theorem dX4_pressInto_44 : decode cX4_pressInto 44 = .ok (.iload 4, 2) := by decide +kernel
theorem dX4_pressInto_46 : decode cX4_pressInto 46 = .ok (.ifCond .eq 22, 3) := by decide +kernel
theorem dX4_pressInto_49 : decode cX4_pressInto 49 = .ok (.iload_n 3, 1) := by decide +kernel
theorem dX4_pressInto_50 : decode cX4_pressInto 50 = .ok (.iconst 2, 1) := by decide +kernel
theorem dX4_pressInto_51 : decode cX4_pressInto 51 = .ok (.if_icmp .lt 17, 3) := by decide +kernel
theorem dX4_pressInto_54 : decode cX4_pressInto 54 = .ok (.aload_n 0, 1) := by decide +kernel
theorem dX4_pressInto_55 : decode cX4_pressInto 55 = .ok (.getfield 11, 3) := by decide +kernel
theorem dX4_pressInto_58 : decode cX4_pressInto 58 = .ok (.iload_n 1, 1) := by decide +kernel
theorem dX4_pressInto_59 : decode cX4_pressInto 59 = .ok (.iconst 1, 1) := by decide +kernel
theorem dX4_pressInto_60 : decode cX4_pressInto 60 = .ok (.invokestatic 55, 3) := by decide +kernel
theorem dX4_pressInto_63 : decode cX4_pressInto 63 = .ok (.dup2, 1) := by decide +kernel
theorem dX4_pressInto_64 : decode cX4_pressInto 64 = .ok (.iaload, 1) := by decide +kernel
theorem dX4_pressInto_65 : decode cX4_pressInto 65 = .ok (.iload_n 2, 1) := by decide +kernel
theorem dX4_pressInto_66 : decode cX4_pressInto 66 = .ok (.ior, 1) := by decide +kernel
theorem dX4_pressInto_67 : decode cX4_pressInto 67 = .ok (.iastore, 1) := by decide +kernel
theorem dX4_pressInto_68 : decode cX4_pressInto 68 = .ok (.return_, 1) := by decide +kernel
theorem dX4_putNote_0 : decode cX4_putNote 0 = .ok (.aload_n 0, 1) := by decide +kernel
theorem dX4_putNote_1 : decode cX4_putNote 1 = .ok (.getfield 11, 3) := by decide +kernel
theorem dX4_putNote_4 : decode cX4_putNote 4 = .ok (.iconst 1, 1) := by decide +kernel
theorem dX4_putNote_5 : decode cX4_putNote 5 = .ok (.iaload, 1) := by decide +kernel
theorem dX4_putNote_6 : decode cX4_putNote 6 = .ok (.istore 5, 2) := by decide +kernel
theorem dX4_putNote_8 : decode cX4_putNote 8 = .ok (.aload_n 0, 1) := by decide +kernel
theorem dX4_putNote_9 : decode cX4_putNote 9 = .ok (.getfield 11, 3) := by decide +kernel
theorem dX4_putNote_12 : decode cX4_putNote 12 = .ok (.iconst 0, 1) := by decide +kernel
theorem dX4_putNote_13 : decode cX4_putNote 13 = .ok (.iaload, 1) := by decide +kernel
theorem dX4_putNote_14 : decode cX4_putNote 14 = .ok (.istore 6, 2) := by decide +kernel
theorem dX4_putNote_16 : decode cX4_putNote 16 = .ok (.iload 5, 2) := by decide +kernel
theorem dX4_putNote_18 : decode cX4_putNote 18 = .ok (.bipush 10, 2) := by decide +kernel
theorem dX4_putNote_20 : decode cX4_putNote 20 = .ok (.if_icmp .ge 12, 3) := by decide +kernel
theorem dX4_putNote_23 : decode cX4_putNote 23 = .ok (.iload 6, 2) := by decide +kernel
theorem dX4_putNote_25 : decode cX4_putNote 25 = .ok (.aload_n 0, 1) := by decide +kernel
theorem dX4_putNote_26 : decode cX4_putNote 26 = .ok (.getfield 22, 3) := by decide +kernel
theorem dX4_putNote_29 : decode cX4_putNote 29 = .ok (.if_icmp .lt 5, 3) := by decide +kernel
theorem dX4_putNote_32 : decode cX4_putNote 32 = .ok (.iconst (-1), 1) := by decide +kernel
theorem dX4_putNote_33 : decode cX4_putNote 33 = .ok (.ireturn, 1) := by decide +kernel
theorem dX4_putNote_34 : decode cX4_putNote 34 = .ok (.aload_n 0, 1) := by decide +kernel
theorem dX4_putNote_35 : decode cX4_putNote 35 = .ok (.getfield 28, 3) := by decide +kernel
theorem dX4_putNote_38 : decode cX4_putNote 38 = .ok (.iload 5, 2) := by decide +kernel
theorem dX4_putNote_40 : decode cX4_putNote 40 = .ok (.iload_n 2, 1) := by decide +kernel
theorem dX4_putNote_41 : decode cX4_putNote 41 = .ok (.iastore, 1) := by decide +kernel
theorem dX4_putNote_42 : decode cX4_putNote 42 = .ok (.aload_n 0, 1) := by decide +kernel
theorem dX4_putNote_43 : decode cX4_putNote 43 = .ok (.getfield 31, 3) := by decide +kernel
theorem dX4_putNote_46 : decode cX4_putNote 46 = .ok (.iload 5, 2) := by decide +kernel
theorem dX4_putNote_48 : decode cX4_putNote 48 = .ok (.iload_n 3, 1) := by decide +kernel
theorem dX4_putNote_49 : decode cX4_putNote 49 = .ok (.iastore, 1) := by decide +kernel
theorem dX4_putNote_50 : decode cX4_putNote 50 = .ok (.aload_n 0, 1) := by decide +kernel
theorem dX4_putNote_51 : decode cX4_putNote 51 = .ok (.getfield 34, 3) := by decide +kernel
theorem dX4_putNote_54 : decode cX4_putNote 54 = .ok (.iload 5, 2) := by decide +kernel
theorem dX4_putNote_56 : decode cX4_putNote 56 = .ok (.iload 4, 2) := by decide +kernel
theorem dX4_putNote_58 : decode cX4_putNote 58 = .ok (.iastore, 1) := by decide +kernel
theorem dX4_putNote_59 : decode cX4_putNote 59 = .ok (.aload_n 0, 1) := by decide +kernel
theorem dX4_putNote_60 : decode cX4_putNote 60 = .ok (.getfield 37, 3) := by decide +kernel
theorem dX4_putNote_63 : decode cX4_putNote 63 = .ok (.iload 5, 2) := by decide +kernel
theorem dX4_putNote_65 : decode cX4_putNote 65 = .ok (.iload 6, 2) := by decide +kernel
theorem dX4_putNote_67 : decode cX4_putNote 67 = .ok (.iastore, 1) := by decide +kernel
theorem dX4_putNote_68 : decode cX4_putNote 68 = .ok (.iconst 0, 1) := by decide +kernel
theorem dX4_putNote_69 : decode cX4_putNote 69 = .ok (.istore 7, 2) := by decide +kernel
theorem dX4_putNote_71 : decode cX4_putNote 71 = .ok (.iload 7, 2) := by decide +kernel
theorem dX4_putNote_73 : decode cX4_putNote 73 = .ok (.bipush 6, 2) := by decide +kernel
theorem dX4_putNote_75 : decode cX4_putNote 75 = .ok (.if_icmp .ge 30, 3) := by decide +kernel
theorem dX4_putNote_78 : decode cX4_putNote 78 = .ok (.aload_n 0, 1) := by decide +kernel
theorem dX4_putNote_79 : decode cX4_putNote 79 = .ok (.getfield 40, 3) := by decide +kernel
theorem dX4_putNote_82 : decode cX4_putNote 82 = .ok (.iload 5, 2) := by decide +kernel
theorem dX4_putNote_84 : decode cX4_putNote 84 = .ok (.bipush 6, 2) := by decide +kernel
theorem dX4_putNote_86 : decode cX4_putNote 86 = .ok (.imul, 1) := by decide +kernel
theorem dX4_putNote_87 : decode cX4_putNote 87 = .ok (.iload 7, 2) := by decide +kernel
theorem dX4_putNote_89 : decode cX4_putNote 89 = .ok (.iadd, 1) := by decide +kernel
theorem dX4_putNote_90 : decode cX4_putNote 90 = .ok (.aload_n 1, 1) := by decide +kernel
theorem dX4_putNote_91 : decode cX4_putNote 91 = .ok (.iload_n 2, 1) := by decide +kernel
theorem dX4_putNote_92 : decode cX4_putNote 92 = .ok (.iload_n 3, 1) := by decide +kernel
theorem dX4_putNote_93 : decode cX4_putNote 93 = .ok (.iload 7, 2) := by decide +kernel
theorem dX4_putNote_95 : decode cX4_putNote 95 = .ok (.invokevirtual 59, 3) := by decide +kernel
theorem dX4_putNote_98 : decode cX4_putNote 98 = .ok (.iastore, 1) := by decide +kernel
theorem dX4_putNote_99 : decode cX4_putNote 99 = .ok (.iinc 7 1, 3) := by decide +kernel
theorem dX4_putNote_102 : decode cX4_putNote 102 = .ok (.goto (-31), 3) := by decide +kernel
theorem dX4_putNote_105 : decode cX4_putNote 105 = .ok (.aload_n 0, 1) := by decide +kernel
theorem dX4_putNote_106 : decode cX4_putNote 106 = .ok (.getfield 11, 3) := by decide +kernel
theorem dX4_putNote_109 : decode cX4_putNote 109 = .ok (.iconst 1, 1) := by decide +kernel
theorem dX4_putNote_110 : decode cX4_putNote 110 = .ok (.iload 5, 2) := by decide +kernel
theorem dX4_putNote_112 : decode cX4_putNote 112 = .ok (.iconst 1, 1) := by decide +kernel
theorem dX4_putNote_113 : decode cX4_putNote 113 = .ok (.iadd, 1) := by decide +kernel
theorem dX4_putNote_114 : decode cX4_putNote 114 = .ok (.iastore, 1) := by decide +kernel
theorem dX4_putNote_115 : decode cX4_putNote 115 = .ok (.aload_n 1, 1) := by decide +kernel
theorem dX4_putNote_116 : decode cX4_putNote 116 = .ok (.iload_n 2, 1) := by decide +kernel
theorem dX4_putNote_117 : decode cX4_putNote 117 = .ok (.invokevirtual 65, 3) := by decide +kernel
theorem dX4_putNote_120 : decode cX4_putNote 120 = .ok (.ifCond .eq 19, 3) := by decide +kernel
theorem dX4_putNote_123 : decode cX4_putNote 123 = .ok (.aload_n 0, 1) := by decide +kernel
theorem dX4_putNote_124 : decode cX4_putNote 124 = .ok (.getfield 11, 3) := by decide +kernel
theorem dX4_putNote_127 : decode cX4_putNote 127 = .ok (.iload 6, 2) := by decide +kernel
theorem dX4_putNote_129 : decode cX4_putNote 129 = .ok (.iconst 0, 1) := by decide +kernel
theorem dX4_putNote_130 : decode cX4_putNote 130 = .ok (.invokestatic 55, 3) := by decide +kernel
theorem dX4_putNote_133 : decode cX4_putNote 133 = .ok (.dup2, 1) := by decide +kernel
theorem dX4_putNote_134 : decode cX4_putNote 134 = .ok (.iaload, 1) := by decide +kernel
theorem dX4_putNote_135 : decode cX4_putNote 135 = .ok (.iload 4, 2) := by decide +kernel
theorem dX4_putNote_137 : decode cX4_putNote 137 = .ok (.ior, 1) := by decide +kernel
theorem dX4_putNote_138 : decode cX4_putNote 138 = .ok (.iastore, 1) := by decide +kernel
theorem dX4_putNote_139 : decode cX4_putNote 139 = .ok (.iload 6, 2) := by decide +kernel
theorem dX4_putNote_141 : decode cX4_putNote 141 = .ok (.istore 7, 2) := by decide +kernel
theorem dX4_putNote_143 : decode cX4_putNote 143 = .ok (.iload 7, 2) := by decide +kernel
theorem dX4_putNote_145 : decode cX4_putNote 145 = .ok (.aload_n 0, 1) := by decide +kernel
theorem dX4_putNote_146 : decode cX4_putNote 146 = .ok (.getfield 22, 3) := by decide +kernel
theorem dX4_putNote_149 : decode cX4_putNote 149 = .ok (.if_icmp .ge 25, 3) := by decide +kernel
theorem dX4_putNote_152 : decode cX4_putNote 152 = .ok (.aload_n 0, 1) := by decide +kernel
theorem dX4_putNote_153 : decode cX4_putNote 153 = .ok (.iload 7, 2) := by decide +kernel
theorem dX4_putNote_155 : decode cX4_putNote 155 = .ok (.iload 4, 2) := by decide +kernel
theorem dX4_putNote_157 : decode cX4_putNote 157 = .ok (.aload_n 0, 1) := by decide +kernel
theorem dX4_putNote_158 : decode cX4_putNote 158 = .ok (.iload 5, 2) := by decide +kernel
theorem dX4_putNote_160 : decode cX4_putNote 160 = .ok (.iload 7, 2) := by decide +kernel
theorem dX4_putNote_162 : decode cX4_putNote 162 = .ok (.invokevirtual 69, 3) := by decide +kernel
theorem dX4_putNote_165 : decode cX4_putNote 165 = .ok (.invokevirtual 72, 3) := by decide +kernel
theorem dX4_putNote_168 : decode cX4_putNote 168 = .ok (.iinc 7 1, 3) := by decide +kernel
theorem dX4_putNote_171 : decode cX4_putNote 171 = .ok (.goto (-28), 3) := by decide +kernel
theorem dX4_putNote_174 : decode cX4_putNote 174 = .ok (.iload 5, 2) := by decide +kernel
theorem dX4_putNote_176 : decode cX4_putNote 176 = .ok (.ireturn, 1) := by decide +kernel
theorem dX4_writtenOn_0 : decode cX4_writtenOn 0 = .ok (.iconst 0, 1) := by decide +kernel
theorem dX4_writtenOn_1 : decode cX4_writtenOn 1 = .ok (.istore_n 2, 1) := by decide +kernel
theorem dX4_writtenOn_2 : decode cX4_writtenOn 2 = .ok (.iconst 0, 1) := by decide +kernel
theorem dX4_writtenOn_3 : decode cX4_writtenOn 3 = .ok (.istore_n 3, 1) := by decide +kernel
theorem dX4_writtenOn_4 : decode cX4_writtenOn 4 = .ok (.iload_n 3, 1) := by decide +kernel
theorem dX4_writtenOn_5 : decode cX4_writtenOn 5 = .ok (.aload_n 0, 1) := by decide +kernel
theorem dX4_writtenOn_6 : decode cX4_writtenOn 6 = .ok (.getfield 11, 3) := by decide +kernel
theorem dX4_writtenOn_9 : decode cX4_writtenOn 9 = .ok (.iconst 1, 1) := by decide +kernel
theorem dX4_writtenOn_10 : decode cX4_writtenOn 10 = .ok (.iaload, 1) := by decide +kernel
theorem dX4_writtenOn_11 : decode cX4_writtenOn 11 = .ok (.if_icmp .ge 25, 3) := by decide +kernel
theorem dX4_writtenOn_14 : decode cX4_writtenOn 14 = .ok (.aload_n 0, 1) := by decide +kernel
theorem dX4_writtenOn_15 : decode cX4_writtenOn 15 = .ok (.getfield 37, 3) := by decide +kernel
theorem dX4_writtenOn_18 : decode cX4_writtenOn 18 = .ok (.iload_n 3, 1) := by decide +kernel
theorem dX4_writtenOn_19 : decode cX4_writtenOn 19 = .ok (.iaload, 1) := by decide +kernel
theorem dX4_writtenOn_20 : decode cX4_writtenOn 20 = .ok (.iload_n 1, 1) := by decide +kernel
theorem dX4_writtenOn_21 : decode cX4_writtenOn 21 = .ok (.if_icmp .ne 9, 3) := by decide +kernel
theorem dX4_writtenOn_24 : decode cX4_writtenOn 24 = .ok (.iload_n 2, 1) := by decide +kernel
theorem dX4_writtenOn_25 : decode cX4_writtenOn 25 = .ok (.iconst 1, 1) := by decide +kernel
theorem dX4_writtenOn_26 : decode cX4_writtenOn 26 = .ok (.iload_n 3, 1) := by decide +kernel
theorem dX4_writtenOn_27 : decode cX4_writtenOn 27 = .ok (.ishl, 1) := by decide +kernel
theorem dX4_writtenOn_28 : decode cX4_writtenOn 28 = .ok (.ior, 1) := by decide +kernel
theorem dX4_writtenOn_29 : decode cX4_writtenOn 29 = .ok (.istore_n 2, 1) := by decide +kernel
theorem dX4_writtenOn_30 : decode cX4_writtenOn 30 = .ok (.iinc 3 1, 3) := by decide +kernel
theorem dX4_writtenOn_33 : decode cX4_writtenOn 33 = .ok (.goto (-29), 3) := by decide +kernel
theorem dX4_writtenOn_36 : decode cX4_writtenOn 36 = .ok (.iload_n 2, 1) := by decide +kernel
theorem dX4_writtenOn_37 : decode cX4_writtenOn 37 = .ok (.ireturn, 1) := by decide +kernel
theorem dX4_cellsDented_0 : decode cX4_cellsDented 0 = .ok (.aload_n 0, 1) := by decide +kernel
theorem dX4_cellsDented_1 : decode cX4_cellsDented 1 = .ok (.iload_n 1, 1) := by decide +kernel
theorem dX4_cellsDented_2 : decode cX4_cellsDented 2 = .ok (.iload_n 2, 1) := by decide +kernel
theorem dX4_cellsDented_3 : decode cX4_cellsDented 3 = .ok (.invokevirtual 69, 3) := by decide +kernel
theorem dX4_cellsDented_6 : decode cX4_cellsDented 6 = .ok (.ifCond .le 12, 3) := by decide +kernel
theorem dX4_cellsDented_9 : decode cX4_cellsDented 9 = .ok (.aload_n 0, 1) := by decide +kernel
theorem dX4_cellsDented_10 : decode cX4_cellsDented 10 = .ok (.getfield 34, 3) := by decide +kernel
theorem dX4_cellsDented_13 : decode cX4_cellsDented 13 = .ok (.iload_n 1, 1) := by decide +kernel
theorem dX4_cellsDented_14 : decode cX4_cellsDented 14 = .ok (.iaload, 1) := by decide +kernel
theorem dX4_cellsDented_15 : decode cX4_cellsDented 15 = .ok (.goto 4, 3) := by decide +kernel
theorem dX4_cellsDented_18 : decode cX4_cellsDented 18 = .ok (.iconst 0, 1) := by decide +kernel
theorem dX4_cellsDented_19 : decode cX4_cellsDented 19 = .ok (.ireturn, 1) := by decide +kernel
theorem dX4_dentedBy_0 : decode cX4_dentedBy 0 = .ok (.iconst 0, 1) := by decide +kernel
theorem dX4_dentedBy_1 : decode cX4_dentedBy 1 = .ok (.istore_n 2, 1) := by decide +kernel
theorem dX4_dentedBy_2 : decode cX4_dentedBy 2 = .ok (.iconst 0, 1) := by decide +kernel
theorem dX4_dentedBy_3 : decode cX4_dentedBy 3 = .ok (.istore_n 3, 1) := by decide +kernel
theorem dX4_dentedBy_4 : decode cX4_dentedBy 4 = .ok (.iload_n 3, 1) := by decide +kernel
theorem dX4_dentedBy_5 : decode cX4_dentedBy 5 = .ok (.aload_n 0, 1) := by decide +kernel
theorem dX4_dentedBy_6 : decode cX4_dentedBy 6 = .ok (.getfield 11, 3) := by decide +kernel
theorem dX4_dentedBy_9 : decode cX4_dentedBy 9 = .ok (.iconst 1, 1) := by decide +kernel
theorem dX4_dentedBy_10 : decode cX4_dentedBy 10 = .ok (.iaload, 1) := by decide +kernel
theorem dX4_dentedBy_11 : decode cX4_dentedBy 11 = .ok (.if_icmp .ge 24, 3) := by decide +kernel
theorem dX4_dentedBy_14 : decode cX4_dentedBy 14 = .ok (.aload_n 0, 1) := by decide +kernel
theorem dX4_dentedBy_15 : decode cX4_dentedBy 15 = .ok (.iload_n 3, 1) := by decide +kernel
theorem dX4_dentedBy_16 : decode cX4_dentedBy 16 = .ok (.iload_n 1, 1) := by decide +kernel
theorem dX4_dentedBy_17 : decode cX4_dentedBy 17 = .ok (.invokevirtual 83, 3) := by decide +kernel
theorem dX4_dentedBy_20 : decode cX4_dentedBy 20 = .ok (.ifCond .eq 9, 3) := by decide +kernel
theorem dX4_dentedBy_23 : decode cX4_dentedBy 23 = .ok (.iload_n 2, 1) := by decide +kernel
theorem dX4_dentedBy_24 : decode cX4_dentedBy 24 = .ok (.iconst 1, 1) := by decide +kernel
theorem dX4_dentedBy_25 : decode cX4_dentedBy 25 = .ok (.iload_n 3, 1) := by decide +kernel
theorem dX4_dentedBy_26 : decode cX4_dentedBy 26 = .ok (.ishl, 1) := by decide +kernel
theorem dX4_dentedBy_27 : decode cX4_dentedBy 27 = .ok (.ior, 1) := by decide +kernel
theorem dX4_dentedBy_28 : decode cX4_dentedBy 28 = .ok (.istore_n 2, 1) := by decide +kernel
theorem dX4_dentedBy_29 : decode cX4_dentedBy 29 = .ok (.iinc 3 1, 3) := by decide +kernel
theorem dX4_dentedBy_32 : decode cX4_dentedBy 32 = .ok (.goto (-28), 3) := by decide +kernel
theorem dX4_dentedBy_35 : decode cX4_dentedBy 35 = .ok (.iload_n 2, 1) := by decide +kernel
theorem dX4_dentedBy_36 : decode cX4_dentedBy 36 = .ok (.ireturn, 1) := by decide +kernel
theorem dX4_dentedAtLeast_0 : decode cX4_dentedAtLeast 0 = .ok (.iconst 0, 1) := by decide +kernel
theorem dX4_dentedAtLeast_1 : decode cX4_dentedAtLeast 1 = .ok (.istore_n 3, 1) := by decide +kernel
theorem dX4_dentedAtLeast_2 : decode cX4_dentedAtLeast 2 = .ok (.iconst 0, 1) := by decide +kernel
theorem dX4_dentedAtLeast_3 : decode cX4_dentedAtLeast 3 = .ok (.istore 4, 2) := by decide +kernel
theorem dX4_dentedAtLeast_5 : decode cX4_dentedAtLeast 5 = .ok (.iload 4, 2) := by decide +kernel
theorem dX4_dentedAtLeast_7 : decode cX4_dentedAtLeast 7 = .ok (.bipush 12, 2) := by decide +kernel
theorem dX4_dentedAtLeast_9 : decode cX4_dentedAtLeast 9 = .ok (.if_icmp .ge 27, 3) := by decide +kernel
theorem dX4_dentedAtLeast_12 : decode cX4_dentedAtLeast 12 = .ok (.aload_n 0, 1) := by decide +kernel
theorem dX4_dentedAtLeast_13 : decode cX4_dentedAtLeast 13 = .ok (.iload_n 1, 1) := by decide +kernel
theorem dX4_dentedAtLeast_14 : decode cX4_dentedAtLeast 14 = .ok (.iload 4, 2) := by decide +kernel
theorem dX4_dentedAtLeast_16 : decode cX4_dentedAtLeast 16 = .ok (.invokevirtual 86, 3) := by decide +kernel
theorem dX4_dentedAtLeast_19 : decode cX4_dentedAtLeast 19 = .ok (.iload_n 2, 1) := by decide +kernel
theorem dX4_dentedAtLeast_20 : decode cX4_dentedAtLeast 20 = .ok (.if_icmp .lt 10, 3) := by decide +kernel
theorem dX4_dentedAtLeast_23 : decode cX4_dentedAtLeast 23 = .ok (.iload_n 3, 1) := by decide +kernel
theorem dX4_dentedAtLeast_24 : decode cX4_dentedAtLeast 24 = .ok (.iconst 1, 1) := by decide +kernel
theorem dX4_dentedAtLeast_25 : decode cX4_dentedAtLeast 25 = .ok (.iload 4, 2) := by decide +kernel
theorem dX4_dentedAtLeast_27 : decode cX4_dentedAtLeast 27 = .ok (.ishl, 1) := by decide +kernel
theorem dX4_dentedAtLeast_28 : decode cX4_dentedAtLeast 28 = .ok (.ior, 1) := by decide +kernel
theorem dX4_dentedAtLeast_29 : decode cX4_dentedAtLeast 29 = .ok (.istore_n 3, 1) := by decide +kernel
theorem dX4_dentedAtLeast_30 : decode cX4_dentedAtLeast 30 = .ok (.iinc 4 1, 3) := by decide +kernel
theorem dX4_dentedAtLeast_33 : decode cX4_dentedAtLeast 33 = .ok (.goto (-28), 3) := by decide +kernel
theorem dX4_dentedAtLeast_36 : decode cX4_dentedAtLeast 36 = .ok (.iload_n 3, 1) := by decide +kernel
theorem dX4_dentedAtLeast_37 : decode cX4_dentedAtLeast 37 = .ok (.ireturn, 1) := by decide +kernel
theorem dX4_digestFrom_0 : decode cX4_digestFrom 0 = .ok (.lload_n 1, 1) := by decide +kernel
theorem dX4_digestFrom_1 : decode cX4_digestFrom 1 = .ok (.lstore_n 3, 1) := by decide +kernel
theorem dX4_digestFrom_2 : decode cX4_digestFrom 2 = .ok (.aload_n 0, 1) := by decide +kernel
theorem dX4_digestFrom_3 : decode cX4_digestFrom 3 = .ok (.getfield 22, 3) := by decide +kernel
theorem dX4_digestFrom_6 : decode cX4_digestFrom 6 = .ok (.iconst 0, 1) := by decide +kernel
theorem dX4_digestFrom_7 : decode cX4_digestFrom 7 = .ok (.invokestatic 55, 3) := by decide +kernel
theorem dX4_digestFrom_10 : decode cX4_digestFrom 10 = .ok (.istore 5, 2) := by decide +kernel
theorem dX4_digestFrom_12 : decode cX4_digestFrom 12 = .ok (.iconst 2, 1) := by decide +kernel
theorem dX4_digestFrom_13 : decode cX4_digestFrom 13 = .ok (.istore 6, 2) := by decide +kernel
theorem dX4_digestFrom_15 : decode cX4_digestFrom 15 = .ok (.iload 6, 2) := by decide +kernel
theorem dX4_digestFrom_17 : decode cX4_digestFrom 17 = .ok (.iload 5, 2) := by decide +kernel
theorem dX4_digestFrom_19 : decode cX4_digestFrom 19 = .ok (.if_icmp .ge 31, 3) := by decide +kernel
theorem dX4_digestFrom_22 : decode cX4_digestFrom 22 = .ok (.iload 6, 2) := by decide +kernel
theorem dX4_digestFrom_24 : decode cX4_digestFrom 24 = .ok (.bipush 86, 2) := by decide +kernel
theorem dX4_digestFrom_26 : decode cX4_digestFrom 26 = .ok (.if_icmp .ge 24, 3) := by decide +kernel
theorem dX4_digestFrom_29 : decode cX4_digestFrom 29 = .ok (.ldc2_w 89, 3) := by decide +kernel
theorem dX4_digestFrom_32 : decode cX4_digestFrom 32 = .ok (.lload_n 3, 1) := by decide +kernel
theorem dX4_digestFrom_33 : decode cX4_digestFrom 33 = .ok (.lmul, 1) := by decide +kernel
theorem dX4_digestFrom_34 : decode cX4_digestFrom 34 = .ok (.aload_n 0, 1) := by decide +kernel
theorem dX4_digestFrom_35 : decode cX4_digestFrom 35 = .ok (.getfield 11, 3) := by decide +kernel
theorem dX4_digestFrom_38 : decode cX4_digestFrom 38 = .ok (.iload 6, 2) := by decide +kernel
theorem dX4_digestFrom_40 : decode cX4_digestFrom 40 = .ok (.iaload, 1) := by decide +kernel
theorem dX4_digestFrom_41 : decode cX4_digestFrom 41 = .ok (.i2l, 1) := by decide +kernel
theorem dX4_digestFrom_42 : decode cX4_digestFrom 42 = .ok (.ladd, 1) := by decide +kernel
theorem dX4_digestFrom_43 : decode cX4_digestFrom 43 = .ok (.lstore_n 3, 1) := by decide +kernel
theorem dX4_digestFrom_44 : decode cX4_digestFrom 44 = .ok (.iinc 6 1, 3) := by decide +kernel
theorem dX4_digestFrom_47 : decode cX4_digestFrom 47 = .ok (.goto (-32), 3) := by decide +kernel
theorem dX4_digestFrom_50 : decode cX4_digestFrom 50 = .ok (.iconst 0, 1) := by decide +kernel
theorem dX4_digestFrom_51 : decode cX4_digestFrom 51 = .ok (.istore 6, 2) := by decide +kernel
theorem dX4_digestFrom_53 : decode cX4_digestFrom 53 = .ok (.iload 6, 2) := by decide +kernel
theorem dX4_digestFrom_55 : decode cX4_digestFrom 55 = .ok (.aload_n 0, 1) := by decide +kernel
theorem dX4_digestFrom_56 : decode cX4_digestFrom 56 = .ok (.getfield 11, 3) := by decide +kernel
theorem dX4_digestFrom_59 : decode cX4_digestFrom 59 = .ok (.iconst 1, 1) := by decide +kernel
theorem dX4_digestFrom_60 : decode cX4_digestFrom 60 = .ok (.iaload, 1) := by decide +kernel
theorem dX4_digestFrom_61 : decode cX4_digestFrom 61 = .ok (.if_icmp .ge 69, 3) := by decide +kernel
theorem dX4_digestFrom_64 : decode cX4_digestFrom 64 = .ok (.ldc2_w 89, 3) := by decide +kernel
theorem dX4_digestFrom_67 : decode cX4_digestFrom 67 = .ok (.lload_n 3, 1) := by decide +kernel
theorem dX4_digestFrom_68 : decode cX4_digestFrom 68 = .ok (.lmul, 1) := by decide +kernel
theorem dX4_digestFrom_69 : decode cX4_digestFrom 69 = .ok (.aload_n 0, 1) := by decide +kernel
theorem dX4_digestFrom_70 : decode cX4_digestFrom 70 = .ok (.getfield 28, 3) := by decide +kernel
theorem dX4_digestFrom_73 : decode cX4_digestFrom 73 = .ok (.iload 6, 2) := by decide +kernel
theorem dX4_digestFrom_75 : decode cX4_digestFrom 75 = .ok (.iaload, 1) := by decide +kernel
theorem dX4_digestFrom_76 : decode cX4_digestFrom 76 = .ok (.i2l, 1) := by decide +kernel
theorem dX4_digestFrom_77 : decode cX4_digestFrom 77 = .ok (.ladd, 1) := by decide +kernel
theorem dX4_digestFrom_78 : decode cX4_digestFrom 78 = .ok (.lstore_n 3, 1) := by decide +kernel
theorem dX4_digestFrom_79 : decode cX4_digestFrom 79 = .ok (.ldc2_w 89, 3) := by decide +kernel
theorem dX4_digestFrom_82 : decode cX4_digestFrom 82 = .ok (.lload_n 3, 1) := by decide +kernel
theorem dX4_digestFrom_83 : decode cX4_digestFrom 83 = .ok (.lmul, 1) := by decide +kernel
theorem dX4_digestFrom_84 : decode cX4_digestFrom 84 = .ok (.aload_n 0, 1) := by decide +kernel
theorem dX4_digestFrom_85 : decode cX4_digestFrom 85 = .ok (.getfield 31, 3) := by decide +kernel
theorem dX4_digestFrom_88 : decode cX4_digestFrom 88 = .ok (.iload 6, 2) := by decide +kernel
theorem dX4_digestFrom_90 : decode cX4_digestFrom 90 = .ok (.iaload, 1) := by decide +kernel
theorem dX4_digestFrom_91 : decode cX4_digestFrom 91 = .ok (.i2l, 1) := by decide +kernel
theorem dX4_digestFrom_92 : decode cX4_digestFrom 92 = .ok (.ladd, 1) := by decide +kernel
theorem dX4_digestFrom_93 : decode cX4_digestFrom 93 = .ok (.lstore_n 3, 1) := by decide +kernel
theorem dX4_digestFrom_94 : decode cX4_digestFrom 94 = .ok (.ldc2_w 89, 3) := by decide +kernel
theorem dX4_digestFrom_97 : decode cX4_digestFrom 97 = .ok (.lload_n 3, 1) := by decide +kernel
theorem dX4_digestFrom_98 : decode cX4_digestFrom 98 = .ok (.lmul, 1) := by decide +kernel
theorem dX4_digestFrom_99 : decode cX4_digestFrom 99 = .ok (.aload_n 0, 1) := by decide +kernel
theorem dX4_digestFrom_100 : decode cX4_digestFrom 100 = .ok (.getfield 34, 3) := by decide +kernel
theorem dX4_digestFrom_103 : decode cX4_digestFrom 103 = .ok (.iload 6, 2) := by decide +kernel
theorem dX4_digestFrom_105 : decode cX4_digestFrom 105 = .ok (.iaload, 1) := by decide +kernel
theorem dX4_digestFrom_106 : decode cX4_digestFrom 106 = .ok (.i2l, 1) := by decide +kernel
theorem dX4_digestFrom_107 : decode cX4_digestFrom 107 = .ok (.ladd, 1) := by decide +kernel
theorem dX4_digestFrom_108 : decode cX4_digestFrom 108 = .ok (.lstore_n 3, 1) := by decide +kernel
theorem dX4_digestFrom_109 : decode cX4_digestFrom 109 = .ok (.ldc2_w 89, 3) := by decide +kernel
theorem dX4_digestFrom_112 : decode cX4_digestFrom 112 = .ok (.lload_n 3, 1) := by decide +kernel
theorem dX4_digestFrom_113 : decode cX4_digestFrom 113 = .ok (.lmul, 1) := by decide +kernel
theorem dX4_digestFrom_114 : decode cX4_digestFrom 114 = .ok (.aload_n 0, 1) := by decide +kernel
theorem dX4_digestFrom_115 : decode cX4_digestFrom 115 = .ok (.getfield 37, 3) := by decide +kernel
theorem dX4_digestFrom_118 : decode cX4_digestFrom 118 = .ok (.iload 6, 2) := by decide +kernel
theorem dX4_digestFrom_120 : decode cX4_digestFrom 120 = .ok (.iaload, 1) := by decide +kernel
theorem dX4_digestFrom_121 : decode cX4_digestFrom 121 = .ok (.i2l, 1) := by decide +kernel
theorem dX4_digestFrom_122 : decode cX4_digestFrom 122 = .ok (.ladd, 1) := by decide +kernel
theorem dX4_digestFrom_123 : decode cX4_digestFrom 123 = .ok (.lstore_n 3, 1) := by decide +kernel
theorem dX4_digestFrom_124 : decode cX4_digestFrom 124 = .ok (.iinc 6 1, 3) := by decide +kernel
theorem dX4_digestFrom_127 : decode cX4_digestFrom 127 = .ok (.goto (-74), 3) := by decide +kernel
theorem dX4_digestFrom_130 : decode cX4_digestFrom 130 = .ok (.iconst 0, 1) := by decide +kernel
theorem dX4_digestFrom_131 : decode cX4_digestFrom 131 = .ok (.istore 6, 2) := by decide +kernel
theorem dX4_digestFrom_133 : decode cX4_digestFrom 133 = .ok (.iload 6, 2) := by decide +kernel
theorem dX4_digestFrom_135 : decode cX4_digestFrom 135 = .ok (.aload_n 0, 1) := by decide +kernel
theorem dX4_digestFrom_136 : decode cX4_digestFrom 136 = .ok (.getfield 46, 3) := by decide +kernel
theorem dX4_digestFrom_139 : decode cX4_digestFrom 139 = .ok (.if_icmp .ge 24, 3) := by decide +kernel
theorem dX4_digestFrom_142 : decode cX4_digestFrom 142 = .ok (.ldc2_w 89, 3) := by decide +kernel
theorem dX4_digestFrom_145 : decode cX4_digestFrom 145 = .ok (.lload_n 3, 1) := by decide +kernel
theorem dX4_digestFrom_146 : decode cX4_digestFrom 146 = .ok (.lmul, 1) := by decide +kernel
theorem dX4_digestFrom_147 : decode cX4_digestFrom 147 = .ok (.aload_n 0, 1) := by decide +kernel
theorem dX4_digestFrom_148 : decode cX4_digestFrom 148 = .ok (.getfield 43, 3) := by decide +kernel
theorem dX4_digestFrom_151 : decode cX4_digestFrom 151 = .ok (.iload 6, 2) := by decide +kernel
theorem dX4_digestFrom_153 : decode cX4_digestFrom 153 = .ok (.iaload, 1) := by decide +kernel
theorem dX4_digestFrom_154 : decode cX4_digestFrom 154 = .ok (.i2l, 1) := by decide +kernel
theorem dX4_digestFrom_155 : decode cX4_digestFrom 155 = .ok (.ladd, 1) := by decide +kernel
theorem dX4_digestFrom_156 : decode cX4_digestFrom 156 = .ok (.lstore_n 3, 1) := by decide +kernel
theorem dX4_digestFrom_157 : decode cX4_digestFrom 157 = .ok (.iinc 6 1, 3) := by decide +kernel
theorem dX4_digestFrom_160 : decode cX4_digestFrom 160 = .ok (.goto (-27), 3) := by decide +kernel
theorem dX4_digestFrom_163 : decode cX4_digestFrom 163 = .ok (.lload_n 3, 1) := by decide +kernel
theorem dX4_digestFrom_164 : decode cX4_digestFrom 164 = .ok (.lreturn, 1) := by decide +kernel
theorem dX7_fault_0 : decode cX7_fault 0 = .ok (.aload_n 0, 1) := by decide +kernel
theorem dX7_fault_1 : decode cX7_fault 1 = .ok (.getfield 25, 3) := by decide +kernel
theorem dX7_fault_4 : decode cX7_fault 4 = .ok (.ireturn, 1) := by decide +kernel
theorem dX7_isWithin_0 : decode cX7_isWithin 0 = .ok (.iload_n 1, 1) := by decide +kernel
theorem dX7_isWithin_1 : decode cX7_isWithin 1 = .ok (.ifCond .lt 35, 3) := by decide +kernel
theorem dX7_isWithin_4 : decode cX7_isWithin 4 = .ok (.iload_n 1, 1) := by decide +kernel
theorem dX7_isWithin_5 : decode cX7_isWithin 5 = .ok (.aload_n 0, 1) := by decide +kernel
theorem dX7_isWithin_6 : decode cX7_isWithin 6 = .ok (.getfield 15, 3) := by decide +kernel
theorem dX7_isWithin_9 : decode cX7_isWithin 9 = .ok (.if_icmp .ge 27, 3) := by decide +kernel
theorem dX7_isWithin_12 : decode cX7_isWithin 12 = .ok (.aload_n 0, 1) := by decide +kernel
theorem dX7_isWithin_13 : decode cX7_isWithin 13 = .ok (.getfield 9, 3) := by decide +kernel
theorem dX7_isWithin_16 : decode cX7_isWithin 16 = .ok (.iload_n 1, 1) := by decide +kernel
theorem dX7_isWithin_17 : decode cX7_isWithin 17 = .ok (.iaload, 1) := by decide +kernel
theorem dX7_isWithin_18 : decode cX7_isWithin 18 = .ok (.iload_n 2, 1) := by decide +kernel
theorem dX7_isWithin_19 : decode cX7_isWithin 19 = .ok (.if_icmp .lt 17, 3) := by decide +kernel
theorem dX7_isWithin_22 : decode cX7_isWithin 22 = .ok (.aload_n 0, 1) := by decide +kernel
theorem dX7_isWithin_23 : decode cX7_isWithin 23 = .ok (.getfield 9, 3) := by decide +kernel
theorem dX7_isWithin_26 : decode cX7_isWithin 26 = .ok (.iload_n 1, 1) := by decide +kernel
theorem dX7_isWithin_27 : decode cX7_isWithin 27 = .ok (.iaload, 1) := by decide +kernel
theorem dX7_isWithin_28 : decode cX7_isWithin 28 = .ok (.iload_n 3, 1) := by decide +kernel
theorem dX7_isWithin_29 : decode cX7_isWithin 29 = .ok (.if_icmp .gt 7, 3) := by decide +kernel
theorem dX7_isWithin_32 : decode cX7_isWithin 32 = .ok (.iconst 1, 1) := by decide +kernel
theorem dX7_isWithin_33 : decode cX7_isWithin 33 = .ok (.goto 4, 3) := by decide +kernel
theorem dX7_isWithin_36 : decode cX7_isWithin 36 = .ok (.iconst 0, 1) := by decide +kernel
theorem dX7_isWithin_37 : decode cX7_isWithin 37 = .ok (.ireturn, 1) := by decide +kernel
theorem dX7_passWord_0 : decode cX7_passWord 0 = .ok (.aload_n 0, 1) := by decide +kernel
theorem dX7_passWord_1 : decode cX7_passWord 1 = .ok (.iconst 1, 1) := by decide +kernel
theorem dX7_passWord_2 : decode cX7_passWord 2 = .ok (.putfield 22, 3) := by decide +kernel
theorem dX7_passWord_5 : decode cX7_passWord 5 = .ok (.aload_n 0, 1) := by decide +kernel
theorem dX7_passWord_6 : decode cX7_passWord 6 = .ok (.getfield 19, 3) := by decide +kernel
theorem dX7_passWord_9 : decode cX7_passWord 9 = .ok (.aload_n 0, 1) := by decide +kernel
theorem dX7_passWord_10 : decode cX7_passWord 10 = .ok (.getfield 15, 3) := by decide +kernel
theorem dX7_passWord_13 : decode cX7_passWord 13 = .ok (.if_icmp .ge 31, 3) := by decide +kernel
theorem dX7_passWord_16 : decode cX7_passWord 16 = .ok (.aload_n 0, 1) := by decide +kernel
theorem dX7_passWord_17 : decode cX7_passWord 17 = .ok (.aload_n 0, 1) := by decide +kernel
theorem dX7_passWord_18 : decode cX7_passWord 18 = .ok (.getfield 19, 3) := by decide +kernel
theorem dX7_passWord_21 : decode cX7_passWord 21 = .ok (.bipush 97, 2) := by decide +kernel
theorem dX7_passWord_23 : decode cX7_passWord 23 = .ok (.bipush 122, 2) := by decide +kernel
theorem dX7_passWord_25 : decode cX7_passWord 25 = .ok (.invokevirtual 111, 3) := by decide +kernel
theorem dX7_passWord_28 : decode cX7_passWord 28 = .ok (.ifCond .eq 16, 3) := by decide +kernel
theorem dX7_passWord_31 : decode cX7_passWord 31 = .ok (.aload_n 0, 1) := by decide +kernel
theorem dX7_passWord_32 : decode cX7_passWord 32 = .ok (.dup, 1) := by decide +kernel
theorem dX7_passWord_33 : decode cX7_passWord 33 = .ok (.getfield 19, 3) := by decide +kernel
theorem dX7_passWord_36 : decode cX7_passWord 36 = .ok (.iconst 1, 1) := by decide +kernel
theorem dX7_passWord_37 : decode cX7_passWord 37 = .ok (.iadd, 1) := by decide +kernel
theorem dX7_passWord_38 : decode cX7_passWord 38 = .ok (.putfield 19, 3) := by decide +kernel
theorem dX7_passWord_41 : decode cX7_passWord 41 = .ok (.goto (-36), 3) := by decide +kernel
theorem dX7_passWord_44 : decode cX7_passWord 44 = .ok (.return_, 1) := by decide +kernel
theorem dX7_passFigures_0 : decode cX7_passFigures 0 = .ok (.aload_n 0, 1) := by decide +kernel
theorem dX7_passFigures_1 : decode cX7_passFigures 1 = .ok (.iconst 0, 1) := by decide +kernel
theorem dX7_passFigures_2 : decode cX7_passFigures 2 = .ok (.putfield 28, 3) := by decide +kernel
theorem dX7_passFigures_5 : decode cX7_passFigures 5 = .ok (.aload_n 0, 1) := by decide +kernel
theorem dX7_passFigures_6 : decode cX7_passFigures 6 = .ok (.getfield 19, 3) := by decide +kernel
theorem dX7_passFigures_9 : decode cX7_passFigures 9 = .ok (.aload_n 0, 1) := by decide +kernel
theorem dX7_passFigures_10 : decode cX7_passFigures 10 = .ok (.getfield 15, 3) := by decide +kernel
theorem dX7_passFigures_13 : decode cX7_passFigures 13 = .ok (.if_icmp .ge 75, 3) := by decide +kernel
theorem dX7_passFigures_16 : decode cX7_passFigures 16 = .ok (.aload_n 0, 1) := by decide +kernel
theorem dX7_passFigures_17 : decode cX7_passFigures 17 = .ok (.aload_n 0, 1) := by decide +kernel
theorem dX7_passFigures_18 : decode cX7_passFigures 18 = .ok (.getfield 19, 3) := by decide +kernel
theorem dX7_passFigures_21 : decode cX7_passFigures 21 = .ok (.bipush 48, 2) := by decide +kernel
theorem dX7_passFigures_23 : decode cX7_passFigures 23 = .ok (.bipush 57, 2) := by decide +kernel
theorem dX7_passFigures_25 : decode cX7_passFigures 25 = .ok (.invokevirtual 111, 3) := by decide +kernel
theorem dX7_passFigures_28 : decode cX7_passFigures 28 = .ok (.ifCond .eq 60, 3) := by decide +kernel
theorem dX7_passFigures_31 : decode cX7_passFigures 31 = .ok (.aload_n 0, 1) := by decide +kernel
theorem dX7_passFigures_32 : decode cX7_passFigures 32 = .ok (.aload_n 0, 1) := by decide +kernel
theorem dX7_passFigures_33 : decode cX7_passFigures 33 = .ok (.getfield 19, 3) := by decide +kernel
theorem dX7_passFigures_36 : decode cX7_passFigures 36 = .ok (.aload_n 0, 1) := by decide +kernel
theorem dX7_passFigures_37 : decode cX7_passFigures 37 = .ok (.getfield 25, 3) := by decide +kernel
theorem dX7_passFigures_40 : decode cX7_passFigures 40 = .ok (.isub, 1) := by decide +kernel
theorem dX7_passFigures_41 : decode cX7_passFigures 41 = .ok (.iconst 2, 1) := by decide +kernel
theorem dX7_passFigures_42 : decode cX7_passFigures 42 = .ok (.if_icmp .ge 26, 3) := by decide +kernel
theorem dX7_passFigures_45 : decode cX7_passFigures 45 = .ok (.bipush 10, 2) := by decide +kernel
theorem dX7_passFigures_47 : decode cX7_passFigures 47 = .ok (.aload_n 0, 1) := by decide +kernel
theorem dX7_passFigures_48 : decode cX7_passFigures 48 = .ok (.getfield 28, 3) := by decide +kernel
theorem dX7_passFigures_51 : decode cX7_passFigures 51 = .ok (.imul, 1) := by decide +kernel
theorem dX7_passFigures_52 : decode cX7_passFigures 52 = .ok (.aload_n 0, 1) := by decide +kernel
theorem dX7_passFigures_53 : decode cX7_passFigures 53 = .ok (.getfield 9, 3) := by decide +kernel
theorem dX7_passFigures_56 : decode cX7_passFigures 56 = .ok (.aload_n 0, 1) := by decide +kernel
theorem dX7_passFigures_57 : decode cX7_passFigures 57 = .ok (.getfield 19, 3) := by decide +kernel
theorem dX7_passFigures_60 : decode cX7_passFigures 60 = .ok (.iaload, 1) := by decide +kernel
theorem dX7_passFigures_61 : decode cX7_passFigures 61 = .ok (.iadd, 1) := by decide +kernel
theorem dX7_passFigures_62 : decode cX7_passFigures 62 = .ok (.bipush 48, 2) := by decide +kernel
theorem dX7_passFigures_64 : decode cX7_passFigures 64 = .ok (.isub, 1) := by decide +kernel
theorem dX7_passFigures_65 : decode cX7_passFigures 65 = .ok (.goto 7, 3) := by decide +kernel
theorem dX7_passFigures_68 : decode cX7_passFigures 68 = .ok (.aload_n 0, 1) := by decide +kernel
theorem dX7_passFigures_69 : decode cX7_passFigures 69 = .ok (.getfield 28, 3) := by decide +kernel
theorem dX7_passFigures_72 : decode cX7_passFigures 72 = .ok (.putfield 28, 3) := by decide +kernel
theorem dX7_passFigures_75 : decode cX7_passFigures 75 = .ok (.aload_n 0, 1) := by decide +kernel
theorem dX7_passFigures_76 : decode cX7_passFigures 76 = .ok (.dup, 1) := by decide +kernel
theorem dX7_passFigures_77 : decode cX7_passFigures 77 = .ok (.getfield 19, 3) := by decide +kernel
theorem dX7_passFigures_80 : decode cX7_passFigures 80 = .ok (.iconst 1, 1) := by decide +kernel
theorem dX7_passFigures_81 : decode cX7_passFigures 81 = .ok (.iadd, 1) := by decide +kernel
theorem dX7_passFigures_82 : decode cX7_passFigures 82 = .ok (.putfield 19, 3) := by decide +kernel
theorem dX7_passFigures_85 : decode cX7_passFigures 85 = .ok (.goto (-80), 3) := by decide +kernel
theorem dX7_passFigures_88 : decode cX7_passFigures 88 = .ok (.aload_n 0, 1) := by decide +kernel
theorem dX7_passFigures_89 : decode cX7_passFigures 89 = .ok (.aload_n 0, 1) := by decide +kernel
theorem dX7_passFigures_90 : decode cX7_passFigures 90 = .ok (.getfield 19, 3) := by decide +kernel
theorem dX7_passFigures_93 : decode cX7_passFigures 93 = .ok (.aload_n 0, 1) := by decide +kernel
theorem dX7_passFigures_94 : decode cX7_passFigures 94 = .ok (.getfield 25, 3) := by decide +kernel
theorem dX7_passFigures_97 : decode cX7_passFigures 97 = .ok (.isub, 1) := by decide +kernel
theorem dX7_passFigures_98 : decode cX7_passFigures 98 = .ok (.iconst 2, 1) := by decide +kernel
theorem dX7_passFigures_99 : decode cX7_passFigures 99 = .ok (.if_icmp .le 7, 3) := by decide +kernel
theorem dX7_passFigures_102 : decode cX7_passFigures 102 = .ok (.iconst 4, 1) := by decide +kernel
theorem dX7_passFigures_103 : decode cX7_passFigures 103 = .ok (.goto 4, 3) := by decide +kernel
theorem dX7_passFigures_106 : decode cX7_passFigures 106 = .ok (.iconst 2, 1) := by decide +kernel
theorem dX7_passFigures_107 : decode cX7_passFigures 107 = .ok (.putfield 22, 3) := by decide +kernel
theorem dX7_passFigures_110 : decode cX7_passFigures 110 = .ok (.return_, 1) := by decide +kernel
theorem dX7_step_0 : decode cX7_step 0 = .ok (.aload_n 0, 1) := by decide +kernel
theorem dX7_step_1 : decode cX7_step 1 = .ok (.getfield 19, 3) := by decide +kernel
theorem dX7_step_4 : decode cX7_step 4 = .ok (.aload_n 0, 1) := by decide +kernel
theorem dX7_step_5 : decode cX7_step 5 = .ok (.getfield 15, 3) := by decide +kernel
theorem dX7_step_8 : decode cX7_step 8 = .ok (.if_icmp .ge 30, 3) := by decide +kernel
theorem dX7_step_11 : decode cX7_step 11 = .ok (.aload_n 0, 1) := by decide +kernel
theorem dX7_step_12 : decode cX7_step 12 = .ok (.getfield 9, 3) := by decide +kernel
theorem dX7_step_15 : decode cX7_step 15 = .ok (.aload_n 0, 1) := by decide +kernel
theorem dX7_step_16 : decode cX7_step 16 = .ok (.getfield 19, 3) := by decide +kernel
theorem dX7_step_19 : decode cX7_step 19 = .ok (.iaload, 1) := by decide +kernel
theorem dX7_step_20 : decode cX7_step 20 = .ok (.bipush 32, 2) := by decide +kernel
theorem dX7_step_22 : decode cX7_step 22 = .ok (.if_icmp .ne 16, 3) := by decide +kernel
theorem dX7_step_25 : decode cX7_step 25 = .ok (.aload_n 0, 1) := by decide +kernel
theorem dX7_step_26 : decode cX7_step 26 = .ok (.dup, 1) := by decide +kernel
theorem dX7_step_27 : decode cX7_step 27 = .ok (.getfield 19, 3) := by decide +kernel
theorem dX7_step_30 : decode cX7_step 30 = .ok (.iconst 1, 1) := by decide +kernel
theorem dX7_step_31 : decode cX7_step 31 = .ok (.iadd, 1) := by decide +kernel
theorem dX7_step_32 : decode cX7_step 32 = .ok (.putfield 19, 3) := by decide +kernel
theorem dX7_step_35 : decode cX7_step 35 = .ok (.goto (-35), 3) := by decide +kernel
theorem dX7_step_38 : decode cX7_step 38 = .ok (.aload_n 0, 1) := by decide +kernel
theorem dX7_step_39 : decode cX7_step 39 = .ok (.aload_n 0, 1) := by decide +kernel
theorem dX7_step_40 : decode cX7_step 40 = .ok (.getfield 19, 3) := by decide +kernel
theorem dX7_step_43 : decode cX7_step 43 = .ok (.putfield 25, 3) := by decide +kernel
theorem dX7_step_46 : decode cX7_step 46 = .ok (.aload_n 0, 1) := by decide +kernel
theorem dX7_step_47 : decode cX7_step 47 = .ok (.getfield 19, 3) := by decide +kernel
theorem dX7_step_50 : decode cX7_step 50 = .ok (.aload_n 0, 1) := by decide +kernel
theorem dX7_step_51 : decode cX7_step 51 = .ok (.getfield 15, 3) := by decide +kernel
theorem dX7_step_54 : decode cX7_step 54 = .ok (.if_icmp .lt 11, 3) := by decide +kernel
theorem dX7_step_57 : decode cX7_step 57 = .ok (.aload_n 0, 1) := by decide +kernel
theorem dX7_step_58 : decode cX7_step 58 = .ok (.iconst 0, 1) := by decide +kernel
theorem dX7_step_59 : decode cX7_step 59 = .ok (.putfield 22, 3) := by decide +kernel
theorem dX7_step_62 : decode cX7_step 62 = .ok (.goto 80, 3) := by decide +kernel
theorem dX7_step_65 : decode cX7_step 65 = .ok (.aload_n 0, 1) := by decide +kernel
theorem dX7_step_66 : decode cX7_step 66 = .ok (.aload_n 0, 1) := by decide +kernel
theorem dX7_step_67 : decode cX7_step 67 = .ok (.getfield 19, 3) := by decide +kernel
theorem dX7_step_70 : decode cX7_step 70 = .ok (.bipush 97, 2) := by decide +kernel
theorem dX7_step_72 : decode cX7_step 72 = .ok (.bipush 122, 2) := by decide +kernel
theorem dX7_step_74 : decode cX7_step 74 = .ok (.invokevirtual 111, 3) := by decide +kernel
theorem dX7_step_77 : decode cX7_step 77 = .ok (.ifCond .eq 10, 3) := by decide +kernel
theorem dX7_step_80 : decode cX7_step 80 = .ok (.aload_n 0, 1) := by decide +kernel
theorem dX7_step_81 : decode cX7_step 81 = .ok (.invokevirtual 115, 3) := by decide +kernel
theorem dX7_step_84 : decode cX7_step 84 = .ok (.goto 58, 3) := by decide +kernel
theorem dX7_step_87 : decode cX7_step 87 = .ok (.aload_n 0, 1) := by decide +kernel
theorem dX7_step_88 : decode cX7_step 88 = .ok (.aload_n 0, 1) := by decide +kernel
theorem dX7_step_89 : decode cX7_step 89 = .ok (.getfield 19, 3) := by decide +kernel
theorem dX7_step_92 : decode cX7_step 92 = .ok (.bipush 48, 2) := by decide +kernel
theorem dX7_step_94 : decode cX7_step 94 = .ok (.bipush 57, 2) := by decide +kernel
theorem dX7_step_96 : decode cX7_step 96 = .ok (.invokevirtual 111, 3) := by decide +kernel
theorem dX7_step_99 : decode cX7_step 99 = .ok (.ifCond .eq 10, 3) := by decide +kernel
theorem dX7_step_102 : decode cX7_step 102 = .ok (.aload_n 0, 1) := by decide +kernel
theorem dX7_step_103 : decode cX7_step 103 = .ok (.invokevirtual 118, 3) := by decide +kernel
theorem dX7_step_106 : decode cX7_step 106 = .ok (.goto 36, 3) := by decide +kernel
theorem dX7_step_109 : decode cX7_step 109 = .ok (.aload_n 0, 1) := by decide +kernel
theorem dX7_step_110 : decode cX7_step 110 = .ok (.aload_n 0, 1) := by decide +kernel
theorem dX7_step_111 : decode cX7_step 111 = .ok (.getfield 9, 3) := by decide +kernel
theorem dX7_step_114 : decode cX7_step 114 = .ok (.aload_n 0, 1) := by decide +kernel
theorem dX7_step_115 : decode cX7_step 115 = .ok (.getfield 19, 3) := by decide +kernel
theorem dX7_step_118 : decode cX7_step 118 = .ok (.iaload, 1) := by decide +kernel
theorem dX7_step_119 : decode cX7_step 119 = .ok (.bipush 59, 2) := by decide +kernel
theorem dX7_step_121 : decode cX7_step 121 = .ok (.if_icmp .ne 7, 3) := by decide +kernel
theorem dX7_step_124 : decode cX7_step 124 = .ok (.iconst 3, 1) := by decide +kernel
theorem dX7_step_125 : decode cX7_step 125 = .ok (.goto 4, 3) := by decide +kernel
theorem dX7_step_128 : decode cX7_step 128 = .ok (.iconst 4, 1) := by decide +kernel
theorem dX7_step_129 : decode cX7_step 129 = .ok (.putfield 22, 3) := by decide +kernel
theorem dX7_step_132 : decode cX7_step 132 = .ok (.aload_n 0, 1) := by decide +kernel
theorem dX7_step_133 : decode cX7_step 133 = .ok (.dup, 1) := by decide +kernel
theorem dX7_step_134 : decode cX7_step 134 = .ok (.getfield 19, 3) := by decide +kernel
theorem dX7_step_137 : decode cX7_step 137 = .ok (.iconst 1, 1) := by decide +kernel
theorem dX7_step_138 : decode cX7_step 138 = .ok (.iadd, 1) := by decide +kernel
theorem dX7_step_139 : decode cX7_step 139 = .ok (.putfield 19, 3) := by decide +kernel
theorem dX7_step_142 : decode cX7_step 142 = .ok (.return_, 1) := by decide +kernel
set_option maxHeartbeats 4000000 in
set_option maxRecDepth 100000 in
theorem ctX4_tearTop (l : Launch) (E : VE) (a : Nat → Nat)  (p : St)  {Post : Int32 → St → Prop} (hw : wpX4_tearTop p Post) (sz : Nat) : Met l yX4_tearTop (mW yX4_tearTop cX4_tearTop 1 (some .int)) rmX4_tearTop (CPre E [.ref (a 0)] sz (fl [bPad E a p])) (CQi E Post (fun u => (fl [bPad E a u])) (fl [bPad E a p]) sz) 0 0 (va_A (fl [bPad E a p]) sz) := by
  refine v_met (by decide) (Nat.le_of_ble_eq_true rfl) ?_
  intro pr e s m below meth c A hsz hA C
  subst hsz
  refine v_aload_n (pc := 0) C 0 rfl rfl dX4_tearTop_0 ?_
  refine v_get (pc := 1) C cfX4 rfl 0 0 rfl (by decide) wfX4_11 rfl dX4_tearTop_1 ?_
  refine v_iconst (pc := 4) C 0 ki_0 dX4_tearTop_4 ?_
  refine v_dup2 (pc := 5) C rfl rfl dX4_tearTop_5 ?_
  refine v_iald (pc := 6) C 1 rfl vi_0_86 tn_0 dX4_tearTop_6 ?_
  refine v_iconst (pc := 7) C 1 ki_1 dX4_tearTop_7 ?_
  refine v_iadd (pc := 8) C dX4_tearTop_8 ?_
  obtain ⟨p1, es⟩ : ∃ y : St, y = p.sA 0 (upd (p.A 0) 0 (((p.A 0) 0) + 1)) := ⟨_, rfl⟩
  have hw := hw p1 es
  refine v_iast (pc := 9) C 1 (w' := (fl [bPad E a p1])) rfl tn_0 (by subst es; rfl) vi_0_86 dX4_tearTop_9 ?_
  refine v_aload_n (pc := 10) C 0 rfl rfl dX4_tearTop_10 ?_
  refine v_get (pc := 11) C cfX4 rfl 0 0 rfl (by decide) wfX4_11 rfl dX4_tearTop_11 ?_
  refine v_iconst (pc := 14) C 0 ki_0 dX4_tearTop_14 ?_
  refine v_iald (pc := 15) C 1 rfl vi_0_86 tn_0 dX4_tearTop_15 ?_
  refine v_iconst (pc := 16) C 1 ki_1 dX4_tearTop_16 ?_
  refine v_isub (pc := 17) C dX4_tearTop_17 ?_
  exact v_ireti (pc := 18) C p1 hA rfl hw dX4_tearTop_18
set_option maxHeartbeats 4000000 in
set_option maxRecDepth 100000 in
theorem vjX4_pressInto_42 (C : VC pr s m args meth c E A cX4_pressInto 5 none RX4) (hA : va_A w0 s.heap.size = A) (a : Nat → Nat)  {Post : St → Prop} (x1 : Int32) (x2 : Int32) (x3 : Int32) (z0 : Int32) (p : St) (hw : wjX4_pressInto_42  Post x1 x2 x3 z0 p) : V pr l e rmX4_pressInto s m args below meth c E A 5 0 0 (MQ below (CQv E Post (fun u => (fl [bPad E a u])) w0 s.heap.size) args s 0 0 A) (fl [bPad E a p]) 42 [(0, .ref (a 0)), (1, .int x1), (2, .int x2), (3, .int x3)] [.int z0] := by
  refine v_istore (pc := 42) C [(4, .int z0), (0, .ref (a 0)), (1, .int x1), (2, .int x2), (3, .int x3)] rfl (by decide) dX4_pressInto_42 ?_
  refine v_iload (pc := 44) C 0 rfl dX4_pressInto_44 ?_
  refine v_if_eq (pc := 46) C 68 (by decide) dX4_pressInto_46 (fun hc => ?_) (fun hc => ?_)
  · have hw := hw.1 hc
    exact v_vret (pc := 68) C p hA rfl hw dX4_pressInto_68
  · have hw := hw.2 hc
    refine v_iload_n (pc := 49) C 4 rfl rfl dX4_pressInto_49 ?_
    refine v_iconst (pc := 50) C 2 ki_2 dX4_pressInto_50 ?_
    refine v_icmp_lt (pc := 51) C 68 (by decide) dX4_pressInto_51 (fun hc => ?_) (fun hc => ?_)
    · have hw := hw.1 hc
      exact v_vret (pc := 68) C p hA rfl hw dX4_pressInto_68
    · have hw := hw.2 hc
      refine v_aload_n (pc := 54) C 1 rfl rfl dX4_pressInto_54 ?_
      refine v_get (pc := 55) C cfX4 rfl 0 0 rfl (by decide) wfX4_11 rfl dX4_pressInto_55 ?_
      refine v_iload_n (pc := 58) C 2 rfl rfl dX4_pressInto_58 ?_
      refine v_iconst (pc := 59) C 1 ki_1 dX4_pressInto_59 ?_
      refine v_goBi (pc := 60) C (bs := [bPad E a p]) (cs := []) (cs' := (fun (_ : Unit) => [])) (bs' := (fun (_ : Unit) => [bPad E a p])) (w' := (fun (_ : Unit) => (fl [bPad E a p]))) [] rfl rfl (fun _ => rfl) (fun _ => rfl) (fun _ => rfl) (v_runSB (pc := 60) C [.int x1, .int 1] [.ref (a 1)] (fun sz => ctX4_placeOf l E x1 1 hw sz) [] rfl rfl rfl mfX4_placeOf msX4_placeOf wmX4_55 rfl ⟨Nat.le_of_ble_eq_true rfl, Nat.le_of_ble_eq_true rfl⟩ ⟨rfl, rfl⟩ rfl (Nat.le_of_ble_eq_true rfl) ⟨Nat.zero_le _, Nat.zero_le _⟩ dX4_pressInto_60) (fun r3 _ hw => ?_)
      refine v_dup2 (pc := 63) C rfl rfl dX4_pressInto_63 ?_
      obtain ⟨hg, hw⟩ := hw
      refine v_iald (pc := 64) C 1 rfl hg rfl dX4_pressInto_64 ?_
      refine v_iload_n (pc := 65) C 3 rfl rfl dX4_pressInto_65 ?_
      refine v_ior (pc := 66) C dX4_pressInto_66 ?_
      obtain ⟨hg, hw⟩ := hw
      obtain ⟨p4, es⟩ : ∃ y : St, y = p.sA 0 (upd (p.A 0) r3.toNatClampNeg (((p.A 0) r3.toNatClampNeg) ||| x2)) := ⟨_, rfl⟩
      have hw := hw p4 es
      refine v_iast (pc := 67) C 1 (w' := (fl [bPad E a p4])) rfl rfl (by subst es; rfl) hg dX4_pressInto_67 ?_
      exact v_vret (pc := 68) C p4 hA rfl hw dX4_pressInto_68
set_option maxHeartbeats 4000000 in
set_option maxRecDepth 100000 in
theorem ctX4_pressInto (l : Launch) (E : VE) (a : Nat → Nat) (x1 : Int32) (x2 : Int32) (x3 : Int32) (p : St)  {Post : St → Prop} (hw : wpX4_pressInto x1 x2 x3 p Post) (sz : Nat) : Met l yX4_pressInto (mW yX4_pressInto cX4_pressInto 5 none) rmX4_pressInto (CPre E [.ref (a 0), .int x1, .int x2, .int x3] sz (fl [bPad E a p])) (CQv E Post (fun u => (fl [bPad E a u])) (fl [bPad E a p]) sz) 0 0 (va_A (fl [bPad E a p]) sz) := by
  refine v_met (by decide) (Nat.le_of_ble_eq_true rfl) ?_
  intro pr e s m below meth c A hsz hA C
  subst hsz
  refine v_aload_n (pc := 0) C 0 rfl rfl dX4_pressInto_0 ?_
  refine v_get (pc := 1) C cfX4 rfl 0 0 rfl (by decide) wfX4_11 rfl dX4_pressInto_1 ?_
  refine v_iload_n (pc := 4) C 1 rfl rfl dX4_pressInto_4 ?_
  refine v_iconst (pc := 5) C 2 ki_2 dX4_pressInto_5 ?_
  refine v_goBi (pc := 6) C (bs := [bPad E a p]) (cs := []) (cs' := (fun (_ : Unit) => [])) (bs' := (fun (_ : Unit) => [bPad E a p])) (w' := (fun (_ : Unit) => (fl [bPad E a p]))) [] rfl rfl (fun _ => rfl) (fun _ => rfl) (fun _ => rfl) (v_runSB (pc := 6) C [.int x1, .int 2] [.ref (a 1)] (fun sz => ctX4_placeOf l E x1 2 hw sz) [] rfl rfl rfl mfX4_placeOf msX4_placeOf wmX4_55 rfl ⟨Nat.le_of_ble_eq_true rfl, Nat.le_of_ble_eq_true rfl⟩ ⟨rfl, rfl⟩ rfl (Nat.le_of_ble_eq_true rfl) ⟨Nat.zero_le _, Nat.zero_le _⟩ dX4_pressInto_6) (fun r1 _ hw => ?_)
  refine v_iload_n (pc := 9) C 2 rfl rfl dX4_pressInto_9 ?_
  refine v_iload_n (pc := 10) C 3 rfl rfl dX4_pressInto_10 ?_
  refine v_gov (pc := 11) C (wc := (fl [bArr E (fun _ => (a 1)) 86 (p.A 0)])) (wc' := (fun (u : (Nat → Int32)) => (fl [bArr E (fun _ => (a 1)) 86 u]))) (w' := (fun (u : (Nat → Int32)) => (fl [bPad E a (p.sA 0 u)]))) [1] rfl (fun _ => rfl) (fun _ => rfl) (v_runSN (pc := 11) C [.ref (a 1), .int r1, .int x2, .int x3] [] (fun sz => ctX11_dentInto l E (fun _ => (a 1)) r1 x2 x3 (p.A 0) 86 hw sz) [1] rfl rfl mfX11_dentInto msX11_dentInto wmX4_76 rfl ⟨Nat.le_of_ble_eq_true rfl, Nat.le_of_ble_eq_true rfl⟩ ⟨rfl, rfl⟩ rfl (Nat.le_of_ble_eq_true rfl) ⟨Nat.zero_le _, Nat.zero_le _⟩ dX4_pressInto_11) (fun p2 hw => ?_)
  refine v_iload_n (pc := 14) C 1 rfl rfl dX4_pressInto_14 ?_
  refine v_aload_n (pc := 15) C 0 rfl rfl dX4_pressInto_15 ?_
  refine v_get (pc := 16) C cfX4 rfl 0 0 rfl (by decide) wfX4_11 rfl dX4_pressInto_16 ?_
  refine v_iconst (pc := 19) C 0 ki_0 dX4_pressInto_19 ?_
  refine v_iald (pc := 20) C 1 rfl vi_0_86 tn_0 dX4_pressInto_20 ?_
  refine v_icmp_le (pc := 21) C 41 (by decide) dX4_pressInto_21 (fun hc => ?_) (fun hc => ?_)
  · have hw := hw.1 hc
    refine v_iconst (pc := 41) C 0 ki_0 dX4_pressInto_41 ?_
    refine v_sub (lv' := [(0, .ref (a 0)), (1, .int x1), (2, .int x2), (3, .int x3)]) [0, 1, 2, 3] rfl ?_
    exact vjX4_pressInto_42 C hA a  x1 x2 x3 0 (p.sA 0 p2) hw
  · have hw := hw.2 hc
    refine v_aload_n (pc := 24) C 0 rfl rfl dX4_pressInto_24 ?_
    refine v_get (pc := 25) C cfX4 rfl 0 4 rfl (by decide) wfX4_25 rfl dX4_pressInto_25 ?_
    refine v_iload_n (pc := 28) C 1 rfl rfl dX4_pressInto_28 ?_
    refine v_iconst (pc := 29) C 1 ki_1 dX4_pressInto_29 ?_
    refine v_isub (pc := 30) C dX4_pressInto_30 ?_
    refine v_ishr (pc := 31) C dX4_pressInto_31 ?_
    refine v_iconst (pc := 32) C 1 ki_1 dX4_pressInto_32 ?_
    refine v_iand (pc := 33) C dX4_pressInto_33 ?_
    refine v_if_eq (pc := 34) C 41 (by decide) dX4_pressInto_34 (fun hc => ?_) (fun hc => ?_)
    · have hw := hw.1 hc
      refine v_iconst (pc := 41) C 0 ki_0 dX4_pressInto_41 ?_
      refine v_sub (lv' := [(0, .ref (a 0)), (1, .int x1), (2, .int x2), (3, .int x3)]) [0, 1, 2, 3] rfl ?_
      exact vjX4_pressInto_42 C hA a  x1 x2 x3 0 (p.sA 0 p2) hw
    · have hw := hw.2 hc
      refine v_iconst (pc := 37) C 1 ki_1 dX4_pressInto_37 ?_
      refine v_goto (pc := 38) C 42 (by decide) dX4_pressInto_38 ?_
      refine v_sub (lv' := [(0, .ref (a 0)), (1, .int x1), (2, .int x2), (3, .int x3)]) [0, 1, 2, 3] rfl ?_
      exact vjX4_pressInto_42 C hA a  x1 x2 x3 1 (p.sA 0 p2) hw
set_option maxHeartbeats 4000000 in
set_option maxRecDepth 100000 in
theorem vlX4_putNote_71 (C : VC pr s m args meth c E A cX4_putNote 8 (some .int) RX4) (hA : va_A w0 s.heap.size = A) (a : Nat → Nat) (b : Nat → Nat)  {Post : Int32 → St → Prop} {KX : Int32 → Int32 → Int32 → Int32 → St → Prop} (hX : ∀ (x2 : Int32) (x4 : Int32) (x5 : Int32) (x6 : Int32) (p : St), KX x2 x4 x5 x6 p → V pr l e rmX4_putNote s m args below meth c E A 8 0 0 (MQ below (CQi E Post (fun u => (fl [bPad E a u, bBox E b])) w0 s.heap.size) args s 0 0 A) (fl [bPad E a p, bBox E b]) 105 [(0, .ref (a 0)), (1, .ref (b 0)), (2, .int x2), (4, .int x4), (5, .int x5), (6, .int x6)] []) : ∀ (n : Nat) (x2 : Int32) (x3 : Int32) (x4 : Int32) (x5 : Int32) (x6 : Int32) (x7 : Int32) (p : St), wLX4_putNote_71  Post KX n (x2, x3, x4, x5, x6, x7, p) → V pr l e rmX4_putNote s m args below meth c E A 8 0 0 (MQ below (CQi E Post (fun u => (fl [bPad E a u, bBox E b])) w0 s.heap.size) args s 0 0 A) (fl [bPad E a p, bBox E b]) 71 [(0, .ref (a 0)), (1, .ref (b 0)), (2, .int x2), (3, .int x3), (4, .int x4), (5, .int x5), (6, .int x6), (7, .int x7)] [] := by
  intro n
  induction n with
  | zero => intro x2 x3 x4 x5 x6 x7 p hw; exact absurd hw id
  | succ n hself =>
    intro x2 x3 x4 x5 x6 x7 p hw
    have hw : wlX4_putNote_71  Post KX (wLX4_putNote_71  Post KX n) x2 x3 x4 x5 x6 x7 p := hw
    refine v_iload (pc := 71) C 7 rfl dX4_putNote_71 ?_
    refine v_bipush (pc := 73) C 6 kb_6 dX4_putNote_73 ?_
    refine v_icmp_ge (pc := 75) C 105 (by decide) dX4_putNote_75 (fun hc => ?_) (fun hc => ?_)
    · have hw := hw.1 hc
      refine v_sub (lv' := [(0, .ref (a 0)), (1, .ref (b 0)), (2, .int x2), (4, .int x4), (5, .int x5), (6, .int x6)]) [0, 1, 2, 4, 5, 6] rfl ?_
      exact hX x2 x4 x5 x6 p hw
    · have hw := hw.2 hc
      refine v_aload_n (pc := 78) C 0 rfl rfl dX4_putNote_78 ?_
      refine v_get (pc := 79) C cfX4 rfl 0 9 rfl (by decide) wfX4_40 rfl dX4_putNote_79 ?_
      refine v_iload (pc := 82) C 5 rfl dX4_putNote_82 ?_
      refine v_bipush (pc := 84) C 6 kb_6 dX4_putNote_84 ?_
      refine v_imul (pc := 86) C dX4_putNote_86 ?_
      refine v_iload (pc := 87) C 7 rfl dX4_putNote_87 ?_
      refine v_iadd (pc := 89) C dX4_putNote_89 ?_
      refine v_aload_n (pc := 90) C 1 rfl rfl dX4_putNote_90 ?_
      refine v_iload_n (pc := 91) C 2 rfl rfl dX4_putNote_91 ?_
      refine v_iload_n (pc := 92) C 3 rfl rfl dX4_putNote_92 ?_
      refine v_iload (pc := 93) C 7 rfl dX4_putNote_93 ?_
      refine v_goBi (pc := 95) C (bs := [bPad E a p, bBox E b]) (cs := [bBox E b]) (cs' := (fun (_ : Unit) => [bBox E b])) (bs' := (fun (_ : Unit) => [bPad E a p, bBox E b])) (w' := (fun (_ : Unit) => (fl [bPad E a p, bBox E b]))) [1] rfl rfl (fun _ => rfl) (fun _ => rfl) (fun _ => rfl) (v_runVB (pc := 95) C [.int x2, .int x3, .int x7] [.int ((x5 * 6) + x7), .ref (a 7)] (fun sz => ctX5_forceOf l E b x2 x3 x7 hw sz) [1] rfl rfl rfl mfX5_forceOf mvX5_forceOf wmX4_59 rfl ⟨Nat.le_of_ble_eq_true rfl, Nat.le_of_ble_eq_true rfl⟩ ⟨rfl, rfl⟩ 9 (ci := 5) (qc := (RX5, TX5, 1)) rfl rfl rfl rfl (Nat.le_of_ble_eq_true rfl) ⟨Nat.zero_le _, Nat.zero_le _⟩ dX4_putNote_95) (fun r7 _ hw => ?_)
      obtain ⟨hg, hw⟩ := hw
      obtain ⟨p8, es⟩ : ∃ y : St, y = p.sA 9 (upd (p.A 9) ((x5 * 6) + x7).toNatClampNeg r7) := ⟨_, rfl⟩
      have hw := hw p8 es
      refine v_iast (pc := 98) C 7 (w' := (fl [bPad E a p8, bBox E b])) rfl rfl (by subst es; rfl) hg dX4_putNote_98 ?_
      obtain ⟨x7_9, ex⟩ : ∃ y : Int32, y = x7 + 1 := ⟨_, rfl⟩
      have hw := hw x7_9 ex
      refine v_iinc (pc := 99) C 7 rfl (by rw [ex, ki_1]) [(7, .int x7_9), (0, .ref (a 0)), (1, .ref (b 0)), (2, .int x2), (3, .int x3), (4, .int x4), (5, .int x5), (6, .int x6)] rfl (by decide) dX4_putNote_99 ?_
      refine v_goto (pc := 102) C 71 (by decide) dX4_putNote_102 ?_
      refine v_sub (lv' := [(0, .ref (a 0)), (1, .ref (b 0)), (2, .int x2), (3, .int x3), (4, .int x4), (5, .int x5), (6, .int x6), (7, .int x7_9)]) [1, 2, 3, 4, 5, 6, 7, 0] rfl ?_
      exact hself x2 x3 x4 x5 x6 x7_9 p8 hw
set_option maxHeartbeats 4000000 in
set_option maxRecDepth 100000 in
theorem vlX4_putNote_143 (C : VC pr s m args meth c E A cX4_putNote 8 (some .int) RX4) (hA : va_A w0 s.heap.size = A) (a : Nat → Nat) (b : Nat → Nat)  {Post : Int32 → St → Prop} {KX : Int32 → St → Prop} (hX : ∀ (x5 : Int32) (p : St), KX x5 p → V pr l e rmX4_putNote s m args below meth c E A 8 0 0 (MQ below (CQi E Post (fun u => (fl [bPad E a u, bBox E b])) w0 s.heap.size) args s 0 0 A) (fl [bPad E a p, bBox E b]) 174 [(5, .int x5)] []) : ∀ (n : Nat) (x4 : Int32) (x5 : Int32) (x7 : Int32) (p : St), wLX4_putNote_143  Post KX n (x4, x5, x7, p) → V pr l e rmX4_putNote s m args below meth c E A 8 0 0 (MQ below (CQi E Post (fun u => (fl [bPad E a u, bBox E b])) w0 s.heap.size) args s 0 0 A) (fl [bPad E a p, bBox E b]) 143 [(0, .ref (a 0)), (4, .int x4), (5, .int x5), (7, .int x7)] [] := by
  intro n
  induction n with
  | zero => intro x4 x5 x7 p hw; exact absurd hw id
  | succ n hself =>
    intro x4 x5 x7 p hw
    have hw : wlX4_putNote_143  Post KX (wLX4_putNote_143  Post KX n) x4 x5 x7 p := hw
    refine v_iload (pc := 143) C 3 rfl dX4_putNote_143 ?_
    refine v_aload_n (pc := 145) C 0 rfl rfl dX4_putNote_145 ?_
    refine v_get (pc := 146) C cfX4 rfl 0 3 rfl (by decide) wfX4_22 rfl dX4_putNote_146 ?_
    refine v_icmp_ge (pc := 149) C 174 (by decide) dX4_putNote_149 (fun hc => ?_) (fun hc => ?_)
    · have hw := hw.1 hc
      refine v_sub (lv' := [(5, .int x5)]) [2] rfl ?_
      exact hX x5 p hw
    · have hw := hw.2 hc
      refine v_aload_n (pc := 152) C 0 rfl rfl dX4_putNote_152 ?_
      refine v_iload (pc := 153) C 3 rfl dX4_putNote_153 ?_
      refine v_iload (pc := 155) C 1 rfl dX4_putNote_155 ?_
      refine v_aload_n (pc := 157) C 0 rfl rfl dX4_putNote_157 ?_
      refine v_iload (pc := 158) C 2 rfl dX4_putNote_158 ?_
      refine v_iload (pc := 160) C 3 rfl dX4_putNote_160 ?_
      refine v_goBi (pc := 162) C (bs := [bPad E a p, bBox E b]) (cs := [bPad E a p]) (cs' := (fun (_ : Unit) => [bPad E a p])) (bs' := (fun (_ : Unit) => [bPad E a p, bBox E b])) (w' := (fun (_ : Unit) => (fl [bPad E a p, bBox E b]))) [0] rfl rfl (fun _ => rfl) (fun _ => rfl) (fun _ => rfl) (v_runVB (pc := 162) C [.int x5, .int x7] [.int x4, .int x7, .ref (a 0)] (fun sz => ctX4_forceOn l E a x5 x7 p hw sz) [0] rfl rfl rfl mfX4_forceOn mvX4_forceOn wmX4_69 rfl ⟨Nat.le_of_ble_eq_true rfl, Nat.le_of_ble_eq_true rfl⟩ ⟨rfl, rfl⟩ 0 (ci := 4) (qc := (RX4, TX4, 12)) rfl rfl rfl rfl (Nat.le_of_ble_eq_true rfl) ⟨Nat.zero_le _, Nat.zero_le _⟩ dX4_putNote_162) (fun r17 _ hw => ?_)
      refine v_goBv (pc := 165) C (bs := [bPad E a p, bBox E b]) (cs := [bPad E a p]) (cs' := (fun (u : St) => [bPad E a u])) (bs' := (fun (u : St) => [bPad E a u, bBox E b])) (w' := (fun (u : St) => (fl [bPad E a u, bBox E b]))) [0] rfl rfl (fun _ => rfl) (fun _ => rfl) (fun _ => rfl) (v_runVB (pc := 165) C [.int x7, .int x4, .int r17] [] (fun sz => ctX4_pressInto l E a x7 x4 r17 p hw sz) [0] rfl rfl rfl mfX4_pressInto mvX4_pressInto wmX4_72 rfl ⟨Nat.le_of_ble_eq_true rfl, Nat.le_of_ble_eq_true rfl⟩ ⟨rfl, rfl⟩ 0 (ci := 4) (qc := (RX4, TX4, 12)) rfl rfl rfl rfl (Nat.le_of_ble_eq_true rfl) ⟨Nat.zero_le _, Nat.zero_le _⟩ dX4_putNote_165) (fun p18 hw => ?_)
      obtain ⟨x7_19, ex⟩ : ∃ y : Int32, y = x7 + 1 := ⟨_, rfl⟩
      have hw := hw x7_19 ex
      refine v_iinc (pc := 168) C 3 rfl (by rw [ex, ki_1]) [(7, .int x7_19), (0, .ref (a 0)), (4, .int x4), (5, .int x5)] rfl (by decide) dX4_putNote_168 ?_
      refine v_goto (pc := 171) C 143 (by decide) dX4_putNote_171 ?_
      refine v_sub (lv' := [(0, .ref (a 0)), (4, .int x4), (5, .int x5), (7, .int x7_19)]) [1, 2, 3, 0] rfl ?_
      exact hself x4 x5 x7_19 p18 hw
set_option maxHeartbeats 4000000 in
set_option maxRecDepth 100000 in
theorem ctX4_putNote (l : Launch) (E : VE) (a : Nat → Nat) (b : Nat → Nat) (x2 : Int32) (x3 : Int32) (x4 : Int32) (p : St)  {Post : Int32 → St → Prop} (hw : wpX4_putNote x2 x3 x4 p Post) (sz : Nat) : Met l yX4_putNote (mW yX4_putNote cX4_putNote 8 (some .int)) rmX4_putNote (CPre E [.ref (a 0), .ref (b 0), .int x2, .int x3, .int x4] sz (fl [bPad E a p, bBox E b])) (CQi E Post (fun u => (fl [bPad E a u, bBox E b])) (fl [bPad E a p, bBox E b]) sz) 0 0 (va_A (fl [bPad E a p, bBox E b]) sz) := by
  refine v_met (by decide) (Nat.le_of_ble_eq_true rfl) ?_
  intro pr e s m below meth c A hsz hA C
  subst hsz
  refine v_aload_n (pc := 0) C 0 rfl rfl dX4_putNote_0 ?_
  refine v_get (pc := 1) C cfX4 rfl 0 0 rfl (by decide) wfX4_11 rfl dX4_putNote_1 ?_
  refine v_iconst (pc := 4) C 1 ki_1 dX4_putNote_4 ?_
  refine v_iald (pc := 5) C 1 rfl vi_1_86 tn_1 dX4_putNote_5 ?_
  refine v_topi (fun x5_1 ex => ?_)
  have hw := hw x5_1 ex
  refine v_istore (pc := 6) C [(5, .int x5_1), (0, .ref (a 0)), (1, .ref (b 0)), (2, .int x2), (3, .int x3), (4, .int x4)] rfl (by decide) dX4_putNote_6 ?_
  refine v_aload_n (pc := 8) C 1 rfl rfl dX4_putNote_8 ?_
  refine v_get (pc := 9) C cfX4 rfl 0 0 rfl (by decide) wfX4_11 rfl dX4_putNote_9 ?_
  refine v_iconst (pc := 12) C 0 ki_0 dX4_putNote_12 ?_
  refine v_iald (pc := 13) C 1 rfl vi_0_86 tn_0 dX4_putNote_13 ?_
  refine v_topi (fun x6_2 ex => ?_)
  have hw := hw x6_2 ex
  refine v_istore (pc := 14) C [(6, .int x6_2), (5, .int x5_1), (0, .ref (a 0)), (1, .ref (b 0)), (2, .int x2), (3, .int x3), (4, .int x4)] rfl (by decide) dX4_putNote_14 ?_
  refine v_iload (pc := 16) C 1 rfl dX4_putNote_16 ?_
  refine v_bipush (pc := 18) C 10 kb_10 dX4_putNote_18 ?_
  refine v_icmp_ge (pc := 20) C 32 (by decide) dX4_putNote_20 (fun hc => ?_) (fun hc => ?_)
  · have hw := hw.1 hc
    refine v_iconst (pc := 32) C (-1) ki_m1 dX4_putNote_32 ?_
    exact v_ireti (pc := 33) C p hA rfl hw dX4_putNote_33
  · have hw := hw.2 hc
    refine v_iload (pc := 23) C 0 rfl dX4_putNote_23 ?_
    refine v_aload_n (pc := 25) C 2 rfl rfl dX4_putNote_25 ?_
    refine v_get (pc := 26) C cfX4 rfl 0 3 rfl (by decide) wfX4_22 rfl dX4_putNote_26 ?_
    refine v_icmp_lt (pc := 29) C 34 (by decide) dX4_putNote_29 (fun hc => ?_) (fun hc => ?_)
    · have hw := hw.1 hc
      refine v_aload_n (pc := 34) C 2 rfl rfl dX4_putNote_34 ?_
      refine v_get (pc := 35) C cfX4 rfl 0 5 rfl (by decide) wfX4_28 rfl dX4_putNote_35 ?_
      refine v_iload (pc := 38) C 1 rfl dX4_putNote_38 ?_
      refine v_iload_n (pc := 40) C 4 rfl rfl dX4_putNote_40 ?_
      obtain ⟨hg, hw⟩ := hw
      obtain ⟨p3, es⟩ : ∃ y : St, y = p.sA 5 (upd (p.A 5) x5_1.toNatClampNeg x2) := ⟨_, rfl⟩
      have hw := hw p3 es
      refine v_iast (pc := 41) C 3 (w' := (fl [bPad E a p3, bBox E b])) rfl rfl (by subst es; rfl) hg dX4_putNote_41 ?_
      refine v_aload_n (pc := 42) C 2 rfl rfl dX4_putNote_42 ?_
      refine v_get (pc := 43) C cfX4 rfl 0 6 rfl (by decide) wfX4_31 rfl dX4_putNote_43 ?_
      refine v_iload (pc := 46) C 1 rfl dX4_putNote_46 ?_
      refine v_iload_n (pc := 48) C 5 rfl rfl dX4_putNote_48 ?_
      obtain ⟨hg, hw⟩ := hw
      obtain ⟨p4, es⟩ : ∃ y : St, y = p3.sA 6 (upd (p3.A 6) x5_1.toNatClampNeg x3) := ⟨_, rfl⟩
      have hw := hw p4 es
      refine v_iast (pc := 49) C 4 (w' := (fl [bPad E a p4, bBox E b])) rfl rfl (by subst es; rfl) hg dX4_putNote_49 ?_
      refine v_aload_n (pc := 50) C 2 rfl rfl dX4_putNote_50 ?_
      refine v_get (pc := 51) C cfX4 rfl 0 7 rfl (by decide) wfX4_34 rfl dX4_putNote_51 ?_
      refine v_iload (pc := 54) C 1 rfl dX4_putNote_54 ?_
      refine v_iload (pc := 56) C 6 rfl dX4_putNote_56 ?_
      obtain ⟨hg, hw⟩ := hw
      obtain ⟨p5, es⟩ : ∃ y : St, y = p4.sA 7 (upd (p4.A 7) x5_1.toNatClampNeg x4) := ⟨_, rfl⟩
      have hw := hw p5 es
      refine v_iast (pc := 58) C 5 (w' := (fl [bPad E a p5, bBox E b])) rfl rfl (by subst es; rfl) hg dX4_putNote_58 ?_
      refine v_aload_n (pc := 59) C 2 rfl rfl dX4_putNote_59 ?_
      refine v_get (pc := 60) C cfX4 rfl 0 8 rfl (by decide) wfX4_37 rfl dX4_putNote_60 ?_
      refine v_iload (pc := 63) C 1 rfl dX4_putNote_63 ?_
      refine v_iload (pc := 65) C 0 rfl dX4_putNote_65 ?_
      obtain ⟨hg, hw⟩ := hw
      obtain ⟨p6, es⟩ : ∃ y : St, y = p5.sA 8 (upd (p5.A 8) x5_1.toNatClampNeg x6_2) := ⟨_, rfl⟩
      have hw := hw p6 es
      refine v_iast (pc := 67) C 6 (w' := (fl [bPad E a p6, bBox E b])) rfl rfl (by subst es; rfl) hg dX4_putNote_67 ?_
      refine v_iconst (pc := 68) C 0 ki_0 dX4_putNote_68 ?_
      refine v_istore (pc := 69) C [(7, .int 0), (6, .int x6_2), (5, .int x5_1), (0, .ref (a 0)), (1, .ref (b 0)), (2, .int x2), (3, .int x3), (4, .int x4)] rfl (by decide) dX4_putNote_69 ?_
      obtain ⟨n, hw⟩ := hw
      refine v_sub (lv' := [(0, .ref (a 0)), (1, .ref (b 0)), (2, .int x2), (3, .int x3), (4, .int x4), (5, .int x5_1), (6, .int x6_2), (7, .int 0)]) [3, 4, 5, 6, 7, 2, 1, 0] rfl ?_
      refine vlX4_putNote_71 C hA a b  (fun y10 y11 y12 y13 p14 hw => ?_) n x2 x3 x4 x5_1 x6_2 0 p6 hw
      refine v_aload_n (pc := 105) C 0 rfl rfl dX4_putNote_105 ?_
      refine v_get (pc := 106) C cfX4 rfl 0 0 rfl (by decide) wfX4_11 rfl dX4_putNote_106 ?_
      refine v_iconst (pc := 109) C 1 ki_1 dX4_putNote_109 ?_
      refine v_iload (pc := 110) C 4 rfl dX4_putNote_110 ?_
      refine v_iconst (pc := 112) C 1 ki_1 dX4_putNote_112 ?_
      refine v_iadd (pc := 113) C dX4_putNote_113 ?_
      obtain ⟨p15, es⟩ : ∃ y : St, y = p14.sA 0 (upd (p14.A 0) 1 (y12 + 1)) := ⟨_, rfl⟩
      have hw := hw p15 es
      refine v_iast (pc := 114) C 1 (w' := (fl [bPad E a p15, bBox E b])) rfl tn_1 (by subst es; rfl) vi_1_86 dX4_putNote_114 ?_
      refine v_aload_n (pc := 115) C 1 rfl rfl dX4_putNote_115 ?_
      refine v_iload_n (pc := 116) C 2 rfl rfl dX4_putNote_116 ?_
      refine v_goBi (pc := 117) C (bs := [bPad E a p15, bBox E b]) (cs := [bBox E b]) (cs' := (fun (_ : Unit) => [bBox E b])) (bs' := (fun (_ : Unit) => [bPad E a p15, bBox E b])) (w' := (fun (_ : Unit) => (fl [bPad E a p15, bBox E b]))) [1] rfl rfl (fun _ => rfl) (fun _ => rfl) (fun _ => rfl) (v_runVB (pc := 117) C [.int y10] [] (fun sz => ctX5_hasInk l E b y10 hw sz) [1] rfl rfl rfl mfX5_hasInk mvX5_hasInk wmX4_65 rfl ⟨Nat.le_of_ble_eq_true rfl, Nat.le_of_ble_eq_true rfl⟩ ⟨rfl, rfl⟩ 9 (ci := 5) (qc := (RX5, TX5, 1)) rfl rfl rfl rfl (Nat.le_of_ble_eq_true rfl) ⟨Nat.zero_le _, Nat.zero_le _⟩ dX4_putNote_117) (fun r16 _ hw => ?_)
      refine v_if_eq (pc := 120) C 139 (by decide) dX4_putNote_120 (fun hc => ?_) (fun hc => ?_)
      · have hw := hw.1 hc
        refine v_iload (pc := 139) C 5 rfl dX4_putNote_139 ?_
        refine v_istore (pc := 141) C [(7, .int y13), (0, .ref (a 0)), (1, .ref (b 0)), (2, .int y10), (4, .int y11), (5, .int y12), (6, .int y13)] rfl (by decide) dX4_putNote_141 ?_
        obtain ⟨n, hw⟩ := hw
        refine v_sub (lv' := [(0, .ref (a 0)), (4, .int y11), (5, .int y12), (7, .int y13)]) [1, 4, 5, 0] rfl ?_
        refine vlX4_putNote_143 C hA a b  (fun y20 p21 hw => ?_) n y11 y12 y13 p15 hw
        refine v_iload (pc := 174) C 0 rfl dX4_putNote_174 ?_
        exact v_ireti (pc := 176) C p21 hA rfl hw dX4_putNote_176
      · have hw := hw.2 hc
        refine v_aload_n (pc := 123) C 0 rfl rfl dX4_putNote_123 ?_
        refine v_get (pc := 124) C cfX4 rfl 0 0 rfl (by decide) wfX4_11 rfl dX4_putNote_124 ?_
        refine v_iload (pc := 127) C 5 rfl dX4_putNote_127 ?_
        refine v_iconst (pc := 129) C 0 ki_0 dX4_putNote_129 ?_
        refine v_goBi (pc := 130) C (bs := [bPad E a p15, bBox E b]) (cs := []) (cs' := (fun (_ : Unit) => [])) (bs' := (fun (_ : Unit) => [bPad E a p15, bBox E b])) (w' := (fun (_ : Unit) => (fl [bPad E a p15, bBox E b]))) [] rfl rfl (fun _ => rfl) (fun _ => rfl) (fun _ => rfl) (v_runSB (pc := 130) C [.int y13, .int 0] [.ref (a 1)] (fun sz => ctX4_placeOf l E y13 0 hw sz) [] rfl rfl rfl mfX4_placeOf msX4_placeOf wmX4_55 rfl ⟨Nat.le_of_ble_eq_true rfl, Nat.le_of_ble_eq_true rfl⟩ ⟨rfl, rfl⟩ rfl (Nat.le_of_ble_eq_true rfl) ⟨Nat.zero_le _, Nat.zero_le _⟩ dX4_putNote_130) (fun r22 _ hw => ?_)
        refine v_dup2 (pc := 133) C rfl rfl dX4_putNote_133 ?_
        obtain ⟨hg, hw⟩ := hw
        refine v_iald (pc := 134) C 1 rfl hg rfl dX4_putNote_134 ?_
        refine v_iload (pc := 135) C 3 rfl dX4_putNote_135 ?_
        refine v_ior (pc := 137) C dX4_putNote_137 ?_
        obtain ⟨hg, hw⟩ := hw
        obtain ⟨p23, es⟩ : ∃ y : St, y = p15.sA 0 (upd (p15.A 0) r22.toNatClampNeg (((p15.A 0) r22.toNatClampNeg) ||| y11)) := ⟨_, rfl⟩
        have hw := hw p23 es
        refine v_iast (pc := 138) C 1 (w' := (fl [bPad E a p23, bBox E b])) rfl rfl (by subst es; rfl) hg dX4_putNote_138 ?_
        refine v_iload (pc := 139) C 5 rfl dX4_putNote_139 ?_
        refine v_istore (pc := 141) C [(7, .int y13), (0, .ref (a 0)), (1, .ref (b 0)), (2, .int y10), (4, .int y11), (5, .int y12), (6, .int y13)] rfl (by decide) dX4_putNote_141 ?_
        obtain ⟨n, hw⟩ := hw
        refine v_sub (lv' := [(0, .ref (a 0)), (4, .int y11), (5, .int y12), (7, .int y13)]) [1, 4, 5, 0] rfl ?_
        refine vlX4_putNote_143 C hA a b  (fun y24 p25 hw => ?_) n y11 y12 y13 p23 hw
        refine v_iload (pc := 174) C 0 rfl dX4_putNote_174 ?_
        exact v_ireti (pc := 176) C p25 hA rfl hw dX4_putNote_176
    · have hw := hw.2 hc
      refine v_iconst (pc := 32) C (-1) ki_m1 dX4_putNote_32 ?_
      exact v_ireti (pc := 33) C p hA rfl hw dX4_putNote_33
set_option maxHeartbeats 4000000 in
set_option maxRecDepth 100000 in
theorem vlX4_writtenOn_4 (C : VC pr s m args meth c E A cX4_writtenOn 4 (some .int) RX4) (hA : va_A w0 s.heap.size = A) (a : Nat → Nat) (p : St) {Post : Int32 → Prop} {KX : Int32 → Prop} (hX : ∀ (x2 : Int32), KX x2 → V pr l e rmX4_writtenOn s m args below meth c E A 4 0 0 (MQ below (CQi E (fun (z : Int32) (_ : Unit) => Post z) (fun _ => (fl [bPad E a p])) w0 s.heap.size) args s 0 0 A) (fl [bPad E a p]) 36 [(2, .int x2)] []) : ∀ (n : Nat) (x1 : Int32) (x2 : Int32) (x3 : Int32), wLX4_writtenOn_4 p Post KX n (x1, x2, x3) → V pr l e rmX4_writtenOn s m args below meth c E A 4 0 0 (MQ below (CQi E (fun (z : Int32) (_ : Unit) => Post z) (fun _ => (fl [bPad E a p])) w0 s.heap.size) args s 0 0 A) (fl [bPad E a p]) 4 [(0, .ref (a 0)), (1, .int x1), (2, .int x2), (3, .int x3)] [] := by
  intro n
  induction n with
  | zero => intro x1 x2 x3 hw; exact absurd hw id
  | succ n hself =>
    intro x1 x2 x3 hw
    have hw : wlX4_writtenOn_4 p Post KX (wLX4_writtenOn_4 p Post KX n) x1 x2 x3 := hw
    refine v_iload_n (pc := 4) C 3 rfl rfl dX4_writtenOn_4 ?_
    refine v_aload_n (pc := 5) C 0 rfl rfl dX4_writtenOn_5 ?_
    refine v_get (pc := 6) C cfX4 rfl 0 0 rfl (by decide) wfX4_11 rfl dX4_writtenOn_6 ?_
    refine v_iconst (pc := 9) C 1 ki_1 dX4_writtenOn_9 ?_
    refine v_iald (pc := 10) C 1 rfl vi_1_86 tn_1 dX4_writtenOn_10 ?_
    refine v_icmp_ge (pc := 11) C 36 (by decide) dX4_writtenOn_11 (fun hc => ?_) (fun hc => ?_)
    · have hw := hw.1 hc
      refine v_sub (lv' := [(2, .int x2)]) [2] rfl ?_
      exact hX x2 hw
    · have hw := hw.2 hc
      refine v_aload_n (pc := 14) C 0 rfl rfl dX4_writtenOn_14 ?_
      refine v_get (pc := 15) C cfX4 rfl 0 8 rfl (by decide) wfX4_37 rfl dX4_writtenOn_15 ?_
      refine v_iload_n (pc := 18) C 3 rfl rfl dX4_writtenOn_18 ?_
      obtain ⟨hg, hw⟩ := hw
      refine v_iald (pc := 19) C 6 rfl hg rfl dX4_writtenOn_19 ?_
      refine v_iload_n (pc := 20) C 1 rfl rfl dX4_writtenOn_20 ?_
      refine v_icmp_ne (pc := 21) C 30 (by decide) dX4_writtenOn_21 (fun hc => ?_) (fun hc => ?_)
      · have hw := hw.1 hc
        obtain ⟨x3_1, ex⟩ : ∃ y : Int32, y = x3 + 1 := ⟨_, rfl⟩
        have hw := hw x3_1 ex
        refine v_iinc (pc := 30) C 3 rfl (by rw [ex, ki_1]) [(3, .int x3_1), (0, .ref (a 0)), (1, .int x1), (2, .int x2)] rfl (by decide) dX4_writtenOn_30 ?_
        refine v_goto (pc := 33) C 4 (by decide) dX4_writtenOn_33 ?_
        refine v_sub (lv' := [(0, .ref (a 0)), (1, .int x1), (2, .int x2), (3, .int x3_1)]) [1, 2, 3, 0] rfl ?_
        exact hself x1 x2 x3_1 hw
      · have hw := hw.2 hc
        refine v_iload_n (pc := 24) C 2 rfl rfl dX4_writtenOn_24 ?_
        refine v_iconst (pc := 25) C 1 ki_1 dX4_writtenOn_25 ?_
        refine v_iload_n (pc := 26) C 3 rfl rfl dX4_writtenOn_26 ?_
        refine v_ishl (pc := 27) C dX4_writtenOn_27 ?_
        refine v_ior (pc := 28) C dX4_writtenOn_28 ?_
        refine v_topi (fun x2_2 ex => ?_)
        have hw := hw x2_2 ex
        refine v_istore_n (pc := 29) C [(2, .int x2_2), (0, .ref (a 0)), (1, .int x1), (3, .int x3)] rfl rfl (by decide) dX4_writtenOn_29 ?_
        obtain ⟨x3_3, ex⟩ : ∃ y : Int32, y = x3 + 1 := ⟨_, rfl⟩
        have hw := hw x3_3 ex
        refine v_iinc (pc := 30) C 3 rfl (by rw [ex, ki_1]) [(3, .int x3_3), (2, .int x2_2), (0, .ref (a 0)), (1, .int x1)] rfl (by decide) dX4_writtenOn_30 ?_
        refine v_goto (pc := 33) C 4 (by decide) dX4_writtenOn_33 ?_
        refine v_sub (lv' := [(0, .ref (a 0)), (1, .int x1), (2, .int x2_2), (3, .int x3_3)]) [2, 3, 1, 0] rfl ?_
        exact hself x1 x2_2 x3_3 hw
set_option maxHeartbeats 4000000 in
set_option maxRecDepth 100000 in
theorem ctX4_writtenOn (l : Launch) (E : VE) (a : Nat → Nat) (x1 : Int32) (p : St)  {Post : Int32 → Prop} (hw : wpX4_writtenOn x1 p Post) (sz : Nat) : Met l yX4_writtenOn (mW yX4_writtenOn cX4_writtenOn 4 (some .int)) rmX4_writtenOn (CPre E [.ref (a 0), .int x1] sz (fl [bPad E a p])) (CQi E (fun (z : Int32) (_ : Unit) => Post z) (fun _ => (fl [bPad E a p])) (fl [bPad E a p]) sz) 0 0 (va_A (fl [bPad E a p]) sz) := by
  refine v_met (by decide) (Nat.le_of_ble_eq_true rfl) ?_
  intro pr e s m below meth c A hsz hA C
  subst hsz
  refine v_iconst (pc := 0) C 0 ki_0 dX4_writtenOn_0 ?_
  refine v_istore_n (pc := 1) C [(2, .int 0), (0, .ref (a 0)), (1, .int x1)] rfl rfl (by decide) dX4_writtenOn_1 ?_
  refine v_iconst (pc := 2) C 0 ki_0 dX4_writtenOn_2 ?_
  refine v_istore_n (pc := 3) C [(3, .int 0), (2, .int 0), (0, .ref (a 0)), (1, .int x1)] rfl rfl (by decide) dX4_writtenOn_3 ?_
  obtain ⟨n, hw⟩ := hw
  refine v_sub (lv' := [(0, .ref (a 0)), (1, .int x1), (2, .int 0), (3, .int 0)]) [2, 3, 1, 0] rfl ?_
  refine vlX4_writtenOn_4 C hA a p (fun y4 hw => ?_) n x1 0 0 hw
  refine v_iload_n (pc := 36) C 0 rfl rfl dX4_writtenOn_36 ?_
  exact v_ireti (pc := 37) C () hA rfl hw dX4_writtenOn_37
set_option maxHeartbeats 4000000 in
set_option maxRecDepth 100000 in
theorem ctX4_cellsDented (l : Launch) (E : VE) (a : Nat → Nat) (x1 : Int32) (x2 : Int32) (p : St)  {Post : Int32 → Prop} (hw : wpX4_cellsDented x1 x2 p Post) (sz : Nat) : Met l yX4_cellsDented (mW yX4_cellsDented cX4_cellsDented 3 (some .int)) rmX4_cellsDented (CPre E [.ref (a 0), .int x1, .int x2] sz (fl [bPad E a p])) (CQi E (fun (z : Int32) (_ : Unit) => Post z) (fun _ => (fl [bPad E a p])) (fl [bPad E a p]) sz) 0 0 (va_A (fl [bPad E a p]) sz) := by
  refine v_met (by decide) (Nat.le_of_ble_eq_true rfl) ?_
  intro pr e s m below meth c A hsz hA C
  subst hsz
  refine v_aload_n (pc := 0) C 0 rfl rfl dX4_cellsDented_0 ?_
  refine v_iload_n (pc := 1) C 1 rfl rfl dX4_cellsDented_1 ?_
  refine v_iload_n (pc := 2) C 2 rfl rfl dX4_cellsDented_2 ?_
  refine v_goAi (pc := 3) C (wc' := (fun (_ : Unit) => (fl [bPad E a p]))) (fun _ => rfl) (v_runVA (pc := 3) C [.int x1, .int x2] [] (fun sz => ctX4_forceOn l E a x1 x2 p hw sz) mfX4_forceOn mvX4_forceOn wmX4_69 rfl ⟨Nat.le_of_ble_eq_true rfl, Nat.le_of_ble_eq_true rfl⟩ ⟨rfl, rfl⟩ 0 (ci := 4) (qc := (RX4, TX4, 12)) rfl rfl rfl rfl (Nat.le_of_ble_eq_true rfl) ⟨Nat.zero_le _, Nat.zero_le _⟩ dX4_cellsDented_3) (fun r1 _ hw => ?_)
  refine v_if_le (pc := 6) C 18 (by decide) dX4_cellsDented_6 (fun hc => ?_) (fun hc => ?_)
  · have hw := hw.1 hc
    refine v_iconst (pc := 18) C 0 ki_0 dX4_cellsDented_18 ?_
    exact v_ireti (pc := 19) C () hA rfl hw dX4_cellsDented_19
  · have hw := hw.2 hc
    refine v_aload_n (pc := 9) C 0 rfl rfl dX4_cellsDented_9 ?_
    refine v_get (pc := 10) C cfX4 rfl 0 7 rfl (by decide) wfX4_34 rfl dX4_cellsDented_10 ?_
    refine v_iload_n (pc := 13) C 1 rfl rfl dX4_cellsDented_13 ?_
    obtain ⟨hg, hw⟩ := hw
    refine v_iald (pc := 14) C 5 rfl hg rfl dX4_cellsDented_14 ?_
    refine v_goto (pc := 15) C 19 (by decide) dX4_cellsDented_15 ?_
    exact v_ireti (pc := 19) C () hA rfl hw dX4_cellsDented_19
set_option maxHeartbeats 4000000 in
set_option maxRecDepth 100000 in
theorem vlX4_dentedBy_4 (C : VC pr s m args meth c E A cX4_dentedBy 4 (some .int) RX4) (hA : va_A w0 s.heap.size = A) (a : Nat → Nat) (p : St) {Post : Int32 → Prop} {KX : Int32 → Prop} (hX : ∀ (x2 : Int32), KX x2 → V pr l e rmX4_dentedBy s m args below meth c E A 4 0 0 (MQ below (CQi E (fun (z : Int32) (_ : Unit) => Post z) (fun _ => (fl [bPad E a p])) w0 s.heap.size) args s 0 0 A) (fl [bPad E a p]) 35 [(2, .int x2)] []) : ∀ (n : Nat) (x1 : Int32) (x2 : Int32) (x3 : Int32), wLX4_dentedBy_4 p Post KX n (x1, x2, x3) → V pr l e rmX4_dentedBy s m args below meth c E A 4 0 0 (MQ below (CQi E (fun (z : Int32) (_ : Unit) => Post z) (fun _ => (fl [bPad E a p])) w0 s.heap.size) args s 0 0 A) (fl [bPad E a p]) 4 [(0, .ref (a 0)), (1, .int x1), (2, .int x2), (3, .int x3)] [] := by
  intro n
  induction n with
  | zero => intro x1 x2 x3 hw; exact absurd hw id
  | succ n hself =>
    intro x1 x2 x3 hw
    have hw : wlX4_dentedBy_4 p Post KX (wLX4_dentedBy_4 p Post KX n) x1 x2 x3 := hw
    refine v_iload_n (pc := 4) C 3 rfl rfl dX4_dentedBy_4 ?_
    refine v_aload_n (pc := 5) C 0 rfl rfl dX4_dentedBy_5 ?_
    refine v_get (pc := 6) C cfX4 rfl 0 0 rfl (by decide) wfX4_11 rfl dX4_dentedBy_6 ?_
    refine v_iconst (pc := 9) C 1 ki_1 dX4_dentedBy_9 ?_
    refine v_iald (pc := 10) C 1 rfl vi_1_86 tn_1 dX4_dentedBy_10 ?_
    refine v_icmp_ge (pc := 11) C 35 (by decide) dX4_dentedBy_11 (fun hc => ?_) (fun hc => ?_)
    · have hw := hw.1 hc
      refine v_sub (lv' := [(2, .int x2)]) [2] rfl ?_
      exact hX x2 hw
    · have hw := hw.2 hc
      refine v_aload_n (pc := 14) C 0 rfl rfl dX4_dentedBy_14 ?_
      refine v_iload_n (pc := 15) C 3 rfl rfl dX4_dentedBy_15 ?_
      refine v_iload_n (pc := 16) C 1 rfl rfl dX4_dentedBy_16 ?_
      refine v_goAi (pc := 17) C (wc' := (fun (_ : Unit) => (fl [bPad E a p]))) (fun _ => rfl) (v_runVA (pc := 17) C [.int x3, .int x1] [] (fun sz => ctX4_cellsDented l E a x3 x1 p hw sz) mfX4_cellsDented mvX4_cellsDented wmX4_83 rfl ⟨Nat.le_of_ble_eq_true rfl, Nat.le_of_ble_eq_true rfl⟩ ⟨rfl, rfl⟩ 0 (ci := 4) (qc := (RX4, TX4, 12)) rfl rfl rfl rfl (Nat.le_of_ble_eq_true rfl) ⟨Nat.zero_le _, Nat.zero_le _⟩ dX4_dentedBy_17) (fun r1 _ hw => ?_)
      refine v_if_eq (pc := 20) C 29 (by decide) dX4_dentedBy_20 (fun hc => ?_) (fun hc => ?_)
      · have hw := hw.1 hc
        obtain ⟨x3_2, ex⟩ : ∃ y : Int32, y = x3 + 1 := ⟨_, rfl⟩
        have hw := hw x3_2 ex
        refine v_iinc (pc := 29) C 3 rfl (by rw [ex, ki_1]) [(3, .int x3_2), (0, .ref (a 0)), (1, .int x1), (2, .int x2)] rfl (by decide) dX4_dentedBy_29 ?_
        refine v_goto (pc := 32) C 4 (by decide) dX4_dentedBy_32 ?_
        refine v_sub (lv' := [(0, .ref (a 0)), (1, .int x1), (2, .int x2), (3, .int x3_2)]) [1, 2, 3, 0] rfl ?_
        exact hself x1 x2 x3_2 hw
      · have hw := hw.2 hc
        refine v_iload_n (pc := 23) C 2 rfl rfl dX4_dentedBy_23 ?_
        refine v_iconst (pc := 24) C 1 ki_1 dX4_dentedBy_24 ?_
        refine v_iload_n (pc := 25) C 3 rfl rfl dX4_dentedBy_25 ?_
        refine v_ishl (pc := 26) C dX4_dentedBy_26 ?_
        refine v_ior (pc := 27) C dX4_dentedBy_27 ?_
        refine v_topi (fun x2_3 ex => ?_)
        have hw := hw x2_3 ex
        refine v_istore_n (pc := 28) C [(2, .int x2_3), (0, .ref (a 0)), (1, .int x1), (3, .int x3)] rfl rfl (by decide) dX4_dentedBy_28 ?_
        obtain ⟨x3_4, ex⟩ : ∃ y : Int32, y = x3 + 1 := ⟨_, rfl⟩
        have hw := hw x3_4 ex
        refine v_iinc (pc := 29) C 3 rfl (by rw [ex, ki_1]) [(3, .int x3_4), (2, .int x2_3), (0, .ref (a 0)), (1, .int x1)] rfl (by decide) dX4_dentedBy_29 ?_
        refine v_goto (pc := 32) C 4 (by decide) dX4_dentedBy_32 ?_
        refine v_sub (lv' := [(0, .ref (a 0)), (1, .int x1), (2, .int x2_3), (3, .int x3_4)]) [2, 3, 1, 0] rfl ?_
        exact hself x1 x2_3 x3_4 hw
set_option maxHeartbeats 4000000 in
set_option maxRecDepth 100000 in
theorem ctX4_dentedBy (l : Launch) (E : VE) (a : Nat → Nat) (x1 : Int32) (p : St)  {Post : Int32 → Prop} (hw : wpX4_dentedBy x1 p Post) (sz : Nat) : Met l yX4_dentedBy (mW yX4_dentedBy cX4_dentedBy 4 (some .int)) rmX4_dentedBy (CPre E [.ref (a 0), .int x1] sz (fl [bPad E a p])) (CQi E (fun (z : Int32) (_ : Unit) => Post z) (fun _ => (fl [bPad E a p])) (fl [bPad E a p]) sz) 0 0 (va_A (fl [bPad E a p]) sz) := by
  refine v_met (by decide) (Nat.le_of_ble_eq_true rfl) ?_
  intro pr e s m below meth c A hsz hA C
  subst hsz
  refine v_iconst (pc := 0) C 0 ki_0 dX4_dentedBy_0 ?_
  refine v_istore_n (pc := 1) C [(2, .int 0), (0, .ref (a 0)), (1, .int x1)] rfl rfl (by decide) dX4_dentedBy_1 ?_
  refine v_iconst (pc := 2) C 0 ki_0 dX4_dentedBy_2 ?_
  refine v_istore_n (pc := 3) C [(3, .int 0), (2, .int 0), (0, .ref (a 0)), (1, .int x1)] rfl rfl (by decide) dX4_dentedBy_3 ?_
  obtain ⟨n, hw⟩ := hw
  refine v_sub (lv' := [(0, .ref (a 0)), (1, .int x1), (2, .int 0), (3, .int 0)]) [2, 3, 1, 0] rfl ?_
  refine vlX4_dentedBy_4 C hA a p (fun y5 hw => ?_) n x1 0 0 hw
  refine v_iload_n (pc := 35) C 0 rfl rfl dX4_dentedBy_35 ?_
  exact v_ireti (pc := 36) C () hA rfl hw dX4_dentedBy_36
set_option maxHeartbeats 4000000 in
set_option maxRecDepth 100000 in
theorem vlX4_dentedAtLeast_5 (C : VC pr s m args meth c E A cX4_dentedAtLeast 5 (some .int) RX4) (hA : va_A w0 s.heap.size = A) (a : Nat → Nat) (p : St) {Post : Int32 → Prop} {KX : Int32 → Prop} (hX : ∀ (x3 : Int32), KX x3 → V pr l e rmX4_dentedAtLeast s m args below meth c E A 5 0 0 (MQ below (CQi E (fun (z : Int32) (_ : Unit) => Post z) (fun _ => (fl [bPad E a p])) w0 s.heap.size) args s 0 0 A) (fl [bPad E a p]) 36 [(3, .int x3)] []) : ∀ (n : Nat) (x1 : Int32) (x2 : Int32) (x3 : Int32) (x4 : Int32), wLX4_dentedAtLeast_5 p Post KX n (x1, x2, x3, x4) → V pr l e rmX4_dentedAtLeast s m args below meth c E A 5 0 0 (MQ below (CQi E (fun (z : Int32) (_ : Unit) => Post z) (fun _ => (fl [bPad E a p])) w0 s.heap.size) args s 0 0 A) (fl [bPad E a p]) 5 [(0, .ref (a 0)), (1, .int x1), (2, .int x2), (3, .int x3), (4, .int x4)] [] := by
  intro n
  induction n with
  | zero => intro x1 x2 x3 x4 hw; exact absurd hw id
  | succ n hself =>
    intro x1 x2 x3 x4 hw
    have hw : wlX4_dentedAtLeast_5 p Post KX (wLX4_dentedAtLeast_5 p Post KX n) x1 x2 x3 x4 := hw
    refine v_iload (pc := 5) C 4 rfl dX4_dentedAtLeast_5 ?_
    refine v_bipush (pc := 7) C 12 kb_12 dX4_dentedAtLeast_7 ?_
    refine v_icmp_ge (pc := 9) C 36 (by decide) dX4_dentedAtLeast_9 (fun hc => ?_) (fun hc => ?_)
    · have hw := hw.1 hc
      refine v_sub (lv' := [(3, .int x3)]) [3] rfl ?_
      exact hX x3 hw
    · have hw := hw.2 hc
      refine v_aload_n (pc := 12) C 0 rfl rfl dX4_dentedAtLeast_12 ?_
      refine v_iload_n (pc := 13) C 1 rfl rfl dX4_dentedAtLeast_13 ?_
      refine v_iload (pc := 14) C 4 rfl dX4_dentedAtLeast_14 ?_
      refine v_goAi (pc := 16) C (wc' := (fun (_ : Unit) => (fl [bPad E a p]))) (fun _ => rfl) (v_runVA (pc := 16) C [.int x1, .int x4] [] (fun sz => ctX4_dentOf l E a x1 x4 p hw sz) mfX4_dentOf mvX4_dentOf wmX4_86 rfl ⟨Nat.le_of_ble_eq_true rfl, Nat.le_of_ble_eq_true rfl⟩ ⟨rfl, rfl⟩ 0 (ci := 4) (qc := (RX4, TX4, 12)) rfl rfl rfl rfl (Nat.le_of_ble_eq_true rfl) ⟨Nat.zero_le _, Nat.zero_le _⟩ dX4_dentedAtLeast_16) (fun r1 _ hw => ?_)
      refine v_iload_n (pc := 19) C 2 rfl rfl dX4_dentedAtLeast_19 ?_
      refine v_icmp_lt (pc := 20) C 30 (by decide) dX4_dentedAtLeast_20 (fun hc => ?_) (fun hc => ?_)
      · have hw := hw.1 hc
        obtain ⟨x4_2, ex⟩ : ∃ y : Int32, y = x4 + 1 := ⟨_, rfl⟩
        have hw := hw x4_2 ex
        refine v_iinc (pc := 30) C 4 rfl (by rw [ex, ki_1]) [(4, .int x4_2), (0, .ref (a 0)), (1, .int x1), (2, .int x2), (3, .int x3)] rfl (by decide) dX4_dentedAtLeast_30 ?_
        refine v_goto (pc := 33) C 5 (by decide) dX4_dentedAtLeast_33 ?_
        refine v_sub (lv' := [(0, .ref (a 0)), (1, .int x1), (2, .int x2), (3, .int x3), (4, .int x4_2)]) [1, 2, 3, 4, 0] rfl ?_
        exact hself x1 x2 x3 x4_2 hw
      · have hw := hw.2 hc
        refine v_iload_n (pc := 23) C 3 rfl rfl dX4_dentedAtLeast_23 ?_
        refine v_iconst (pc := 24) C 1 ki_1 dX4_dentedAtLeast_24 ?_
        refine v_iload (pc := 25) C 4 rfl dX4_dentedAtLeast_25 ?_
        refine v_ishl (pc := 27) C dX4_dentedAtLeast_27 ?_
        refine v_ior (pc := 28) C dX4_dentedAtLeast_28 ?_
        refine v_topi (fun x3_3 ex => ?_)
        have hw := hw x3_3 ex
        refine v_istore_n (pc := 29) C [(3, .int x3_3), (0, .ref (a 0)), (1, .int x1), (2, .int x2), (4, .int x4)] rfl rfl (by decide) dX4_dentedAtLeast_29 ?_
        obtain ⟨x4_4, ex⟩ : ∃ y : Int32, y = x4 + 1 := ⟨_, rfl⟩
        have hw := hw x4_4 ex
        refine v_iinc (pc := 30) C 4 rfl (by rw [ex, ki_1]) [(4, .int x4_4), (3, .int x3_3), (0, .ref (a 0)), (1, .int x1), (2, .int x2)] rfl (by decide) dX4_dentedAtLeast_30 ?_
        refine v_goto (pc := 33) C 5 (by decide) dX4_dentedAtLeast_33 ?_
        refine v_sub (lv' := [(0, .ref (a 0)), (1, .int x1), (2, .int x2), (3, .int x3_3), (4, .int x4_4)]) [2, 3, 4, 1, 0] rfl ?_
        exact hself x1 x2 x3_3 x4_4 hw
set_option maxHeartbeats 4000000 in
set_option maxRecDepth 100000 in
theorem ctX4_dentedAtLeast (l : Launch) (E : VE) (a : Nat → Nat) (x1 : Int32) (x2 : Int32) (p : St)  {Post : Int32 → Prop} (hw : wpX4_dentedAtLeast x1 x2 p Post) (sz : Nat) : Met l yX4_dentedAtLeast (mW yX4_dentedAtLeast cX4_dentedAtLeast 5 (some .int)) rmX4_dentedAtLeast (CPre E [.ref (a 0), .int x1, .int x2] sz (fl [bPad E a p])) (CQi E (fun (z : Int32) (_ : Unit) => Post z) (fun _ => (fl [bPad E a p])) (fl [bPad E a p]) sz) 0 0 (va_A (fl [bPad E a p]) sz) := by
  refine v_met (by decide) (Nat.le_of_ble_eq_true rfl) ?_
  intro pr e s m below meth c A hsz hA C
  subst hsz
  refine v_iconst (pc := 0) C 0 ki_0 dX4_dentedAtLeast_0 ?_
  refine v_istore_n (pc := 1) C [(3, .int 0), (0, .ref (a 0)), (1, .int x1), (2, .int x2)] rfl rfl (by decide) dX4_dentedAtLeast_1 ?_
  refine v_iconst (pc := 2) C 0 ki_0 dX4_dentedAtLeast_2 ?_
  refine v_istore (pc := 3) C [(4, .int 0), (3, .int 0), (0, .ref (a 0)), (1, .int x1), (2, .int x2)] rfl (by decide) dX4_dentedAtLeast_3 ?_
  obtain ⟨n, hw⟩ := hw
  refine v_sub (lv' := [(0, .ref (a 0)), (1, .int x1), (2, .int x2), (3, .int 0), (4, .int 0)]) [2, 3, 4, 1, 0] rfl ?_
  refine vlX4_dentedAtLeast_5 C hA a p (fun y5 hw => ?_) n x1 x2 0 0 hw
  refine v_iload_n (pc := 36) C 0 rfl rfl dX4_dentedAtLeast_36 ?_
  exact v_ireti (pc := 37) C () hA rfl hw dX4_dentedAtLeast_37
set_option maxHeartbeats 4000000 in
set_option maxRecDepth 100000 in
theorem vlX4_digestFrom_15 (C : VC pr s m args meth c E A cX4_digestFrom 7 (some .long) RX4) (hA : va_A w0 s.heap.size = A) (a : Nat → Nat) (p : St) {Post : Int64 → Prop} {KX : Int64 → Prop} (hX : ∀ (x3 : Int64), KX x3 → V pr l e rmX4_digestFrom s m args below meth c E A 7 0 0 (MQ below (CQl E (fun (z : Int64) (_ : Unit) => Post z) (fun _ => (fl [bPad E a p])) w0 s.heap.size) args s 0 0 A) (fl [bPad E a p]) 50 [(0, .ref (a 0)), (3, .long x3)] []) : ∀ (n : Nat) (x3 : Int64) (x5 : Int32) (x6 : Int32), wLX4_digestFrom_15 p Post KX n (x3, x5, x6) → V pr l e rmX4_digestFrom s m args below meth c E A 7 0 0 (MQ below (CQl E (fun (z : Int64) (_ : Unit) => Post z) (fun _ => (fl [bPad E a p])) w0 s.heap.size) args s 0 0 A) (fl [bPad E a p]) 15 [(0, .ref (a 0)), (3, .long x3), (5, .int x5), (6, .int x6)] [] := by
  intro n
  induction n with
  | zero => intro x3 x5 x6 hw; exact absurd hw id
  | succ n hself =>
    intro x3 x5 x6 hw
    have hw : wlX4_digestFrom_15 p Post KX (wLX4_digestFrom_15 p Post KX n) x3 x5 x6 := hw
    refine v_iload (pc := 15) C 3 rfl dX4_digestFrom_15 ?_
    refine v_iload (pc := 17) C 2 rfl dX4_digestFrom_17 ?_
    refine v_icmp_ge (pc := 19) C 50 (by decide) dX4_digestFrom_19 (fun hc => ?_) (fun hc => ?_)
    · have hw := hw.1 hc
      refine v_sub (lv' := [(0, .ref (a 0)), (3, .long x3)]) [0, 1] rfl ?_
      exact hX x3 hw
    · have hw := hw.2 hc
      refine v_iload (pc := 22) C 3 rfl dX4_digestFrom_22 ?_
      refine v_bipush (pc := 24) C 86 kb_86 dX4_digestFrom_24 ?_
      refine v_icmp_ge (pc := 26) C 50 (by decide) dX4_digestFrom_26 (fun hc => ?_) (fun hc => ?_)
      · have hw := hw.1 hc
        refine v_sub (lv' := [(0, .ref (a 0)), (3, .long x3)]) [0, 1] rfl ?_
        exact hX x3 hw
      · have hw := hw.2 hc
        refine v_ldc2 (pc := 29) C 31 wlX4_89 dX4_digestFrom_29 ?_
        refine v_lload_n (pc := 32) C 1 rfl rfl dX4_digestFrom_32 ?_
        refine v_lmul (pc := 33) C dX4_digestFrom_33 ?_
        refine v_aload_n (pc := 34) C 0 rfl rfl dX4_digestFrom_34 ?_
        refine v_get (pc := 35) C cfX4 rfl 0 0 rfl (by decide) wfX4_11 rfl dX4_digestFrom_35 ?_
        refine v_iload (pc := 38) C 3 rfl dX4_digestFrom_38 ?_
        obtain ⟨hg, hw⟩ := hw
        refine v_iald (pc := 40) C 1 rfl hg rfl dX4_digestFrom_40 ?_
        refine v_i2l (pc := 41) C dX4_digestFrom_41 ?_
        refine v_ladd (pc := 42) C dX4_digestFrom_42 ?_
        refine v_topl (fun x3_2 ex => ?_)
        have hw := hw x3_2 ex
        refine v_lstore_n (pc := 43) C [(3, .long x3_2), (0, .ref (a 0)), (5, .int x5), (6, .int x6)] rfl rfl (by decide) dX4_digestFrom_43 ?_
        obtain ⟨x6_3, ex⟩ : ∃ y : Int32, y = x6 + 1 := ⟨_, rfl⟩
        have hw := hw x6_3 ex
        refine v_iinc (pc := 44) C 3 rfl (by rw [ex, ki_1]) [(6, .int x6_3), (3, .long x3_2), (0, .ref (a 0)), (5, .int x5)] rfl (by decide) dX4_digestFrom_44 ?_
        refine v_goto (pc := 47) C 15 (by decide) dX4_digestFrom_47 ?_
        refine v_sub (lv' := [(0, .ref (a 0)), (3, .long x3_2), (5, .int x5), (6, .int x6_3)]) [2, 1, 3, 0] rfl ?_
        exact hself x3_2 x5 x6_3 hw
set_option maxHeartbeats 4000000 in
set_option maxRecDepth 100000 in
theorem vlX4_digestFrom_53 (C : VC pr s m args meth c E A cX4_digestFrom 7 (some .long) RX4) (hA : va_A w0 s.heap.size = A) (a : Nat → Nat) (p : St) {Post : Int64 → Prop} {KX : Int64 → Prop} (hX : ∀ (x3 : Int64), KX x3 → V pr l e rmX4_digestFrom s m args below meth c E A 7 0 0 (MQ below (CQl E (fun (z : Int64) (_ : Unit) => Post z) (fun _ => (fl [bPad E a p])) w0 s.heap.size) args s 0 0 A) (fl [bPad E a p]) 130 [(0, .ref (a 0)), (3, .long x3)] []) : ∀ (n : Nat) (x3 : Int64) (x6 : Int32), wLX4_digestFrom_53 p Post KX n (x3, x6) → V pr l e rmX4_digestFrom s m args below meth c E A 7 0 0 (MQ below (CQl E (fun (z : Int64) (_ : Unit) => Post z) (fun _ => (fl [bPad E a p])) w0 s.heap.size) args s 0 0 A) (fl [bPad E a p]) 53 [(0, .ref (a 0)), (3, .long x3), (6, .int x6)] [] := by
  intro n
  induction n with
  | zero => intro x3 x6 hw; exact absurd hw id
  | succ n hself =>
    intro x3 x6 hw
    have hw : wlX4_digestFrom_53 p Post KX (wLX4_digestFrom_53 p Post KX n) x3 x6 := hw
    refine v_iload (pc := 53) C 2 rfl dX4_digestFrom_53 ?_
    refine v_aload_n (pc := 55) C 0 rfl rfl dX4_digestFrom_55 ?_
    refine v_get (pc := 56) C cfX4 rfl 0 0 rfl (by decide) wfX4_11 rfl dX4_digestFrom_56 ?_
    refine v_iconst (pc := 59) C 1 ki_1 dX4_digestFrom_59 ?_
    refine v_iald (pc := 60) C 1 rfl vi_1_86 tn_1 dX4_digestFrom_60 ?_
    refine v_icmp_ge (pc := 61) C 130 (by decide) dX4_digestFrom_61 (fun hc => ?_) (fun hc => ?_)
    · have hw := hw.1 hc
      refine v_sub (lv' := [(0, .ref (a 0)), (3, .long x3)]) [0, 1] rfl ?_
      exact hX x3 hw
    · have hw := hw.2 hc
      refine v_ldc2 (pc := 64) C 31 wlX4_89 dX4_digestFrom_64 ?_
      refine v_lload_n (pc := 67) C 1 rfl rfl dX4_digestFrom_67 ?_
      refine v_lmul (pc := 68) C dX4_digestFrom_68 ?_
      refine v_aload_n (pc := 69) C 0 rfl rfl dX4_digestFrom_69 ?_
      refine v_get (pc := 70) C cfX4 rfl 0 5 rfl (by decide) wfX4_28 rfl dX4_digestFrom_70 ?_
      refine v_iload (pc := 73) C 2 rfl dX4_digestFrom_73 ?_
      obtain ⟨hg, hw⟩ := hw
      refine v_iald (pc := 75) C 3 rfl hg rfl dX4_digestFrom_75 ?_
      refine v_i2l (pc := 76) C dX4_digestFrom_76 ?_
      refine v_ladd (pc := 77) C dX4_digestFrom_77 ?_
      refine v_topl (fun x3_5 ex => ?_)
      have hw := hw x3_5 ex
      refine v_lstore_n (pc := 78) C [(3, .long x3_5), (0, .ref (a 0)), (6, .int x6)] rfl rfl (by decide) dX4_digestFrom_78 ?_
      refine v_ldc2 (pc := 79) C 31 wlX4_89 dX4_digestFrom_79 ?_
      refine v_lload_n (pc := 82) C 0 rfl rfl dX4_digestFrom_82 ?_
      refine v_lmul (pc := 83) C dX4_digestFrom_83 ?_
      refine v_aload_n (pc := 84) C 1 rfl rfl dX4_digestFrom_84 ?_
      refine v_get (pc := 85) C cfX4 rfl 0 6 rfl (by decide) wfX4_31 rfl dX4_digestFrom_85 ?_
      refine v_iload (pc := 88) C 2 rfl dX4_digestFrom_88 ?_
      obtain ⟨hg, hw⟩ := hw
      refine v_iald (pc := 90) C 4 rfl hg rfl dX4_digestFrom_90 ?_
      refine v_i2l (pc := 91) C dX4_digestFrom_91 ?_
      refine v_ladd (pc := 92) C dX4_digestFrom_92 ?_
      refine v_topl (fun x3_6 ex => ?_)
      have hw := hw x3_6 ex
      refine v_lstore_n (pc := 93) C [(3, .long x3_6), (0, .ref (a 0)), (6, .int x6)] rfl rfl (by decide) dX4_digestFrom_93 ?_
      refine v_ldc2 (pc := 94) C 31 wlX4_89 dX4_digestFrom_94 ?_
      refine v_lload_n (pc := 97) C 0 rfl rfl dX4_digestFrom_97 ?_
      refine v_lmul (pc := 98) C dX4_digestFrom_98 ?_
      refine v_aload_n (pc := 99) C 1 rfl rfl dX4_digestFrom_99 ?_
      refine v_get (pc := 100) C cfX4 rfl 0 7 rfl (by decide) wfX4_34 rfl dX4_digestFrom_100 ?_
      refine v_iload (pc := 103) C 2 rfl dX4_digestFrom_103 ?_
      obtain ⟨hg, hw⟩ := hw
      refine v_iald (pc := 105) C 5 rfl hg rfl dX4_digestFrom_105 ?_
      refine v_i2l (pc := 106) C dX4_digestFrom_106 ?_
      refine v_ladd (pc := 107) C dX4_digestFrom_107 ?_
      refine v_topl (fun x3_7 ex => ?_)
      have hw := hw x3_7 ex
      refine v_lstore_n (pc := 108) C [(3, .long x3_7), (0, .ref (a 0)), (6, .int x6)] rfl rfl (by decide) dX4_digestFrom_108 ?_
      refine v_ldc2 (pc := 109) C 31 wlX4_89 dX4_digestFrom_109 ?_
      refine v_lload_n (pc := 112) C 0 rfl rfl dX4_digestFrom_112 ?_
      refine v_lmul (pc := 113) C dX4_digestFrom_113 ?_
      refine v_aload_n (pc := 114) C 1 rfl rfl dX4_digestFrom_114 ?_
      refine v_get (pc := 115) C cfX4 rfl 0 8 rfl (by decide) wfX4_37 rfl dX4_digestFrom_115 ?_
      refine v_iload (pc := 118) C 2 rfl dX4_digestFrom_118 ?_
      obtain ⟨hg, hw⟩ := hw
      refine v_iald (pc := 120) C 6 rfl hg rfl dX4_digestFrom_120 ?_
      refine v_i2l (pc := 121) C dX4_digestFrom_121 ?_
      refine v_ladd (pc := 122) C dX4_digestFrom_122 ?_
      refine v_topl (fun x3_8 ex => ?_)
      have hw := hw x3_8 ex
      refine v_lstore_n (pc := 123) C [(3, .long x3_8), (0, .ref (a 0)), (6, .int x6)] rfl rfl (by decide) dX4_digestFrom_123 ?_
      obtain ⟨x6_9, ex⟩ : ∃ y : Int32, y = x6 + 1 := ⟨_, rfl⟩
      have hw := hw x6_9 ex
      refine v_iinc (pc := 124) C 2 rfl (by rw [ex, ki_1]) [(6, .int x6_9), (3, .long x3_8), (0, .ref (a 0))] rfl (by decide) dX4_digestFrom_124 ?_
      refine v_goto (pc := 127) C 53 (by decide) dX4_digestFrom_127 ?_
      refine v_sub (lv' := [(0, .ref (a 0)), (3, .long x3_8), (6, .int x6_9)]) [2, 1, 0] rfl ?_
      exact hself x3_8 x6_9 hw
set_option maxHeartbeats 4000000 in
set_option maxRecDepth 100000 in
theorem vlX4_digestFrom_133 (C : VC pr s m args meth c E A cX4_digestFrom 7 (some .long) RX4) (hA : va_A w0 s.heap.size = A) (a : Nat → Nat) (p : St) {Post : Int64 → Prop} {KX : Int64 → Prop} (hX : ∀ (x3 : Int64), KX x3 → V pr l e rmX4_digestFrom s m args below meth c E A 7 0 0 (MQ below (CQl E (fun (z : Int64) (_ : Unit) => Post z) (fun _ => (fl [bPad E a p])) w0 s.heap.size) args s 0 0 A) (fl [bPad E a p]) 163 [(3, .long x3)] []) : ∀ (n : Nat) (x3 : Int64) (x6 : Int32), wLX4_digestFrom_133 p Post KX n (x3, x6) → V pr l e rmX4_digestFrom s m args below meth c E A 7 0 0 (MQ below (CQl E (fun (z : Int64) (_ : Unit) => Post z) (fun _ => (fl [bPad E a p])) w0 s.heap.size) args s 0 0 A) (fl [bPad E a p]) 133 [(0, .ref (a 0)), (3, .long x3), (6, .int x6)] [] := by
  intro n
  induction n with
  | zero => intro x3 x6 hw; exact absurd hw id
  | succ n hself =>
    intro x3 x6 hw
    have hw : wlX4_digestFrom_133 p Post KX (wLX4_digestFrom_133 p Post KX n) x3 x6 := hw
    refine v_iload (pc := 133) C 2 rfl dX4_digestFrom_133 ?_
    refine v_aload_n (pc := 135) C 0 rfl rfl dX4_digestFrom_135 ?_
    refine v_get (pc := 136) C cfX4 rfl 0 11 rfl (by decide) wfX4_46 rfl dX4_digestFrom_136 ?_
    refine v_icmp_ge (pc := 139) C 163 (by decide) dX4_digestFrom_139 (fun hc => ?_) (fun hc => ?_)
    · have hw := hw.1 hc
      refine v_sub (lv' := [(3, .long x3)]) [1] rfl ?_
      exact hX x3 hw
    · have hw := hw.2 hc
      refine v_ldc2 (pc := 142) C 31 wlX4_89 dX4_digestFrom_142 ?_
      refine v_lload_n (pc := 145) C 1 rfl rfl dX4_digestFrom_145 ?_
      refine v_lmul (pc := 146) C dX4_digestFrom_146 ?_
      refine v_aload_n (pc := 147) C 0 rfl rfl dX4_digestFrom_147 ?_
      refine v_get (pc := 148) C cfX4 rfl 0 10 rfl (by decide) wfX4_43 rfl dX4_digestFrom_148 ?_
      refine v_iload (pc := 151) C 2 rfl dX4_digestFrom_151 ?_
      obtain ⟨hg, hw⟩ := hw
      refine v_iald (pc := 153) C 8 rfl hg rfl dX4_digestFrom_153 ?_
      refine v_i2l (pc := 154) C dX4_digestFrom_154 ?_
      refine v_ladd (pc := 155) C dX4_digestFrom_155 ?_
      refine v_topl (fun x3_11 ex => ?_)
      have hw := hw x3_11 ex
      refine v_lstore_n (pc := 156) C [(3, .long x3_11), (0, .ref (a 0)), (6, .int x6)] rfl rfl (by decide) dX4_digestFrom_156 ?_
      obtain ⟨x6_12, ex⟩ : ∃ y : Int32, y = x6 + 1 := ⟨_, rfl⟩
      have hw := hw x6_12 ex
      refine v_iinc (pc := 157) C 2 rfl (by rw [ex, ki_1]) [(6, .int x6_12), (3, .long x3_11), (0, .ref (a 0))] rfl (by decide) dX4_digestFrom_157 ?_
      refine v_goto (pc := 160) C 133 (by decide) dX4_digestFrom_160 ?_
      refine v_sub (lv' := [(0, .ref (a 0)), (3, .long x3_11), (6, .int x6_12)]) [2, 1, 0] rfl ?_
      exact hself x3_11 x6_12 hw
set_option maxHeartbeats 4000000 in
set_option maxRecDepth 100000 in
theorem ctX4_digestFrom (l : Launch) (E : VE) (a : Nat → Nat) (x1 : Int64) (p : St)  {Post : Int64 → Prop} (hw : wpX4_digestFrom x1 p Post) (sz : Nat) : Met l yX4_digestFrom (mW yX4_digestFrom cX4_digestFrom 7 (some .long)) rmX4_digestFrom (CPre E [.ref (a 0), .long x1] sz (fl [bPad E a p])) (CQl E (fun (z : Int64) (_ : Unit) => Post z) (fun _ => (fl [bPad E a p])) (fl [bPad E a p]) sz) 0 0 (va_A (fl [bPad E a p]) sz) := by
  refine v_met (by decide) (Nat.le_of_ble_eq_true rfl) ?_
  intro pr e s m below meth c A hsz hA C
  subst hsz
  refine v_lload_n (pc := 0) C 1 rfl rfl dX4_digestFrom_0 ?_
  refine v_lstore_n (pc := 1) C [(3, .long x1), (0, .ref (a 0)), (1, .long x1)] rfl rfl (by decide) dX4_digestFrom_1 ?_
  refine v_aload_n (pc := 2) C 1 rfl rfl dX4_digestFrom_2 ?_
  refine v_get (pc := 3) C cfX4 rfl 0 3 rfl (by decide) wfX4_22 rfl dX4_digestFrom_3 ?_
  refine v_iconst (pc := 6) C 0 ki_0 dX4_digestFrom_6 ?_
  refine v_goBi (pc := 7) C (bs := [bPad E a p]) (cs := []) (cs' := (fun (_ : Unit) => [])) (bs' := (fun (_ : Unit) => [bPad E a p])) (w' := (fun (_ : Unit) => (fl [bPad E a p]))) [] rfl rfl (fun _ => rfl) (fun _ => rfl) (fun _ => rfl) (v_runSB (pc := 7) C [.int (p.I 3), .int 0] [] (fun sz => ctX4_placeOf l E (p.I 3) 0 hw sz) [] rfl rfl rfl mfX4_placeOf msX4_placeOf wmX4_55 rfl ⟨Nat.le_of_ble_eq_true rfl, Nat.le_of_ble_eq_true rfl⟩ ⟨rfl, rfl⟩ rfl (Nat.le_of_ble_eq_true rfl) ⟨Nat.zero_le _, Nat.zero_le _⟩ dX4_digestFrom_7) (fun r1 _ hw => ?_)
  refine v_istore (pc := 10) C [(5, .int r1), (3, .long x1), (0, .ref (a 0)), (1, .long x1)] rfl (by decide) dX4_digestFrom_10 ?_
  refine v_iconst (pc := 12) C 2 ki_2 dX4_digestFrom_12 ?_
  refine v_istore (pc := 13) C [(6, .int 2), (5, .int r1), (3, .long x1), (0, .ref (a 0)), (1, .long x1)] rfl (by decide) dX4_digestFrom_13 ?_
  obtain ⟨n, hw⟩ := hw
  refine v_sub (lv' := [(0, .ref (a 0)), (3, .long x1), (5, .int r1), (6, .int 2)]) [3, 2, 1, 0] rfl ?_
  refine vlX4_digestFrom_15 C hA a p (fun y4 hw => ?_) n x1 r1 2 hw
  refine v_iconst (pc := 50) C 0 ki_0 dX4_digestFrom_50 ?_
  refine v_istore (pc := 51) C [(6, .int 0), (0, .ref (a 0)), (3, .long y4)] rfl (by decide) dX4_digestFrom_51 ?_
  obtain ⟨n, hw⟩ := hw
  refine v_sub (lv' := [(0, .ref (a 0)), (3, .long y4), (6, .int 0)]) [1, 2, 0] rfl ?_
  refine vlX4_digestFrom_53 C hA a p (fun y10 hw => ?_) n y4 0 hw
  refine v_iconst (pc := 130) C 0 ki_0 dX4_digestFrom_130 ?_
  refine v_istore (pc := 131) C [(6, .int 0), (0, .ref (a 0)), (3, .long y10)] rfl (by decide) dX4_digestFrom_131 ?_
  obtain ⟨n, hw⟩ := hw
  refine v_sub (lv' := [(0, .ref (a 0)), (3, .long y10), (6, .int 0)]) [1, 2, 0] rfl ?_
  refine vlX4_digestFrom_133 C hA a p (fun y13 hw => ?_) n y10 0 hw
  refine v_lload_n (pc := 163) C 0 rfl rfl dX4_digestFrom_163 ?_
  exact v_lret (pc := 164) C () hA rfl hw dX4_digestFrom_164
set_option maxHeartbeats 4000000 in
set_option maxRecDepth 100000 in
theorem ctX7_fault (l : Launch) (E : VE) (a : Nat → Nat)  (p : St)  {Post : Int32 → Prop} (hw : wpX7_fault p Post) (sz : Nat) : Met l yX7_fault (mW yX7_fault cX7_fault 1 (some .int)) rmX7_fault (CPre E [.ref (a 0)] sz (fl [bReader E a p])) (CQi E (fun (z : Int32) (_ : Unit) => Post z) (fun _ => (fl [bReader E a p])) (fl [bReader E a p]) sz) 0 0 (va_A (fl [bReader E a p]) sz) := by
  refine v_met (by decide) (Nat.le_of_ble_eq_true rfl) ?_
  intro pr e s m below meth c A hsz hA C
  subst hsz
  refine v_aload_n (pc := 0) C 0 rfl rfl dX7_fault_0 ?_
  refine v_get (pc := 1) C cfX7 rfl 0 4 rfl (by decide) wfX7_25 rfl dX7_fault_1 ?_
  exact v_ireti (pc := 4) C () hA rfl hw dX7_fault_4
set_option maxHeartbeats 4000000 in
set_option maxRecDepth 100000 in
theorem ctX7_isWithin (l : Launch) (E : VE) (a : Nat → Nat) (x1 : Int32) (x2 : Int32) (x3 : Int32) (p : St)  {Post : Int32 → Prop} (hw : wpX7_isWithin x1 x2 x3 p Post) (sz : Nat) : Met l yX7_isWithin (mW yX7_isWithin cX7_isWithin 4 (some .boolean)) rmX7_isWithin (CPre E [.ref (a 0), .int x1, .int x2, .int x3] sz (fl [bReader E a p])) (CQi E (fun (z : Int32) (_ : Unit) => Post z) (fun _ => (fl [bReader E a p])) (fl [bReader E a p]) sz) 0 0 (va_A (fl [bReader E a p]) sz) := by
  refine v_met (by decide) (Nat.le_of_ble_eq_true rfl) ?_
  intro pr e s m below meth c A hsz hA C
  subst hsz
  refine v_iload_n (pc := 0) C 1 rfl rfl dX7_isWithin_0 ?_
  refine v_if_lt (pc := 1) C 36 (by decide) dX7_isWithin_1 (fun hc => ?_) (fun hc => ?_)
  · have hw := hw.1 hc
    refine v_iconst (pc := 36) C 0 ki_0 dX7_isWithin_36 ?_
    exact v_iretz (pc := 37) C rfl () hA rfl hw dX7_isWithin_37
  · have hw := hw.2 hc
    refine v_iload_n (pc := 4) C 1 rfl rfl dX7_isWithin_4 ?_
    refine v_aload_n (pc := 5) C 0 rfl rfl dX7_isWithin_5 ?_
    refine v_get (pc := 6) C cfX7 rfl 0 1 rfl (by decide) wfX7_15 rfl dX7_isWithin_6 ?_
    refine v_icmp_ge (pc := 9) C 36 (by decide) dX7_isWithin_9 (fun hc => ?_) (fun hc => ?_)
    · have hw := hw.1 hc
      refine v_iconst (pc := 36) C 0 ki_0 dX7_isWithin_36 ?_
      exact v_iretz (pc := 37) C rfl () hA rfl hw dX7_isWithin_37
    · have hw := hw.2 hc
      refine v_aload_n (pc := 12) C 0 rfl rfl dX7_isWithin_12 ?_
      refine v_get (pc := 13) C cfX7 rfl 0 0 rfl (by decide) wfX7_9 rfl dX7_isWithin_13 ?_
      refine v_iload_n (pc := 16) C 1 rfl rfl dX7_isWithin_16 ?_
      obtain ⟨hg, hw⟩ := hw
      refine v_iald (pc := 17) C 1 rfl hg rfl dX7_isWithin_17 ?_
      refine v_iload_n (pc := 18) C 2 rfl rfl dX7_isWithin_18 ?_
      refine v_icmp_lt (pc := 19) C 36 (by decide) dX7_isWithin_19 (fun hc => ?_) (fun hc => ?_)
      · have hw := hw.1 hc
        refine v_iconst (pc := 36) C 0 ki_0 dX7_isWithin_36 ?_
        exact v_iretz (pc := 37) C rfl () hA rfl hw dX7_isWithin_37
      · have hw := hw.2 hc
        refine v_aload_n (pc := 22) C 0 rfl rfl dX7_isWithin_22 ?_
        refine v_get (pc := 23) C cfX7 rfl 0 0 rfl (by decide) wfX7_9 rfl dX7_isWithin_23 ?_
        refine v_iload_n (pc := 26) C 1 rfl rfl dX7_isWithin_26 ?_
        obtain ⟨hg, hw⟩ := hw
        refine v_iald (pc := 27) C 1 rfl hg rfl dX7_isWithin_27 ?_
        refine v_iload_n (pc := 28) C 3 rfl rfl dX7_isWithin_28 ?_
        refine v_icmp_gt (pc := 29) C 36 (by decide) dX7_isWithin_29 (fun hc => ?_) (fun hc => ?_)
        · have hw := hw.1 hc
          refine v_iconst (pc := 36) C 0 ki_0 dX7_isWithin_36 ?_
          exact v_iretz (pc := 37) C rfl () hA rfl hw dX7_isWithin_37
        · have hw := hw.2 hc
          refine v_iconst (pc := 32) C 1 ki_1 dX7_isWithin_32 ?_
          refine v_goto (pc := 33) C 37 (by decide) dX7_isWithin_33 ?_
          exact v_iretz (pc := 37) C rfl () hA rfl hw dX7_isWithin_37
set_option maxHeartbeats 4000000 in
set_option maxRecDepth 100000 in
theorem vlX7_passWord_5 (C : VC pr s m args meth c E A cX7_passWord 1 none RX7) (hA : va_A w0 s.heap.size = A) (a : Nat → Nat)  {Post : St → Prop} {KX : St → Prop} (hX : ∀ (p : St), KX p → V pr l e rmX7_passWord s m args below meth c E A 1 0 0 (MQ below (CQv E Post (fun u => (fl [bReader E a u])) w0 s.heap.size) args s 0 0 A) (fl [bReader E a p]) 44 [] []) : ∀ (n : Nat) (p : St), wLX7_passWord_5  Post KX n p → V pr l e rmX7_passWord s m args below meth c E A 1 0 0 (MQ below (CQv E Post (fun u => (fl [bReader E a u])) w0 s.heap.size) args s 0 0 A) (fl [bReader E a p]) 5 [(0, .ref (a 0))] [] := by
  intro n
  induction n with
  | zero => intro p hw; exact absurd hw id
  | succ n hself =>
    intro p hw
    have hw : wlX7_passWord_5  Post KX (wLX7_passWord_5  Post KX n) p := hw
    refine v_aload_n (pc := 5) C 0 rfl rfl dX7_passWord_5 ?_
    refine v_get (pc := 6) C cfX7 rfl 0 2 rfl (by decide) wfX7_19 rfl dX7_passWord_6 ?_
    refine v_aload_n (pc := 9) C 0 rfl rfl dX7_passWord_9 ?_
    refine v_get (pc := 10) C cfX7 rfl 0 1 rfl (by decide) wfX7_15 rfl dX7_passWord_10 ?_
    refine v_icmp_ge (pc := 13) C 44 (by decide) dX7_passWord_13 (fun hc => ?_) (fun hc => ?_)
    · have hw := hw.1 hc
      refine v_sub (lv' := []) [] rfl ?_
      exact hX p hw
    · have hw := hw.2 hc
      refine v_aload_n (pc := 16) C 0 rfl rfl dX7_passWord_16 ?_
      refine v_aload_n (pc := 17) C 0 rfl rfl dX7_passWord_17 ?_
      refine v_get (pc := 18) C cfX7 rfl 0 2 rfl (by decide) wfX7_19 rfl dX7_passWord_18 ?_
      refine v_bipush (pc := 21) C 97 kb_97 dX7_passWord_21 ?_
      refine v_bipush (pc := 23) C 122 kb_122 dX7_passWord_23 ?_
      refine v_goAi (pc := 25) C (wc' := (fun (_ : Unit) => (fl [bReader E a p]))) (fun _ => rfl) (v_runVA (pc := 25) C [.int (p.I 2), .int 97, .int 122] [] (fun sz => ctX7_isWithin l E a (p.I 2) 97 122 p hw sz) mfX7_isWithin mvX7_isWithin wmX7_111 rfl ⟨Nat.le_of_ble_eq_true rfl, Nat.le_of_ble_eq_true rfl⟩ ⟨rfl, rfl⟩ 0 (ci := 7) (qc := (RX7, TX7, 8)) rfl rfl rfl rfl (Nat.le_of_ble_eq_true rfl) ⟨Nat.zero_le _, Nat.zero_le _⟩ dX7_passWord_25) (fun r2 _ hw => ?_)
      refine v_if_eq (pc := 28) C 44 (by decide) dX7_passWord_28 (fun hc => ?_) (fun hc => ?_)
      · have hw := hw.1 hc
        refine v_sub (lv' := []) [] rfl ?_
        exact hX p hw
      · have hw := hw.2 hc
        refine v_aload_n (pc := 31) C 0 rfl rfl dX7_passWord_31 ?_
        refine v_dup (pc := 32) C rfl dX7_passWord_32 ?_
        refine v_get (pc := 33) C cfX7 rfl 0 2 rfl (by decide) wfX7_19 rfl dX7_passWord_33 ?_
        refine v_iconst (pc := 36) C 1 ki_1 dX7_passWord_36 ?_
        refine v_iadd (pc := 37) C dX7_passWord_37 ?_
        obtain ⟨p3, es⟩ : ∃ y : St, y = p.sI 2 ((p.I 2) + 1) := ⟨_, rfl⟩
        have hw := hw p3 es
        refine v_put (pc := 38) C cfX7 rfl 0 2 (ty := .int) (w' := (fl [bReader E a p3])) rfl (by subst es; rfl) (by decide) wfX7_19 rfl rfl rfl rfl (Nat.le_of_ble_eq_true rfl) dX7_passWord_38 ?_
        refine v_goto (pc := 41) C 5 (by decide) dX7_passWord_41 ?_
        refine v_sub (lv' := [(0, .ref (a 0))]) [0] rfl ?_
        exact hself p3 hw
set_option maxHeartbeats 4000000 in
set_option maxRecDepth 100000 in
theorem ctX7_passWord (l : Launch) (E : VE) (a : Nat → Nat)  (p : St)  {Post : St → Prop} (hw : wpX7_passWord p Post) (sz : Nat) : Met l yX7_passWord (mW yX7_passWord cX7_passWord 1 none) rmX7_passWord (CPre E [.ref (a 0)] sz (fl [bReader E a p])) (CQv E Post (fun u => (fl [bReader E a u])) (fl [bReader E a p]) sz) 0 0 (va_A (fl [bReader E a p]) sz) := by
  refine v_met (by decide) (Nat.le_of_ble_eq_true rfl) ?_
  intro pr e s m below meth c A hsz hA C
  subst hsz
  refine v_aload_n (pc := 0) C 0 rfl rfl dX7_passWord_0 ?_
  refine v_iconst (pc := 1) C 1 ki_1 dX7_passWord_1 ?_
  obtain ⟨p1, es⟩ : ∃ y : St, y = p.sI 3 1 := ⟨_, rfl⟩
  have hw := hw p1 es
  refine v_put (pc := 2) C cfX7 rfl 0 3 (ty := .int) (w' := (fl [bReader E a p1])) rfl (by subst es; rfl) (by decide) wfX7_22 rfl rfl rfl rfl (Nat.le_of_ble_eq_true rfl) dX7_passWord_2 ?_
  obtain ⟨n, hw⟩ := hw
  refine v_sub (lv' := [(0, .ref (a 0))]) [0] rfl ?_
  refine vlX7_passWord_5 C hA a  (fun p4 hw => ?_) n p1 hw
  exact v_vret (pc := 44) C p4 hA rfl hw dX7_passWord_44
set_option maxHeartbeats 4000000 in
set_option maxRecDepth 100000 in
theorem vjX7_passFigures_72 (C : VC pr s m args meth c E A cX7_passFigures 1 none RX7) (hA : va_A w0 s.heap.size = A) (a : Nat → Nat)  {Post : St → Prop} {self : (St) → Prop} {KX : St → Prop} (z0 : Int32) (p : St) (hw : wjX7_passFigures_72  Post self KX z0 p) (hself : ∀ (p : St), self p → V pr l e rmX7_passFigures s m args below meth c E A 1 0 0 (MQ below (CQv E Post (fun u => (fl [bReader E a u])) w0 s.heap.size) args s 0 0 A) (fl [bReader E a p]) 5 [(0, .ref (a 0))] []) (hX : ∀ (p : St), KX p → V pr l e rmX7_passFigures s m args below meth c E A 1 0 0 (MQ below (CQv E Post (fun u => (fl [bReader E a u])) w0 s.heap.size) args s 0 0 A) (fl [bReader E a p]) 88 [(0, .ref (a 0))] []) : V pr l e rmX7_passFigures s m args below meth c E A 1 0 0 (MQ below (CQv E Post (fun u => (fl [bReader E a u])) w0 s.heap.size) args s 0 0 A) (fl [bReader E a p]) 72 [(0, .ref (a 0))] [.int z0, .ref (a 0)] := by
  obtain ⟨p3, es⟩ : ∃ y : St, y = p.sI 5 z0 := ⟨_, rfl⟩
  have hw := hw p3 es
  refine v_put (pc := 72) C cfX7 rfl 0 5 (ty := .int) (w' := (fl [bReader E a p3])) rfl (by subst es; rfl) (by decide) wfX7_28 rfl rfl rfl rfl (Nat.le_of_ble_eq_true rfl) dX7_passFigures_72 ?_
  refine v_aload_n (pc := 75) C 0 rfl rfl dX7_passFigures_75 ?_
  refine v_dup (pc := 76) C rfl dX7_passFigures_76 ?_
  refine v_get (pc := 77) C cfX7 rfl 0 2 rfl (by decide) wfX7_19 rfl dX7_passFigures_77 ?_
  refine v_iconst (pc := 80) C 1 ki_1 dX7_passFigures_80 ?_
  refine v_iadd (pc := 81) C dX7_passFigures_81 ?_
  obtain ⟨p4, es⟩ : ∃ y : St, y = p3.sI 2 ((p3.I 2) + 1) := ⟨_, rfl⟩
  have hw := hw p4 es
  refine v_put (pc := 82) C cfX7 rfl 0 2 (ty := .int) (w' := (fl [bReader E a p4])) rfl (by subst es; rfl) (by decide) wfX7_19 rfl rfl rfl rfl (Nat.le_of_ble_eq_true rfl) dX7_passFigures_82 ?_
  refine v_goto (pc := 85) C 5 (by decide) dX7_passFigures_85 ?_
  refine v_sub (lv' := [(0, .ref (a 0))]) [0] rfl ?_
  exact hself p4 hw
set_option maxHeartbeats 4000000 in
set_option maxRecDepth 100000 in
theorem vlX7_passFigures_5 (C : VC pr s m args meth c E A cX7_passFigures 1 none RX7) (hA : va_A w0 s.heap.size = A) (a : Nat → Nat)  {Post : St → Prop} {KX : St → Prop} (hX : ∀ (p : St), KX p → V pr l e rmX7_passFigures s m args below meth c E A 1 0 0 (MQ below (CQv E Post (fun u => (fl [bReader E a u])) w0 s.heap.size) args s 0 0 A) (fl [bReader E a p]) 88 [(0, .ref (a 0))] []) : ∀ (n : Nat) (p : St), wLX7_passFigures_5  Post KX n p → V pr l e rmX7_passFigures s m args below meth c E A 1 0 0 (MQ below (CQv E Post (fun u => (fl [bReader E a u])) w0 s.heap.size) args s 0 0 A) (fl [bReader E a p]) 5 [(0, .ref (a 0))] [] := by
  intro n
  induction n with
  | zero => intro p hw; exact absurd hw id
  | succ n hself =>
    intro p hw
    have hw : wlX7_passFigures_5  Post KX (wLX7_passFigures_5  Post KX n) p := hw
    refine v_aload_n (pc := 5) C 0 rfl rfl dX7_passFigures_5 ?_
    refine v_get (pc := 6) C cfX7 rfl 0 2 rfl (by decide) wfX7_19 rfl dX7_passFigures_6 ?_
    refine v_aload_n (pc := 9) C 0 rfl rfl dX7_passFigures_9 ?_
    refine v_get (pc := 10) C cfX7 rfl 0 1 rfl (by decide) wfX7_15 rfl dX7_passFigures_10 ?_
    refine v_icmp_ge (pc := 13) C 88 (by decide) dX7_passFigures_13 (fun hc => ?_) (fun hc => ?_)
    · have hw := hw.1 hc
      refine v_sub (lv' := [(0, .ref (a 0))]) [0] rfl ?_
      exact hX p hw
    · have hw := hw.2 hc
      refine v_aload_n (pc := 16) C 0 rfl rfl dX7_passFigures_16 ?_
      refine v_aload_n (pc := 17) C 0 rfl rfl dX7_passFigures_17 ?_
      refine v_get (pc := 18) C cfX7 rfl 0 2 rfl (by decide) wfX7_19 rfl dX7_passFigures_18 ?_
      refine v_bipush (pc := 21) C 48 kb_48 dX7_passFigures_21 ?_
      refine v_bipush (pc := 23) C 57 kb_57 dX7_passFigures_23 ?_
      refine v_goAi (pc := 25) C (wc' := (fun (_ : Unit) => (fl [bReader E a p]))) (fun _ => rfl) (v_runVA (pc := 25) C [.int (p.I 2), .int 48, .int 57] [] (fun sz => ctX7_isWithin l E a (p.I 2) 48 57 p hw sz) mfX7_isWithin mvX7_isWithin wmX7_111 rfl ⟨Nat.le_of_ble_eq_true rfl, Nat.le_of_ble_eq_true rfl⟩ ⟨rfl, rfl⟩ 0 (ci := 7) (qc := (RX7, TX7, 8)) rfl rfl rfl rfl (Nat.le_of_ble_eq_true rfl) ⟨Nat.zero_le _, Nat.zero_le _⟩ dX7_passFigures_25) (fun r2 _ hw => ?_)
      refine v_if_eq (pc := 28) C 88 (by decide) dX7_passFigures_28 (fun hc => ?_) (fun hc => ?_)
      · have hw := hw.1 hc
        refine v_sub (lv' := [(0, .ref (a 0))]) [0] rfl ?_
        exact hX p hw
      · have hw := hw.2 hc
        refine v_aload_n (pc := 31) C 0 rfl rfl dX7_passFigures_31 ?_
        refine v_aload_n (pc := 32) C 0 rfl rfl dX7_passFigures_32 ?_
        refine v_get (pc := 33) C cfX7 rfl 0 2 rfl (by decide) wfX7_19 rfl dX7_passFigures_33 ?_
        refine v_aload_n (pc := 36) C 0 rfl rfl dX7_passFigures_36 ?_
        refine v_get (pc := 37) C cfX7 rfl 0 4 rfl (by decide) wfX7_25 rfl dX7_passFigures_37 ?_
        refine v_isub (pc := 40) C dX7_passFigures_40 ?_
        refine v_iconst (pc := 41) C 2 ki_2 dX7_passFigures_41 ?_
        refine v_icmp_ge (pc := 42) C 68 (by decide) dX7_passFigures_42 (fun hc => ?_) (fun hc => ?_)
        · have hw := hw.1 hc
          refine v_aload_n (pc := 68) C 0 rfl rfl dX7_passFigures_68 ?_
          refine v_get (pc := 69) C cfX7 rfl 0 5 rfl (by decide) wfX7_28 rfl dX7_passFigures_69 ?_
          refine v_sub (lv' := [(0, .ref (a 0))]) [0] rfl ?_
          exact vjX7_passFigures_72 C hA a  (p.I 5) p hw hself hX
        · have hw := hw.2 hc
          refine v_bipush (pc := 45) C 10 kb_10 dX7_passFigures_45 ?_
          refine v_aload_n (pc := 47) C 0 rfl rfl dX7_passFigures_47 ?_
          refine v_get (pc := 48) C cfX7 rfl 0 5 rfl (by decide) wfX7_28 rfl dX7_passFigures_48 ?_
          refine v_imul (pc := 51) C dX7_passFigures_51 ?_
          refine v_aload_n (pc := 52) C 0 rfl rfl dX7_passFigures_52 ?_
          refine v_get (pc := 53) C cfX7 rfl 0 0 rfl (by decide) wfX7_9 rfl dX7_passFigures_53 ?_
          refine v_aload_n (pc := 56) C 0 rfl rfl dX7_passFigures_56 ?_
          refine v_get (pc := 57) C cfX7 rfl 0 2 rfl (by decide) wfX7_19 rfl dX7_passFigures_57 ?_
          obtain ⟨hg, hw⟩ := hw
          refine v_iald (pc := 60) C 1 rfl hg rfl dX7_passFigures_60 ?_
          refine v_iadd (pc := 61) C dX7_passFigures_61 ?_
          refine v_bipush (pc := 62) C 48 kb_48 dX7_passFigures_62 ?_
          refine v_isub (pc := 64) C dX7_passFigures_64 ?_
          refine v_goto (pc := 65) C 72 (by decide) dX7_passFigures_65 ?_
          refine v_sub (lv' := [(0, .ref (a 0))]) [0] rfl ?_
          exact vjX7_passFigures_72 C hA a  ((((10 : Int32) * (p.I 5)) + ((p.A 0) (p.I 2).toNatClampNeg)) - 48) p hw hself hX
set_option maxHeartbeats 4000000 in
set_option maxRecDepth 100000 in
theorem vjX7_passFigures_107 (C : VC pr s m args meth c E A cX7_passFigures 1 none RX7) (hA : va_A w0 s.heap.size = A) (a : Nat → Nat)  {Post : St → Prop} (z0 : Int32) (p : St) (hw : wjX7_passFigures_107  Post z0 p) : V pr l e rmX7_passFigures s m args below meth c E A 1 0 0 (MQ below (CQv E Post (fun u => (fl [bReader E a u])) w0 s.heap.size) args s 0 0 A) (fl [bReader E a p]) 107 [] [.int z0, .ref (a 0)] := by
  obtain ⟨p6, es⟩ : ∃ y : St, y = p.sI 3 z0 := ⟨_, rfl⟩
  have hw := hw p6 es
  refine v_put (pc := 107) C cfX7 rfl 0 3 (ty := .int) (w' := (fl [bReader E a p6])) rfl (by subst es; rfl) (by decide) wfX7_22 rfl rfl rfl rfl (Nat.le_of_ble_eq_true rfl) dX7_passFigures_107 ?_
  exact v_vret (pc := 110) C p6 hA rfl hw dX7_passFigures_110
set_option maxHeartbeats 4000000 in
set_option maxRecDepth 100000 in
theorem vjX7_passFigures_88 (C : VC pr s m args meth c E A cX7_passFigures 1 none RX7) (hA : va_A w0 s.heap.size = A) (a : Nat → Nat)  {Post : St → Prop} (p : St) (hw : wjX7_passFigures_88  Post p) : V pr l e rmX7_passFigures s m args below meth c E A 1 0 0 (MQ below (CQv E Post (fun u => (fl [bReader E a u])) w0 s.heap.size) args s 0 0 A) (fl [bReader E a p]) 88 [(0, .ref (a 0))] [] := by
  refine v_aload_n (pc := 88) C 0 rfl rfl dX7_passFigures_88 ?_
  refine v_aload_n (pc := 89) C 0 rfl rfl dX7_passFigures_89 ?_
  refine v_get (pc := 90) C cfX7 rfl 0 2 rfl (by decide) wfX7_19 rfl dX7_passFigures_90 ?_
  refine v_aload_n (pc := 93) C 0 rfl rfl dX7_passFigures_93 ?_
  refine v_get (pc := 94) C cfX7 rfl 0 4 rfl (by decide) wfX7_25 rfl dX7_passFigures_94 ?_
  refine v_isub (pc := 97) C dX7_passFigures_97 ?_
  refine v_iconst (pc := 98) C 2 ki_2 dX7_passFigures_98 ?_
  refine v_icmp_le (pc := 99) C 106 (by decide) dX7_passFigures_99 (fun hc => ?_) (fun hc => ?_)
  · have hw := hw.1 hc
    refine v_iconst (pc := 106) C 2 ki_2 dX7_passFigures_106 ?_
    refine v_sub (lv' := []) [] rfl ?_
    exact vjX7_passFigures_107 C hA a  2 p hw
  · have hw := hw.2 hc
    refine v_iconst (pc := 102) C 4 ki_4 dX7_passFigures_102 ?_
    refine v_goto (pc := 103) C 107 (by decide) dX7_passFigures_103 ?_
    refine v_sub (lv' := []) [] rfl ?_
    exact vjX7_passFigures_107 C hA a  4 p hw
set_option maxHeartbeats 4000000 in
set_option maxRecDepth 100000 in
theorem ctX7_passFigures (l : Launch) (E : VE) (a : Nat → Nat)  (p : St)  {Post : St → Prop} (hw : wpX7_passFigures p Post) (sz : Nat) : Met l yX7_passFigures (mW yX7_passFigures cX7_passFigures 1 none) rmX7_passFigures (CPre E [.ref (a 0)] sz (fl [bReader E a p])) (CQv E Post (fun u => (fl [bReader E a u])) (fl [bReader E a p]) sz) 0 0 (va_A (fl [bReader E a p]) sz) := by
  refine v_met (by decide) (Nat.le_of_ble_eq_true rfl) ?_
  intro pr e s m below meth c A hsz hA C
  subst hsz
  refine v_aload_n (pc := 0) C 0 rfl rfl dX7_passFigures_0 ?_
  refine v_iconst (pc := 1) C 0 ki_0 dX7_passFigures_1 ?_
  obtain ⟨p1, es⟩ : ∃ y : St, y = p.sI 5 0 := ⟨_, rfl⟩
  have hw := hw p1 es
  refine v_put (pc := 2) C cfX7 rfl 0 5 (ty := .int) (w' := (fl [bReader E a p1])) rfl (by subst es; rfl) (by decide) wfX7_28 rfl rfl rfl rfl (Nat.le_of_ble_eq_true rfl) dX7_passFigures_2 ?_
  obtain ⟨n, hw⟩ := hw
  refine v_sub (lv' := [(0, .ref (a 0))]) [0] rfl ?_
  refine vlX7_passFigures_5 C hA a  (fun p5 hw => ?_) n p1 hw
  refine v_sub (lv' := [(0, .ref (a 0))]) [0] rfl ?_
  exact vjX7_passFigures_88 C hA a  p5 hw
set_option maxHeartbeats 4000000 in
set_option maxRecDepth 100000 in
theorem vlX7_step_0 (C : VC pr s m args meth c E A cX7_step 1 none RX7) (hA : va_A w0 s.heap.size = A) (a : Nat → Nat)  {Post : St → Prop} {KX : St → Prop} (hX : ∀ (p : St), KX p → V pr l e rmX7_step s m args below meth c E A 1 0 0 (MQ below (CQv E Post (fun u => (fl [bReader E a u])) w0 s.heap.size) args s 0 0 A) (fl [bReader E a p]) 38 [(0, .ref (a 0))] []) : ∀ (n : Nat) (p : St), wLX7_step_0  Post KX n p → V pr l e rmX7_step s m args below meth c E A 1 0 0 (MQ below (CQv E Post (fun u => (fl [bReader E a u])) w0 s.heap.size) args s 0 0 A) (fl [bReader E a p]) 0 [(0, .ref (a 0))] [] := by
  intro n
  induction n with
  | zero => intro p hw; exact absurd hw id
  | succ n hself =>
    intro p hw
    have hw : wlX7_step_0  Post KX (wLX7_step_0  Post KX n) p := hw
    refine v_aload_n (pc := 0) C 0 rfl rfl dX7_step_0 ?_
    refine v_get (pc := 1) C cfX7 rfl 0 2 rfl (by decide) wfX7_19 rfl dX7_step_1 ?_
    refine v_aload_n (pc := 4) C 0 rfl rfl dX7_step_4 ?_
    refine v_get (pc := 5) C cfX7 rfl 0 1 rfl (by decide) wfX7_15 rfl dX7_step_5 ?_
    refine v_icmp_ge (pc := 8) C 38 (by decide) dX7_step_8 (fun hc => ?_) (fun hc => ?_)
    · have hw := hw.1 hc
      refine v_sub (lv' := [(0, .ref (a 0))]) [0] rfl ?_
      exact hX p hw
    · have hw := hw.2 hc
      refine v_aload_n (pc := 11) C 0 rfl rfl dX7_step_11 ?_
      refine v_get (pc := 12) C cfX7 rfl 0 0 rfl (by decide) wfX7_9 rfl dX7_step_12 ?_
      refine v_aload_n (pc := 15) C 0 rfl rfl dX7_step_15 ?_
      refine v_get (pc := 16) C cfX7 rfl 0 2 rfl (by decide) wfX7_19 rfl dX7_step_16 ?_
      obtain ⟨hg, hw⟩ := hw
      refine v_iald (pc := 19) C 1 rfl hg rfl dX7_step_19 ?_
      refine v_bipush (pc := 20) C 32 kb_32 dX7_step_20 ?_
      refine v_icmp_ne (pc := 22) C 38 (by decide) dX7_step_22 (fun hc => ?_) (fun hc => ?_)
      · have hw := hw.1 hc
        refine v_sub (lv' := [(0, .ref (a 0))]) [0] rfl ?_
        exact hX p hw
      · have hw := hw.2 hc
        refine v_aload_n (pc := 25) C 0 rfl rfl dX7_step_25 ?_
        refine v_dup (pc := 26) C rfl dX7_step_26 ?_
        refine v_get (pc := 27) C cfX7 rfl 0 2 rfl (by decide) wfX7_19 rfl dX7_step_27 ?_
        refine v_iconst (pc := 30) C 1 ki_1 dX7_step_30 ?_
        refine v_iadd (pc := 31) C dX7_step_31 ?_
        obtain ⟨p1, es⟩ : ∃ y : St, y = p.sI 2 ((p.I 2) + 1) := ⟨_, rfl⟩
        have hw := hw p1 es
        refine v_put (pc := 32) C cfX7 rfl 0 2 (ty := .int) (w' := (fl [bReader E a p1])) rfl (by subst es; rfl) (by decide) wfX7_19 rfl rfl rfl rfl (Nat.le_of_ble_eq_true rfl) dX7_step_32 ?_
        refine v_goto (pc := 35) C 0 (by decide) dX7_step_35 ?_
        refine v_sub (lv' := [(0, .ref (a 0))]) [0] rfl ?_
        exact hself p1 hw
set_option maxHeartbeats 4000000 in
set_option maxRecDepth 100000 in
theorem vjX7_step_129 (C : VC pr s m args meth c E A cX7_step 1 none RX7) (hA : va_A w0 s.heap.size = A) (a : Nat → Nat)  {Post : St → Prop} (z0 : Int32) (p : St) (hw : wjX7_step_129  Post z0 p) : V pr l e rmX7_step s m args below meth c E A 1 0 0 (MQ below (CQv E Post (fun u => (fl [bReader E a u])) w0 s.heap.size) args s 0 0 A) (fl [bReader E a p]) 129 [(0, .ref (a 0))] [.int z0, .ref (a 0)] := by
  obtain ⟨p6, es⟩ : ∃ y : St, y = p.sI 3 z0 := ⟨_, rfl⟩
  have hw := hw p6 es
  refine v_put (pc := 129) C cfX7 rfl 0 3 (ty := .int) (w' := (fl [bReader E a p6])) rfl (by subst es; rfl) (by decide) wfX7_22 rfl rfl rfl rfl (Nat.le_of_ble_eq_true rfl) dX7_step_129 ?_
  refine v_aload_n (pc := 132) C 0 rfl rfl dX7_step_132 ?_
  refine v_dup (pc := 133) C rfl dX7_step_133 ?_
  refine v_get (pc := 134) C cfX7 rfl 0 2 rfl (by decide) wfX7_19 rfl dX7_step_134 ?_
  refine v_iconst (pc := 137) C 1 ki_1 dX7_step_137 ?_
  refine v_iadd (pc := 138) C dX7_step_138 ?_
  obtain ⟨p7, es⟩ : ∃ y : St, y = p6.sI 2 ((p6.I 2) + 1) := ⟨_, rfl⟩
  have hw := hw p7 es
  refine v_put (pc := 139) C cfX7 rfl 0 2 (ty := .int) (w' := (fl [bReader E a p7])) rfl (by subst es; rfl) (by decide) wfX7_19 rfl rfl rfl rfl (Nat.le_of_ble_eq_true rfl) dX7_step_139 ?_
  exact v_vret (pc := 142) C p7 hA rfl hw dX7_step_142
set_option maxHeartbeats 4000000 in
set_option maxRecDepth 100000 in
theorem vjX7_step_38 (C : VC pr s m args meth c E A cX7_step 1 none RX7) (hA : va_A w0 s.heap.size = A) (a : Nat → Nat)  {Post : St → Prop} (p : St) (hw : wjX7_step_38  Post p) : V pr l e rmX7_step s m args below meth c E A 1 0 0 (MQ below (CQv E Post (fun u => (fl [bReader E a u])) w0 s.heap.size) args s 0 0 A) (fl [bReader E a p]) 38 [(0, .ref (a 0))] [] := by
  refine v_aload_n (pc := 38) C 0 rfl rfl dX7_step_38 ?_
  refine v_aload_n (pc := 39) C 0 rfl rfl dX7_step_39 ?_
  refine v_get (pc := 40) C cfX7 rfl 0 2 rfl (by decide) wfX7_19 rfl dX7_step_40 ?_
  obtain ⟨p3, es⟩ : ∃ y : St, y = p.sI 4 (p.I 2) := ⟨_, rfl⟩
  have hw := hw p3 es
  refine v_put (pc := 43) C cfX7 rfl 0 4 (ty := .int) (w' := (fl [bReader E a p3])) rfl (by subst es; rfl) (by decide) wfX7_25 rfl rfl rfl rfl (Nat.le_of_ble_eq_true rfl) dX7_step_43 ?_
  refine v_aload_n (pc := 46) C 0 rfl rfl dX7_step_46 ?_
  refine v_get (pc := 47) C cfX7 rfl 0 2 rfl (by decide) wfX7_19 rfl dX7_step_47 ?_
  refine v_aload_n (pc := 50) C 0 rfl rfl dX7_step_50 ?_
  refine v_get (pc := 51) C cfX7 rfl 0 1 rfl (by decide) wfX7_15 rfl dX7_step_51 ?_
  refine v_icmp_lt (pc := 54) C 65 (by decide) dX7_step_54 (fun hc => ?_) (fun hc => ?_)
  · have hw := hw.1 hc
    refine v_aload_n (pc := 65) C 0 rfl rfl dX7_step_65 ?_
    refine v_aload_n (pc := 66) C 0 rfl rfl dX7_step_66 ?_
    refine v_get (pc := 67) C cfX7 rfl 0 2 rfl (by decide) wfX7_19 rfl dX7_step_67 ?_
    refine v_bipush (pc := 70) C 97 kb_97 dX7_step_70 ?_
    refine v_bipush (pc := 72) C 122 kb_122 dX7_step_72 ?_
    refine v_goAi (pc := 74) C (wc' := (fun (_ : Unit) => (fl [bReader E a p3]))) (fun _ => rfl) (v_runVA (pc := 74) C [.int (p3.I 2), .int 97, .int 122] [] (fun sz => ctX7_isWithin l E a (p3.I 2) 97 122 p3 hw sz) mfX7_isWithin mvX7_isWithin wmX7_111 rfl ⟨Nat.le_of_ble_eq_true rfl, Nat.le_of_ble_eq_true rfl⟩ ⟨rfl, rfl⟩ 0 (ci := 7) (qc := (RX7, TX7, 8)) rfl rfl rfl rfl (Nat.le_of_ble_eq_true rfl) ⟨Nat.zero_le _, Nat.zero_le _⟩ dX7_step_74) (fun r4 _ hw => ?_)
    refine v_if_eq (pc := 77) C 87 (by decide) dX7_step_77 (fun hc => ?_) (fun hc => ?_)
    · have hw := hw.1 hc
      refine v_aload_n (pc := 87) C 0 rfl rfl dX7_step_87 ?_
      refine v_aload_n (pc := 88) C 0 rfl rfl dX7_step_88 ?_
      refine v_get (pc := 89) C cfX7 rfl 0 2 rfl (by decide) wfX7_19 rfl dX7_step_89 ?_
      refine v_bipush (pc := 92) C 48 kb_48 dX7_step_92 ?_
      refine v_bipush (pc := 94) C 57 kb_57 dX7_step_94 ?_
      refine v_goAi (pc := 96) C (wc' := (fun (_ : Unit) => (fl [bReader E a p3]))) (fun _ => rfl) (v_runVA (pc := 96) C [.int (p3.I 2), .int 48, .int 57] [] (fun sz => ctX7_isWithin l E a (p3.I 2) 48 57 p3 hw sz) mfX7_isWithin mvX7_isWithin wmX7_111 rfl ⟨Nat.le_of_ble_eq_true rfl, Nat.le_of_ble_eq_true rfl⟩ ⟨rfl, rfl⟩ 0 (ci := 7) (qc := (RX7, TX7, 8)) rfl rfl rfl rfl (Nat.le_of_ble_eq_true rfl) ⟨Nat.zero_le _, Nat.zero_le _⟩ dX7_step_96) (fun r5 _ hw => ?_)
      refine v_if_eq (pc := 99) C 109 (by decide) dX7_step_99 (fun hc => ?_) (fun hc => ?_)
      · have hw := hw.1 hc
        refine v_aload_n (pc := 109) C 0 rfl rfl dX7_step_109 ?_
        refine v_aload_n (pc := 110) C 0 rfl rfl dX7_step_110 ?_
        refine v_get (pc := 111) C cfX7 rfl 0 0 rfl (by decide) wfX7_9 rfl dX7_step_111 ?_
        refine v_aload_n (pc := 114) C 0 rfl rfl dX7_step_114 ?_
        refine v_get (pc := 115) C cfX7 rfl 0 2 rfl (by decide) wfX7_19 rfl dX7_step_115 ?_
        obtain ⟨hg, hw⟩ := hw
        refine v_iald (pc := 118) C 1 rfl hg rfl dX7_step_118 ?_
        refine v_bipush (pc := 119) C 59 kb_59 dX7_step_119 ?_
        refine v_icmp_ne (pc := 121) C 128 (by decide) dX7_step_121 (fun hc => ?_) (fun hc => ?_)
        · have hw := hw.1 hc
          refine v_iconst (pc := 128) C 4 ki_4 dX7_step_128 ?_
          refine v_sub (lv' := [(0, .ref (a 0))]) [0] rfl ?_
          exact vjX7_step_129 C hA a  4 p3 hw
        · have hw := hw.2 hc
          refine v_iconst (pc := 124) C 3 ki_3 dX7_step_124 ?_
          refine v_goto (pc := 125) C 129 (by decide) dX7_step_125 ?_
          refine v_sub (lv' := [(0, .ref (a 0))]) [0] rfl ?_
          exact vjX7_step_129 C hA a  3 p3 hw
      · have hw := hw.2 hc
        refine v_aload_n (pc := 102) C 0 rfl rfl dX7_step_102 ?_
        refine v_goAv (pc := 103) C (wc' := (fun (u : St) => (fl [bReader E a u]))) (fun _ => rfl) (v_runVA (pc := 103) C [] [] (fun sz => ctX7_passFigures l E a p3 hw sz) mfX7_passFigures mvX7_passFigures wmX7_118 rfl ⟨Nat.le_of_ble_eq_true rfl, Nat.le_of_ble_eq_true rfl⟩ ⟨rfl, rfl⟩ 0 (ci := 7) (qc := (RX7, TX7, 8)) rfl rfl rfl rfl (Nat.le_of_ble_eq_true rfl) ⟨Nat.zero_le _, Nat.zero_le _⟩ dX7_step_103) (fun p8 hw => ?_)
        refine v_goto (pc := 106) C 142 (by decide) dX7_step_106 ?_
        exact v_vret (pc := 142) C p8 hA rfl hw dX7_step_142
    · have hw := hw.2 hc
      refine v_aload_n (pc := 80) C 0 rfl rfl dX7_step_80 ?_
      refine v_goAv (pc := 81) C (wc' := (fun (u : St) => (fl [bReader E a u]))) (fun _ => rfl) (v_runVA (pc := 81) C [] [] (fun sz => ctX7_passWord l E a p3 hw sz) mfX7_passWord mvX7_passWord wmX7_115 rfl ⟨Nat.le_of_ble_eq_true rfl, Nat.le_of_ble_eq_true rfl⟩ ⟨rfl, rfl⟩ 0 (ci := 7) (qc := (RX7, TX7, 8)) rfl rfl rfl rfl (Nat.le_of_ble_eq_true rfl) ⟨Nat.zero_le _, Nat.zero_le _⟩ dX7_step_81) (fun p9 hw => ?_)
      refine v_goto (pc := 84) C 142 (by decide) dX7_step_84 ?_
      exact v_vret (pc := 142) C p9 hA rfl hw dX7_step_142
  · have hw := hw.2 hc
    refine v_aload_n (pc := 57) C 0 rfl rfl dX7_step_57 ?_
    refine v_iconst (pc := 58) C 0 ki_0 dX7_step_58 ?_
    obtain ⟨p10, es⟩ : ∃ y : St, y = p3.sI 3 0 := ⟨_, rfl⟩
    have hw := hw p10 es
    refine v_put (pc := 59) C cfX7 rfl 0 3 (ty := .int) (w' := (fl [bReader E a p10])) rfl (by subst es; rfl) (by decide) wfX7_22 rfl rfl rfl rfl (Nat.le_of_ble_eq_true rfl) dX7_step_59 ?_
    refine v_goto (pc := 62) C 142 (by decide) dX7_step_62 ?_
    exact v_vret (pc := 142) C p10 hA rfl hw dX7_step_142
set_option maxHeartbeats 4000000 in
set_option maxRecDepth 100000 in
theorem ctX7_step (l : Launch) (E : VE) (a : Nat → Nat)  (p : St)  {Post : St → Prop} (hw : wpX7_step p Post) (sz : Nat) : Met l yX7_step (mW yX7_step cX7_step 1 none) rmX7_step (CPre E [.ref (a 0)] sz (fl [bReader E a p])) (CQv E Post (fun u => (fl [bReader E a u])) (fl [bReader E a p]) sz) 0 0 (va_A (fl [bReader E a p]) sz) := by
  refine v_met (by decide) (Nat.le_of_ble_eq_true rfl) ?_
  intro pr e s m below meth c A hsz hA C
  subst hsz
  obtain ⟨n, hw⟩ := hw
  refine v_sub (lv' := [(0, .ref (a 0))]) [0] rfl ?_
  refine vlX7_step_0 C hA a  (fun p2 hw => ?_) n p hw
  refine v_sub (lv' := [(0, .ref (a 0))]) [0] rfl ?_
  exact vjX7_step_38 C hA a  p2 hw
end
end
section
section
variable {pr : Program} {l : Launch} {e : Env} {s : State} {m : MethodId} {args : Array Value} {below : List Frame} {meth : Method} {c : Code} {E : VE} {A : Nat → Prop} {w0 : va_W}
theorem dX7_isWord_0 : decode cX7_isWord 0 = .ok (.aload_n 0, 1) := by decide +kernel
theorem dX7_isWord_1 : decode cX7_isWord 1 = .ok (.getfield 22, 3) := by decide +kernel
theorem dX7_isWord_4 : decode cX7_isWord 4 = .ok (.iconst 1, 1) := by decide +kernel
theorem dX7_isWord_5 : decode cX7_isWord 5 = .ok (.if_icmp .ne 19, 3) := by decide +kernel
theorem dX7_isWord_8 : decode cX7_isWord 8 = .ok (.aload_n 0, 1) := by decide +kernel
theorem dX7_isWord_9 : decode cX7_isWord 9 = .ok (.getfield 19, 3) := by decide +kernel
theorem dX7_isWord_12 : decode cX7_isWord 12 = .ok (.aload_n 0, 1) := by decide +kernel
theorem dX7_isWord_13 : decode cX7_isWord 13 = .ok (.getfield 25, 3) := by decide +kernel
theorem dX7_isWord_16 : decode cX7_isWord 16 = .ok (.isub, 1) := by decide +kernel
theorem dX7_isWord_17 : decode cX7_isWord 17 = .ok (.aload_n 1, 1) := by decide +kernel
theorem dX7_isWord_18 : decode cX7_isWord 18 = .ok (.invokevirtual 103, 3) := by decide +kernel
theorem dX7_isWord_21 : decode cX7_isWord 21 = .ok (.if_icmp .eq 5, 3) := by decide +kernel
theorem dX7_isWord_24 : decode cX7_isWord 24 = .ok (.iconst 0, 1) := by decide +kernel
theorem dX7_isWord_25 : decode cX7_isWord 25 = .ok (.ireturn, 1) := by decide +kernel
theorem dX7_isWord_26 : decode cX7_isWord 26 = .ok (.iconst 0, 1) := by decide +kernel
theorem dX7_isWord_27 : decode cX7_isWord 27 = .ok (.istore_n 2, 1) := by decide +kernel
theorem dX7_isWord_28 : decode cX7_isWord 28 = .ok (.iload_n 2, 1) := by decide +kernel
theorem dX7_isWord_29 : decode cX7_isWord 29 = .ok (.aload_n 1, 1) := by decide +kernel
theorem dX7_isWord_30 : decode cX7_isWord 30 = .ok (.invokevirtual 103, 3) := by decide +kernel
theorem dX7_isWord_33 : decode cX7_isWord 33 = .ok (.if_icmp .ge 30, 3) := by decide +kernel
theorem dX7_isWord_36 : decode cX7_isWord 36 = .ok (.aload_n 0, 1) := by decide +kernel
theorem dX7_isWord_37 : decode cX7_isWord 37 = .ok (.getfield 9, 3) := by decide +kernel
theorem dX7_isWord_40 : decode cX7_isWord 40 = .ok (.aload_n 0, 1) := by decide +kernel
theorem dX7_isWord_41 : decode cX7_isWord 41 = .ok (.getfield 25, 3) := by decide +kernel
theorem dX7_isWord_44 : decode cX7_isWord 44 = .ok (.iload_n 2, 1) := by decide +kernel
theorem dX7_isWord_45 : decode cX7_isWord 45 = .ok (.iadd, 1) := by decide +kernel
theorem dX7_isWord_46 : decode cX7_isWord 46 = .ok (.iaload, 1) := by decide +kernel
theorem dX7_isWord_47 : decode cX7_isWord 47 = .ok (.aload_n 1, 1) := by decide +kernel
theorem dX7_isWord_48 : decode cX7_isWord 48 = .ok (.iload_n 2, 1) := by decide +kernel
theorem dX7_isWord_49 : decode cX7_isWord 49 = .ok (.invokevirtual 107, 3) := by decide +kernel
theorem dX7_isWord_52 : decode cX7_isWord 52 = .ok (.if_icmp .eq 5, 3) := by decide +kernel
theorem dX7_isWord_55 : decode cX7_isWord 55 = .ok (.iconst 0, 1) := by decide +kernel
theorem dX7_isWord_56 : decode cX7_isWord 56 = .ok (.ireturn, 1) := by decide +kernel
theorem dX7_isWord_57 : decode cX7_isWord 57 = .ok (.iinc 2 1, 3) := by decide +kernel
theorem dX7_isWord_60 : decode cX7_isWord 60 = .ok (.goto (-32), 3) := by decide +kernel
theorem dX7_isWord_63 : decode cX7_isWord 63 = .ok (.iconst 1, 1) := by decide +kernel
theorem dX7_isWord_64 : decode cX7_isWord 64 = .ok (.ireturn, 1) := by decide +kernel
theorem dX7_isNumber_0 : decode cX7_isNumber 0 = .ok (.aload_n 0, 1) := by decide +kernel
theorem dX7_isNumber_1 : decode cX7_isNumber 1 = .ok (.getfield 22, 3) := by decide +kernel
theorem dX7_isNumber_4 : decode cX7_isNumber 4 = .ok (.iconst 2, 1) := by decide +kernel
theorem dX7_isNumber_5 : decode cX7_isNumber 5 = .ok (.if_icmp .ne 23, 3) := by decide +kernel
theorem dX7_isNumber_8 : decode cX7_isNumber 8 = .ok (.aload_n 0, 1) := by decide +kernel
theorem dX7_isNumber_9 : decode cX7_isNumber 9 = .ok (.getfield 28, 3) := by decide +kernel
theorem dX7_isNumber_12 : decode cX7_isNumber 12 = .ok (.iload_n 1, 1) := by decide +kernel
theorem dX7_isNumber_13 : decode cX7_isNumber 13 = .ok (.if_icmp .lt 15, 3) := by decide +kernel
theorem dX7_isNumber_16 : decode cX7_isNumber 16 = .ok (.aload_n 0, 1) := by decide +kernel
theorem dX7_isNumber_17 : decode cX7_isNumber 17 = .ok (.getfield 28, 3) := by decide +kernel
theorem dX7_isNumber_20 : decode cX7_isNumber 20 = .ok (.iload_n 2, 1) := by decide +kernel
theorem dX7_isNumber_21 : decode cX7_isNumber 21 = .ok (.if_icmp .gt 7, 3) := by decide +kernel
theorem dX7_isNumber_24 : decode cX7_isNumber 24 = .ok (.iconst 1, 1) := by decide +kernel
theorem dX7_isNumber_25 : decode cX7_isNumber 25 = .ok (.goto 4, 3) := by decide +kernel
theorem dX7_isNumber_28 : decode cX7_isNumber 28 = .ok (.iconst 0, 1) := by decide +kernel
theorem dX7_isNumber_29 : decode cX7_isNumber 29 = .ok (.ireturn, 1) := by decide +kernel
theorem dX7_passStop_0 : decode cX7_passStop 0 = .ok (.aload_n 0, 1) := by decide +kernel
theorem dX7_passStop_1 : decode cX7_passStop 1 = .ok (.getfield 22, 3) := by decide +kernel
theorem dX7_passStop_4 : decode cX7_passStop 4 = .ok (.iconst 3, 1) := by decide +kernel
theorem dX7_passStop_5 : decode cX7_passStop 5 = .ok (.if_icmp .eq 5, 3) := by decide +kernel
theorem dX7_passStop_8 : decode cX7_passStop 8 = .ok (.iconst 0, 1) := by decide +kernel
theorem dX7_passStop_9 : decode cX7_passStop 9 = .ok (.ireturn, 1) := by decide +kernel
theorem dX7_passStop_10 : decode cX7_passStop 10 = .ok (.aload_n 0, 1) := by decide +kernel
theorem dX7_passStop_11 : decode cX7_passStop 11 = .ok (.invokevirtual 37, 3) := by decide +kernel
theorem dX7_passStop_14 : decode cX7_passStop 14 = .ok (.iconst 1, 1) := by decide +kernel
theorem dX7_passStop_15 : decode cX7_passStop 15 = .ok (.ireturn, 1) := by decide +kernel
theorem dX7_readFirst_0 : decode cX7_readFirst 0 = .ok (.aload_n 0, 1) := by decide +kernel
theorem dX7_readFirst_1 : decode cX7_readFirst 1 = .ok (.ldc 48, 2) := by decide +kernel
theorem dX7_readFirst_3 : decode cX7_readFirst 3 = .ok (.invokevirtual 50, 3) := by decide +kernel
theorem dX7_readFirst_6 : decode cX7_readFirst 6 = .ok (.ifCond .ne 5, 3) := by decide +kernel
theorem dX7_readFirst_9 : decode cX7_readFirst 9 = .ok (.iconst 0, 1) := by decide +kernel
theorem dX7_readFirst_10 : decode cX7_readFirst 10 = .ok (.ireturn, 1) := by decide +kernel
theorem dX7_readFirst_11 : decode cX7_readFirst 11 = .ok (.aload_n 0, 1) := by decide +kernel
theorem dX7_readFirst_12 : decode cX7_readFirst 12 = .ok (.invokevirtual 37, 3) := by decide +kernel
theorem dX7_readFirst_15 : decode cX7_readFirst 15 = .ok (.aload_n 0, 1) := by decide +kernel
theorem dX7_readFirst_16 : decode cX7_readFirst 16 = .ok (.iconst 1, 1) := by decide +kernel
theorem dX7_readFirst_17 : decode cX7_readFirst 17 = .ok (.bipush 6, 2) := by decide +kernel
theorem dX7_readFirst_19 : decode cX7_readFirst 19 = .ok (.invokevirtual 54, 3) := by decide +kernel
theorem dX7_readFirst_22 : decode cX7_readFirst 22 = .ok (.ifCond .ne 5, 3) := by decide +kernel
theorem dX7_readFirst_25 : decode cX7_readFirst 25 = .ok (.iconst 0, 1) := by decide +kernel
theorem dX7_readFirst_26 : decode cX7_readFirst 26 = .ok (.ireturn, 1) := by decide +kernel
theorem dX7_readFirst_27 : decode cX7_readFirst 27 = .ok (.aload_n 1, 1) := by decide +kernel
theorem dX7_readFirst_28 : decode cX7_readFirst 28 = .ok (.aload_n 0, 1) := by decide +kernel
theorem dX7_readFirst_29 : decode cX7_readFirst 29 = .ok (.getfield 28, 3) := by decide +kernel
theorem dX7_readFirst_32 : decode cX7_readFirst 32 = .ok (.invokevirtual 58, 3) := by decide +kernel
theorem dX7_readFirst_35 : decode cX7_readFirst 35 = .ok (.aload_n 0, 1) := by decide +kernel
theorem dX7_readFirst_36 : decode cX7_readFirst 36 = .ok (.invokevirtual 37, 3) := by decide +kernel
theorem dX7_readFirst_39 : decode cX7_readFirst 39 = .ok (.aload_n 0, 1) := by decide +kernel
theorem dX7_readFirst_40 : decode cX7_readFirst 40 = .ok (.invokevirtual 64, 3) := by decide +kernel
theorem dX7_readFirst_43 : decode cX7_readFirst 43 = .ok (.ireturn, 1) := by decide +kernel
theorem dX7_readCarbon_0 : decode cX7_readCarbon 0 = .ok (.aload_n 0, 1) := by decide +kernel
theorem dX7_readCarbon_1 : decode cX7_readCarbon 1 = .ok (.invokevirtual 37, 3) := by decide +kernel
theorem dX7_readCarbon_4 : decode cX7_readCarbon 4 = .ok (.aload_n 0, 1) := by decide +kernel
theorem dX7_readCarbon_5 : decode cX7_readCarbon 5 = .ok (.iconst 0, 1) := by decide +kernel
theorem dX7_readCarbon_6 : decode cX7_readCarbon 6 = .ok (.aload_n 1, 1) := by decide +kernel
theorem dX7_readCarbon_7 : decode cX7_readCarbon 7 = .ok (.getfield 97, 3) := by decide +kernel
theorem dX7_readCarbon_10 : decode cX7_readCarbon 10 = .ok (.iconst 1, 1) := by decide +kernel
theorem dX7_readCarbon_11 : decode cX7_readCarbon 11 = .ok (.isub, 1) := by decide +kernel
theorem dX7_readCarbon_12 : decode cX7_readCarbon 12 = .ok (.invokevirtual 54, 3) := by decide +kernel
theorem dX7_readCarbon_15 : decode cX7_readCarbon 15 = .ok (.ifCond .ne 5, 3) := by decide +kernel
theorem dX7_readCarbon_18 : decode cX7_readCarbon 18 = .ok (.iconst 0, 1) := by decide +kernel
theorem dX7_readCarbon_19 : decode cX7_readCarbon 19 = .ok (.ireturn, 1) := by decide +kernel
theorem dX7_readCarbon_20 : decode cX7_readCarbon 20 = .ok (.aload_n 1, 1) := by decide +kernel
theorem dX7_readCarbon_21 : decode cX7_readCarbon 21 = .ok (.dup, 1) := by decide +kernel
theorem dX7_readCarbon_22 : decode cX7_readCarbon 22 = .ok (.getfield 100, 3) := by decide +kernel
theorem dX7_readCarbon_25 : decode cX7_readCarbon 25 = .ok (.iconst 1, 1) := by decide +kernel
theorem dX7_readCarbon_26 : decode cX7_readCarbon 26 = .ok (.aload_n 0, 1) := by decide +kernel
theorem dX7_readCarbon_27 : decode cX7_readCarbon 27 = .ok (.getfield 28, 3) := by decide +kernel
theorem dX7_readCarbon_30 : decode cX7_readCarbon 30 = .ok (.ishl, 1) := by decide +kernel
theorem dX7_readCarbon_31 : decode cX7_readCarbon 31 = .ok (.ior, 1) := by decide +kernel
theorem dX7_readCarbon_32 : decode cX7_readCarbon 32 = .ok (.putfield 100, 3) := by decide +kernel
theorem dX7_readCarbon_35 : decode cX7_readCarbon 35 = .ok (.aload_n 0, 1) := by decide +kernel
theorem dX7_readCarbon_36 : decode cX7_readCarbon 36 = .ok (.invokevirtual 37, 3) := by decide +kernel
theorem dX7_readCarbon_39 : decode cX7_readCarbon 39 = .ok (.aload_n 0, 1) := by decide +kernel
theorem dX7_readCarbon_40 : decode cX7_readCarbon 40 = .ok (.invokevirtual 64, 3) := by decide +kernel
theorem dX7_readCarbon_43 : decode cX7_readCarbon 43 = .ok (.ireturn, 1) := by decide +kernel
theorem dX7_readPen_0 : decode cX7_readPen 0 = .ok (.aload_n 0, 1) := by decide +kernel
theorem dX7_readPen_1 : decode cX7_readPen 1 = .ok (.iconst 0, 1) := by decide +kernel
theorem dX7_readPen_2 : decode cX7_readPen 2 = .ok (.iconst 5, 1) := by decide +kernel
theorem dX7_readPen_3 : decode cX7_readPen 3 = .ok (.invokevirtual 54, 3) := by decide +kernel
theorem dX7_readPen_6 : decode cX7_readPen 6 = .ok (.ifCond .ne 5, 3) := by decide +kernel
theorem dX7_readPen_9 : decode cX7_readPen 9 = .ok (.iconst 0, 1) := by decide +kernel
theorem dX7_readPen_10 : decode cX7_readPen 10 = .ok (.ireturn, 1) := by decide +kernel
theorem dX7_readPen_11 : decode cX7_readPen 11 = .ok (.aload_n 0, 1) := by decide +kernel
theorem dX7_readPen_12 : decode cX7_readPen 12 = .ok (.aload_n 0, 1) := by decide +kernel
theorem dX7_readPen_13 : decode cX7_readPen 13 = .ok (.getfield 28, 3) := by decide +kernel
theorem dX7_readPen_16 : decode cX7_readPen 16 = .ok (.putfield 31, 3) := by decide +kernel
theorem dX7_readPen_19 : decode cX7_readPen 19 = .ok (.aload_n 0, 1) := by decide +kernel
theorem dX7_readPen_20 : decode cX7_readPen 20 = .ok (.invokevirtual 37, 3) := by decide +kernel
theorem dX7_readPen_23 : decode cX7_readPen 23 = .ok (.aload_n 0, 1) := by decide +kernel
theorem dX7_readPen_24 : decode cX7_readPen 24 = .ok (.iconst 1, 1) := by decide +kernel
theorem dX7_readPen_25 : decode cX7_readPen 25 = .ok (.bipush 9, 2) := by decide +kernel
theorem dX7_readPen_27 : decode cX7_readPen 27 = .ok (.invokevirtual 54, 3) := by decide +kernel
theorem dX7_readPen_30 : decode cX7_readPen 30 = .ok (.ifCond .ne 5, 3) := by decide +kernel
theorem dX7_readPen_33 : decode cX7_readPen 33 = .ok (.iconst 0, 1) := by decide +kernel
theorem dX7_readPen_34 : decode cX7_readPen 34 = .ok (.ireturn, 1) := by decide +kernel
theorem dX7_readPen_35 : decode cX7_readPen 35 = .ok (.aload_n 0, 1) := by decide +kernel
theorem dX7_readPen_36 : decode cX7_readPen 36 = .ok (.aload_n 0, 1) := by decide +kernel
theorem dX7_readPen_37 : decode cX7_readPen 37 = .ok (.getfield 28, 3) := by decide +kernel
theorem dX7_readPen_40 : decode cX7_readPen 40 = .ok (.putfield 34, 3) := by decide +kernel
theorem dX7_readPen_43 : decode cX7_readPen 43 = .ok (.aload_n 0, 1) := by decide +kernel
theorem dX7_readPen_44 : decode cX7_readPen 44 = .ok (.invokevirtual 37, 3) := by decide +kernel
theorem dX7_readPen_47 : decode cX7_readPen 47 = .ok (.iconst 1, 1) := by decide +kernel
theorem dX7_readPen_48 : decode cX7_readPen 48 = .ok (.ireturn, 1) := by decide +kernel
theorem dX7_readCells_0 : decode cX7_readCells 0 = .ok (.iconst 0, 1) := by decide +kernel
theorem dX7_readCells_1 : decode cX7_readCells 1 = .ok (.istore_n 1, 1) := by decide +kernel
theorem dX7_readCells_2 : decode cX7_readCells 2 = .ok (.iconst 0, 1) := by decide +kernel
theorem dX7_readCells_3 : decode cX7_readCells 3 = .ok (.istore_n 2, 1) := by decide +kernel
theorem dX7_readCells_4 : decode cX7_readCells 4 = .ok (.iconst 0, 1) := by decide +kernel
theorem dX7_readCells_5 : decode cX7_readCells 5 = .ok (.istore_n 3, 1) := by decide +kernel
theorem dX7_readCells_6 : decode cX7_readCells 6 = .ok (.iload_n 3, 1) := by decide +kernel
theorem dX7_readCells_7 : decode cX7_readCells 7 = .ok (.bipush 12, 2) := by decide +kernel
theorem dX7_readCells_9 : decode cX7_readCells 9 = .ok (.if_icmp .ge 39, 3) := by decide +kernel
theorem dX7_readCells_12 : decode cX7_readCells 12 = .ok (.aload_n 0, 1) := by decide +kernel
theorem dX7_readCells_13 : decode cX7_readCells 13 = .ok (.iload_n 2, 1) := by decide +kernel
theorem dX7_readCells_14 : decode cX7_readCells 14 = .ok (.bipush 11, 2) := by decide +kernel
theorem dX7_readCells_16 : decode cX7_readCells 16 = .ok (.invokevirtual 54, 3) := by decide +kernel
theorem dX7_readCells_19 : decode cX7_readCells 19 = .ok (.ifCond .eq 29, 3) := by decide +kernel
theorem dX7_readCells_22 : decode cX7_readCells 22 = .ok (.iload_n 1, 1) := by decide +kernel
theorem dX7_readCells_23 : decode cX7_readCells 23 = .ok (.iconst 1, 1) := by decide +kernel
theorem dX7_readCells_24 : decode cX7_readCells 24 = .ok (.aload_n 0, 1) := by decide +kernel
theorem dX7_readCells_25 : decode cX7_readCells 25 = .ok (.getfield 28, 3) := by decide +kernel
theorem dX7_readCells_28 : decode cX7_readCells 28 = .ok (.ishl, 1) := by decide +kernel
theorem dX7_readCells_29 : decode cX7_readCells 29 = .ok (.ior, 1) := by decide +kernel
theorem dX7_readCells_30 : decode cX7_readCells 30 = .ok (.istore_n 1, 1) := by decide +kernel
theorem dX7_readCells_31 : decode cX7_readCells 31 = .ok (.aload_n 0, 1) := by decide +kernel
theorem dX7_readCells_32 : decode cX7_readCells 32 = .ok (.getfield 28, 3) := by decide +kernel
theorem dX7_readCells_35 : decode cX7_readCells 35 = .ok (.iconst 1, 1) := by decide +kernel
theorem dX7_readCells_36 : decode cX7_readCells 36 = .ok (.iadd, 1) := by decide +kernel
theorem dX7_readCells_37 : decode cX7_readCells 37 = .ok (.istore_n 2, 1) := by decide +kernel
theorem dX7_readCells_38 : decode cX7_readCells 38 = .ok (.aload_n 0, 1) := by decide +kernel
theorem dX7_readCells_39 : decode cX7_readCells 39 = .ok (.invokevirtual 37, 3) := by decide +kernel
theorem dX7_readCells_42 : decode cX7_readCells 42 = .ok (.iinc 3 1, 3) := by decide +kernel
theorem dX7_readCells_45 : decode cX7_readCells 45 = .ok (.goto (-39), 3) := by decide +kernel
theorem dX7_readCells_48 : decode cX7_readCells 48 = .ok (.iload_n 1, 1) := by decide +kernel
theorem dX7_readCells_49 : decode cX7_readCells 49 = .ok (.ireturn, 1) := by decide +kernel
theorem dX7_readItem_0 : decode cX7_readItem 0 = .ok (.aload_n 0, 1) := by decide +kernel
theorem dX7_readItem_1 : decode cX7_readItem 1 = .ok (.ldc 68, 2) := by decide +kernel
theorem dX7_readItem_3 : decode cX7_readItem 3 = .ok (.invokevirtual 50, 3) := by decide +kernel
theorem dX7_readItem_6 : decode cX7_readItem 6 = .ok (.ifCond .eq 9, 3) := by decide +kernel
theorem dX7_readItem_9 : decode cX7_readItem 9 = .ok (.aload_n 0, 1) := by decide +kernel
theorem dX7_readItem_10 : decode cX7_readItem 10 = .ok (.aload_n 1, 1) := by decide +kernel
theorem dX7_readItem_11 : decode cX7_readItem 11 = .ok (.invokevirtual 70, 3) := by decide +kernel
theorem dX7_readItem_14 : decode cX7_readItem 14 = .ok (.ireturn, 1) := by decide +kernel
theorem dX7_readItem_15 : decode cX7_readItem 15 = .ok (.aload_n 0, 1) := by decide +kernel
theorem dX7_readItem_16 : decode cX7_readItem 16 = .ok (.ldc 73, 2) := by decide +kernel
theorem dX7_readItem_18 : decode cX7_readItem 18 = .ok (.invokevirtual 50, 3) := by decide +kernel
theorem dX7_readItem_21 : decode cX7_readItem 21 = .ok (.istore_n 3, 1) := by decide +kernel
theorem dX7_readItem_22 : decode cX7_readItem 22 = .ok (.aload_n 0, 1) := by decide +kernel
theorem dX7_readItem_23 : decode cX7_readItem 23 = .ok (.ldc 75, 2) := by decide +kernel
theorem dX7_readItem_25 : decode cX7_readItem 25 = .ok (.invokevirtual 50, 3) := by decide +kernel
theorem dX7_readItem_28 : decode cX7_readItem 28 = .ok (.ifCond .eq 16, 3) := by decide +kernel
theorem dX7_readItem_31 : decode cX7_readItem 31 = .ok (.aload_n 1, 1) := by decide +kernel
theorem dX7_readItem_32 : decode cX7_readItem 32 = .ok (.invokevirtual 77, 3) := by decide +kernel
theorem dX7_readItem_35 : decode cX7_readItem 35 = .ok (.bipush 10, 2) := by decide +kernel
theorem dX7_readItem_37 : decode cX7_readItem 37 = .ok (.if_icmp .ge 7, 3) := by decide +kernel
theorem dX7_readItem_40 : decode cX7_readItem 40 = .ok (.iconst 1, 1) := by decide +kernel
theorem dX7_readItem_41 : decode cX7_readItem 41 = .ok (.goto 4, 3) := by decide +kernel
theorem dX7_readItem_44 : decode cX7_readItem 44 = .ok (.iconst 0, 1) := by decide +kernel
theorem dX7_readItem_45 : decode cX7_readItem 45 = .ok (.istore 4, 2) := by decide +kernel
theorem dX7_readItem_47 : decode cX7_readItem 47 = .ok (.iload_n 3, 1) := by decide +kernel
theorem dX7_readItem_48 : decode cX7_readItem 48 = .ok (.ifCond .ne 8, 3) := by decide +kernel
theorem dX7_readItem_51 : decode cX7_readItem 51 = .ok (.iload 4, 2) := by decide +kernel
theorem dX7_readItem_53 : decode cX7_readItem 53 = .ok (.ifCond .eq 10, 3) := by decide +kernel
theorem dX7_readItem_56 : decode cX7_readItem 56 = .ok (.aload_n 1, 1) := by decide +kernel
theorem dX7_readItem_57 : decode cX7_readItem 57 = .ok (.invokevirtual 81, 3) := by decide +kernel
theorem dX7_readItem_60 : decode cX7_readItem 60 = .ok (.ifCond .eq 5, 3) := by decide +kernel
theorem dX7_readItem_63 : decode cX7_readItem 63 = .ok (.iconst 0, 1) := by decide +kernel
theorem dX7_readItem_64 : decode cX7_readItem 64 = .ok (.ireturn, 1) := by decide +kernel
theorem dX7_readItem_65 : decode cX7_readItem 65 = .ok (.aload_n 0, 1) := by decide +kernel
theorem dX7_readItem_66 : decode cX7_readItem 66 = .ok (.invokevirtual 37, 3) := by decide +kernel
theorem dX7_readItem_69 : decode cX7_readItem 69 = .ok (.iload_n 3, 1) := by decide +kernel
theorem dX7_readItem_70 : decode cX7_readItem 70 = .ok (.ifCond .eq 11, 3) := by decide +kernel
theorem dX7_readItem_73 : decode cX7_readItem 73 = .ok (.aload_n 1, 1) := by decide +kernel
theorem dX7_readItem_74 : decode cX7_readItem 74 = .ok (.invokevirtual 84, 3) := by decide +kernel
theorem dX7_readItem_77 : decode cX7_readItem 77 = .ok (.pop, 1) := by decide +kernel
theorem dX7_readItem_78 : decode cX7_readItem 78 = .ok (.goto 37, 3) := by decide +kernel
theorem dX7_readItem_81 : decode cX7_readItem 81 = .ok (.aload_n 0, 1) := by decide +kernel
theorem dX7_readItem_82 : decode cX7_readItem 82 = .ok (.invokevirtual 87, 3) := by decide +kernel
theorem dX7_readItem_85 : decode cX7_readItem 85 = .ok (.ifCond .eq 28, 3) := by decide +kernel
theorem dX7_readItem_88 : decode cX7_readItem 88 = .ok (.aload_n 0, 1) := by decide +kernel
theorem dX7_readItem_89 : decode cX7_readItem 89 = .ok (.invokevirtual 90, 3) := by decide +kernel
theorem dX7_readItem_92 : decode cX7_readItem 92 = .ok (.istore 5, 2) := by decide +kernel
theorem dX7_readItem_94 : decode cX7_readItem 94 = .ok (.aload_n 1, 1) := by decide +kernel
theorem dX7_readItem_95 : decode cX7_readItem 95 = .ok (.aload_n 2, 1) := by decide +kernel
theorem dX7_readItem_96 : decode cX7_readItem 96 = .ok (.aload_n 0, 1) := by decide +kernel
theorem dX7_readItem_97 : decode cX7_readItem 97 = .ok (.getfield 31, 3) := by decide +kernel
theorem dX7_readItem_100 : decode cX7_readItem 100 = .ok (.aload_n 0, 1) := by decide +kernel
theorem dX7_readItem_101 : decode cX7_readItem 101 = .ok (.getfield 34, 3) := by decide +kernel
theorem dX7_readItem_104 : decode cX7_readItem 104 = .ok (.iload 5, 2) := by decide +kernel
theorem dX7_readItem_106 : decode cX7_readItem 106 = .ok (.invokevirtual 93, 3) := by decide +kernel
theorem dX7_readItem_109 : decode cX7_readItem 109 = .ok (.pop, 1) := by decide +kernel
theorem dX7_readItem_110 : decode cX7_readItem 110 = .ok (.goto 5, 3) := by decide +kernel
theorem dX7_readItem_113 : decode cX7_readItem 113 = .ok (.iconst 0, 1) := by decide +kernel
theorem dX7_readItem_114 : decode cX7_readItem 114 = .ok (.ireturn, 1) := by decide +kernel
theorem dX7_readItem_115 : decode cX7_readItem 115 = .ok (.aload_n 0, 1) := by decide +kernel
theorem dX7_readItem_116 : decode cX7_readItem 116 = .ok (.invokevirtual 64, 3) := by decide +kernel
theorem dX7_readItem_119 : decode cX7_readItem 119 = .ok (.ireturn, 1) := by decide +kernel
theorem dX7_readInto_0 : decode cX7_readInto 0 = .ok (.aload_n 0, 1) := by decide +kernel
theorem dX7_readInto_1 : decode cX7_readInto 1 = .ok (.iconst 0, 1) := by decide +kernel
theorem dX7_readInto_2 : decode cX7_readInto 2 = .ok (.putfield 19, 3) := by decide +kernel
theorem dX7_readInto_5 : decode cX7_readInto 5 = .ok (.aload_n 0, 1) := by decide +kernel
theorem dX7_readInto_6 : decode cX7_readInto 6 = .ok (.invokevirtual 37, 3) := by decide +kernel
theorem dX7_readInto_9 : decode cX7_readInto 9 = .ok (.aload_n 0, 1) := by decide +kernel
theorem dX7_readInto_10 : decode cX7_readInto 10 = .ok (.aload_n 1, 1) := by decide +kernel
theorem dX7_readInto_11 : decode cX7_readInto 11 = .ok (.invokevirtual 40, 3) := by decide +kernel
theorem dX7_readInto_14 : decode cX7_readInto 14 = .ok (.ifCond .ne 5, 3) := by decide +kernel
theorem dX7_readInto_17 : decode cX7_readInto 17 = .ok (.iconst (-1), 1) := by decide +kernel
theorem dX7_readInto_18 : decode cX7_readInto 18 = .ok (.ireturn, 1) := by decide +kernel
theorem dX7_readInto_19 : decode cX7_readInto 19 = .ok (.iconst 1, 1) := by decide +kernel
theorem dX7_readInto_20 : decode cX7_readInto 20 = .ok (.istore_n 3, 1) := by decide +kernel
theorem dX7_readInto_21 : decode cX7_readInto 21 = .ok (.iconst 0, 1) := by decide +kernel
theorem dX7_readInto_22 : decode cX7_readInto 22 = .ok (.istore 4, 2) := by decide +kernel
theorem dX7_readInto_24 : decode cX7_readInto 24 = .ok (.iload 4, 2) := by decide +kernel
theorem dX7_readInto_26 : decode cX7_readInto 26 = .ok (.sipush 150, 3) := by decide +kernel
theorem dX7_readInto_29 : decode cX7_readInto 29 = .ok (.if_icmp .gt 30, 3) := by decide +kernel
theorem dX7_readInto_32 : decode cX7_readInto 32 = .ok (.aload_n 0, 1) := by decide +kernel
theorem dX7_readInto_33 : decode cX7_readInto 33 = .ok (.getfield 22, 3) := by decide +kernel
theorem dX7_readInto_36 : decode cX7_readInto 36 = .ok (.ifCond .eq 23, 3) := by decide +kernel
theorem dX7_readInto_39 : decode cX7_readInto 39 = .ok (.aload_n 0, 1) := by decide +kernel
theorem dX7_readInto_40 : decode cX7_readInto 40 = .ok (.aload_n 1, 1) := by decide +kernel
theorem dX7_readInto_41 : decode cX7_readInto 41 = .ok (.aload_n 2, 1) := by decide +kernel
theorem dX7_readInto_42 : decode cX7_readInto 42 = .ok (.invokevirtual 44, 3) := by decide +kernel
theorem dX7_readInto_45 : decode cX7_readInto 45 = .ok (.ifCond .ne 5, 3) := by decide +kernel
theorem dX7_readInto_48 : decode cX7_readInto 48 = .ok (.iconst (-1), 1) := by decide +kernel
theorem dX7_readInto_49 : decode cX7_readInto 49 = .ok (.ireturn, 1) := by decide +kernel
theorem dX7_readInto_50 : decode cX7_readInto 50 = .ok (.iinc 3 1, 3) := by decide +kernel
theorem dX7_readInto_53 : decode cX7_readInto 53 = .ok (.iinc 4 1, 3) := by decide +kernel
theorem dX7_readInto_56 : decode cX7_readInto 56 = .ok (.goto (-32), 3) := by decide +kernel
theorem dX7_readInto_59 : decode cX7_readInto 59 = .ok (.iload_n 3, 1) := by decide +kernel
theorem dX7_readInto_60 : decode cX7_readInto 60 = .ok (.ireturn, 1) := by decide +kernel
theorem dX8_sheetAt_0 : decode cX8_sheetAt 0 = .ok (.iload_n 1, 1) := by decide +kernel
theorem dX8_sheetAt_1 : decode cX8_sheetAt 1 = .ok (.ifCond .lt 18, 3) := by decide +kernel
theorem dX8_sheetAt_4 : decode cX8_sheetAt 4 = .ok (.iload_n 1, 1) := by decide +kernel
theorem dX8_sheetAt_5 : decode cX8_sheetAt 5 = .ok (.bipush 6, 2) := by decide +kernel
theorem dX8_sheetAt_7 : decode cX8_sheetAt 7 = .ok (.if_icmp .ge 12, 3) := by decide +kernel
theorem dX8_sheetAt_10 : decode cX8_sheetAt 10 = .ok (.aload_n 0, 1) := by decide +kernel
theorem dX8_sheetAt_11 : decode cX8_sheetAt 11 = .ok (.getfield 9, 3) := by decide +kernel
theorem dX8_sheetAt_14 : decode cX8_sheetAt 14 = .ok (.iload_n 1, 1) := by decide +kernel
theorem dX8_sheetAt_15 : decode cX8_sheetAt 15 = .ok (.iaload, 1) := by decide +kernel
theorem dX8_sheetAt_16 : decode cX8_sheetAt 16 = .ok (.goto 4, 3) := by decide +kernel
theorem dX8_sheetAt_19 : decode cX8_sheetAt 19 = .ok (.iconst (-1), 1) := by decide +kernel
theorem dX8_sheetAt_20 : decode cX8_sheetAt 20 = .ok (.ireturn, 1) := by decide +kernel
theorem dX8_mayLie_0 : decode cX8_mayLie 0 = .ok (.iconst 1, 1) := by decide +kernel
theorem dX8_mayLie_1 : decode cX8_mayLie 1 = .ok (.istore 5, 2) := by decide +kernel
theorem dX8_mayLie_3 : decode cX8_mayLie 3 = .ok (.iload 5, 2) := by decide +kernel
theorem dX8_mayLie_5 : decode cX8_mayLie 5 = .ok (.bipush 10, 2) := by decide +kernel
theorem dX8_mayLie_7 : decode cX8_mayLie 7 = .ok (.if_icmp .ge 17, 3) := by decide +kernel
theorem dX8_mayLie_10 : decode cX8_mayLie 10 = .ok (.aload_n 0, 1) := by decide +kernel
theorem dX8_mayLie_11 : decode cX8_mayLie 11 = .ok (.getfield 21, 3) := by decide +kernel
theorem dX8_mayLie_14 : decode cX8_mayLie 14 = .ok (.iload 5, 2) := by decide +kernel
theorem dX8_mayLie_16 : decode cX8_mayLie 16 = .ok (.iconst 0, 1) := by decide +kernel
theorem dX8_mayLie_17 : decode cX8_mayLie 17 = .ok (.iastore, 1) := by decide +kernel
theorem dX8_mayLie_18 : decode cX8_mayLie 18 = .ok (.iinc 5 1, 3) := by decide +kernel
theorem dX8_mayLie_21 : decode cX8_mayLie 21 = .ok (.goto (-18), 3) := by decide +kernel
theorem dX8_mayLie_24 : decode cX8_mayLie 24 = .ok (.iconst 0, 1) := by decide +kernel
theorem dX8_mayLie_25 : decode cX8_mayLie 25 = .ok (.istore 5, 2) := by decide +kernel
theorem dX8_mayLie_27 : decode cX8_mayLie 27 = .ok (.iload 5, 2) := by decide +kernel
theorem dX8_mayLie_29 : decode cX8_mayLie 29 = .ok (.aload_n 1, 1) := by decide +kernel
theorem dX8_mayLie_30 : decode cX8_mayLie 30 = .ok (.invokevirtual 45, 3) := by decide +kernel
theorem dX8_mayLie_33 : decode cX8_mayLie 33 = .ok (.if_icmp .ge 58, 3) := by decide +kernel
theorem dX8_mayLie_36 : decode cX8_mayLie 36 = .ok (.aload_n 1, 1) := by decide +kernel
theorem dX8_mayLie_37 : decode cX8_mayLie 37 = .ok (.getfield 49, 3) := by decide +kernel
theorem dX8_mayLie_40 : decode cX8_mayLie 40 = .ok (.iload 5, 2) := by decide +kernel
theorem dX8_mayLie_42 : decode cX8_mayLie 42 = .ok (.iaload, 1) := by decide +kernel
theorem dX8_mayLie_43 : decode cX8_mayLie 43 = .ok (.istore 6, 2) := by decide +kernel
theorem dX8_mayLie_45 : decode cX8_mayLie 45 = .ok (.iload 4, 2) := by decide +kernel
theorem dX8_mayLie_47 : decode cX8_mayLie 47 = .ok (.iload 6, 2) := by decide +kernel
theorem dX8_mayLie_49 : decode cX8_mayLie 49 = .ok (.ishr, 1) := by decide +kernel
theorem dX8_mayLie_50 : decode cX8_mayLie 50 = .ok (.iconst 1, 1) := by decide +kernel
theorem dX8_mayLie_51 : decode cX8_mayLie 51 = .ok (.iand, 1) := by decide +kernel
theorem dX8_mayLie_52 : decode cX8_mayLie 52 = .ok (.ifCond .eq 33, 3) := by decide +kernel
theorem dX8_mayLie_55 : decode cX8_mayLie 55 = .ok (.aload_n 0, 1) := by decide +kernel
theorem dX8_mayLie_56 : decode cX8_mayLie 56 = .ok (.getfield 21, 3) := by decide +kernel
theorem dX8_mayLie_59 : decode cX8_mayLie 59 = .ok (.aload_n 1, 1) := by decide +kernel
theorem dX8_mayLie_60 : decode cX8_mayLie 60 = .ok (.iload 5, 2) := by decide +kernel
theorem dX8_mayLie_62 : decode cX8_mayLie 62 = .ok (.iload_n 3, 1) := by decide +kernel
theorem dX8_mayLie_63 : decode cX8_mayLie 63 = .ok (.aload_n 0, 1) := by decide +kernel
theorem dX8_mayLie_64 : decode cX8_mayLie 64 = .ok (.getfield 15, 3) := by decide +kernel
theorem dX8_mayLie_67 : decode cX8_mayLie 67 = .ok (.iload 6, 2) := by decide +kernel
theorem dX8_mayLie_69 : decode cX8_mayLie 69 = .ok (.iaload, 1) := by decide +kernel
theorem dX8_mayLie_70 : decode cX8_mayLie 70 = .ok (.isub, 1) := by decide +kernel
theorem dX8_mayLie_71 : decode cX8_mayLie 71 = .ok (.invokevirtual 52, 3) := by decide +kernel
theorem dX8_mayLie_74 : decode cX8_mayLie 74 = .ok (.dup2, 1) := by decide +kernel
theorem dX8_mayLie_75 : decode cX8_mayLie 75 = .ok (.iaload, 1) := by decide +kernel
theorem dX8_mayLie_76 : decode cX8_mayLie 76 = .ok (.aload_n 1, 1) := by decide +kernel
theorem dX8_mayLie_77 : decode cX8_mayLie 77 = .ok (.getfield 55, 3) := by decide +kernel
theorem dX8_mayLie_80 : decode cX8_mayLie 80 = .ok (.iload 5, 2) := by decide +kernel
theorem dX8_mayLie_82 : decode cX8_mayLie 82 = .ok (.iaload, 1) := by decide +kernel
theorem dX8_mayLie_83 : decode cX8_mayLie 83 = .ok (.ior, 1) := by decide +kernel
theorem dX8_mayLie_84 : decode cX8_mayLie 84 = .ok (.iastore, 1) := by decide +kernel
theorem dX8_mayLie_85 : decode cX8_mayLie 85 = .ok (.iinc 5 1, 3) := by decide +kernel
theorem dX8_mayLie_88 : decode cX8_mayLie 88 = .ok (.goto (-61), 3) := by decide +kernel
theorem dX8_mayLie_91 : decode cX8_mayLie 91 = .ok (.iconst 0, 1) := by decide +kernel
theorem dX8_mayLie_92 : decode cX8_mayLie 92 = .ok (.istore 5, 2) := by decide +kernel
theorem dX8_mayLie_94 : decode cX8_mayLie 94 = .ok (.bipush 9, 2) := by decide +kernel
theorem dX8_mayLie_96 : decode cX8_mayLie 96 = .ok (.istore 6, 2) := by decide +kernel
theorem dX8_mayLie_98 : decode cX8_mayLie 98 = .ok (.iload 6, 2) := by decide +kernel
theorem dX8_mayLie_100 : decode cX8_mayLie 100 = .ok (.iconst 1, 1) := by decide +kernel
theorem dX8_mayLie_101 : decode cX8_mayLie 101 = .ok (.if_icmp .lt 40, 3) := by decide +kernel
theorem dX8_mayLie_104 : decode cX8_mayLie 104 = .ok (.iload 5, 2) := by decide +kernel
theorem dX8_mayLie_106 : decode cX8_mayLie 106 = .ok (.aload_n 0, 1) := by decide +kernel
theorem dX8_mayLie_107 : decode cX8_mayLie 107 = .ok (.getfield 21, 3) := by decide +kernel
theorem dX8_mayLie_110 : decode cX8_mayLie 110 = .ok (.iload 6, 2) := by decide +kernel
theorem dX8_mayLie_112 : decode cX8_mayLie 112 = .ok (.iaload, 1) := by decide +kernel
theorem dX8_mayLie_113 : decode cX8_mayLie 113 = .ok (.ior, 1) := by decide +kernel
theorem dX8_mayLie_114 : decode cX8_mayLie 114 = .ok (.istore 5, 2) := by decide +kernel
theorem dX8_mayLie_116 : decode cX8_mayLie 116 = .ok (.iload 5, 2) := by decide +kernel
theorem dX8_mayLie_118 : decode cX8_mayLie 118 = .ok (.aload_n 0, 1) := by decide +kernel
theorem dX8_mayLie_119 : decode cX8_mayLie 119 = .ok (.getfield 18, 3) := by decide +kernel
theorem dX8_mayLie_122 : decode cX8_mayLie 122 = .ok (.iload_n 2, 1) := by decide +kernel
theorem dX8_mayLie_123 : decode cX8_mayLie 123 = .ok (.bipush 10, 2) := by decide +kernel
theorem dX8_mayLie_125 : decode cX8_mayLie 125 = .ok (.imul, 1) := by decide +kernel
theorem dX8_mayLie_126 : decode cX8_mayLie 126 = .ok (.iload 6, 2) := by decide +kernel
theorem dX8_mayLie_128 : decode cX8_mayLie 128 = .ok (.iadd, 1) := by decide +kernel
theorem dX8_mayLie_129 : decode cX8_mayLie 129 = .ok (.iaload, 1) := by decide +kernel
theorem dX8_mayLie_130 : decode cX8_mayLie 130 = .ok (.if_icmp .eq 5, 3) := by decide +kernel
theorem dX8_mayLie_133 : decode cX8_mayLie 133 = .ok (.iconst 0, 1) := by decide +kernel
theorem dX8_mayLie_134 : decode cX8_mayLie 134 = .ok (.ireturn, 1) := by decide +kernel
theorem dX8_mayLie_135 : decode cX8_mayLie 135 = .ok (.iinc 6 (-1), 3) := by decide +kernel
theorem dX8_mayLie_138 : decode cX8_mayLie 138 = .ok (.goto (-40), 3) := by decide +kernel
theorem dX8_mayLie_141 : decode cX8_mayLie 141 = .ok (.iconst 1, 1) := by decide +kernel
theorem dX8_mayLie_142 : decode cX8_mayLie 142 = .ok (.ireturn, 1) := by decide +kernel
theorem dX8_layFrom_0 : decode cX8_layFrom 0 = .ok (.iload_n 2, 1) := by decide +kernel
theorem dX8_layFrom_1 : decode cX8_layFrom 1 = .ok (.aload_n 1, 1) := by decide +kernel
theorem dX8_layFrom_2 : decode cX8_layFrom 2 = .ok (.getfield 28, 3) := by decide +kernel
theorem dX8_layFrom_5 : decode cX8_layFrom 5 = .ok (.if_icmp .ge 9, 3) := by decide +kernel
theorem dX8_layFrom_8 : decode cX8_layFrom 8 = .ok (.iload_n 2, 1) := by decide +kernel
theorem dX8_layFrom_9 : decode cX8_layFrom 9 = .ok (.bipush 6, 2) := by decide +kernel
theorem dX8_layFrom_11 : decode cX8_layFrom 11 = .ok (.if_icmp .lt 14, 3) := by decide +kernel
theorem dX8_layFrom_14 : decode cX8_layFrom 14 = .ok (.aload_n 0, 1) := by decide +kernel
theorem dX8_layFrom_15 : decode cX8_layFrom 15 = .ok (.dup, 1) := by decide +kernel
theorem dX8_layFrom_16 : decode cX8_layFrom 16 = .ok (.getfield 24, 3) := by decide +kernel
theorem dX8_layFrom_19 : decode cX8_layFrom 19 = .ok (.iconst 1, 1) := by decide +kernel
theorem dX8_layFrom_20 : decode cX8_layFrom 20 = .ok (.iadd, 1) := by decide +kernel
theorem dX8_layFrom_21 : decode cX8_layFrom 21 = .ok (.putfield 24, 3) := by decide +kernel
theorem dX8_layFrom_24 : decode cX8_layFrom 24 = .ok (.return_, 1) := by decide +kernel
theorem dX8_layFrom_25 : decode cX8_layFrom 25 = .ok (.iconst 0, 1) := by decide +kernel
theorem dX8_layFrom_26 : decode cX8_layFrom 26 = .ok (.istore 5, 2) := by decide +kernel
theorem dX8_layFrom_28 : decode cX8_layFrom 28 = .ok (.iload 5, 2) := by decide +kernel
theorem dX8_layFrom_30 : decode cX8_layFrom 30 = .ok (.aload_n 1, 1) := by decide +kernel
theorem dX8_layFrom_31 : decode cX8_layFrom 31 = .ok (.getfield 28, 3) := by decide +kernel
theorem dX8_layFrom_34 : decode cX8_layFrom 34 = .ok (.if_icmp .ge 76, 3) := by decide +kernel
theorem dX8_layFrom_37 : decode cX8_layFrom 37 = .ok (.aload_n 0, 1) := by decide +kernel
theorem dX8_layFrom_38 : decode cX8_layFrom 38 = .ok (.getfield 24, 3) := by decide +kernel
theorem dX8_layFrom_41 : decode cX8_layFrom 41 = .ok (.iload 4, 2) := by decide +kernel
theorem dX8_layFrom_43 : decode cX8_layFrom 43 = .ok (.if_icmp .ge 67, 3) := by decide +kernel
theorem dX8_layFrom_46 : decode cX8_layFrom 46 = .ok (.iload_n 3, 1) := by decide +kernel
theorem dX8_layFrom_47 : decode cX8_layFrom 47 = .ok (.iload 5, 2) := by decide +kernel
theorem dX8_layFrom_49 : decode cX8_layFrom 49 = .ok (.ishr, 1) := by decide +kernel
theorem dX8_layFrom_50 : decode cX8_layFrom 50 = .ok (.iconst 1, 1) := by decide +kernel
theorem dX8_layFrom_51 : decode cX8_layFrom 51 = .ok (.iand, 1) := by decide +kernel
theorem dX8_layFrom_52 : decode cX8_layFrom 52 = .ok (.ifCond .ne 52, 3) := by decide +kernel
theorem dX8_layFrom_55 : decode cX8_layFrom 55 = .ok (.aload_n 0, 1) := by decide +kernel
theorem dX8_layFrom_56 : decode cX8_layFrom 56 = .ok (.getfield 9, 3) := by decide +kernel
theorem dX8_layFrom_59 : decode cX8_layFrom 59 = .ok (.iload_n 2, 1) := by decide +kernel
theorem dX8_layFrom_60 : decode cX8_layFrom 60 = .ok (.iload 5, 2) := by decide +kernel
theorem dX8_layFrom_62 : decode cX8_layFrom 62 = .ok (.iastore, 1) := by decide +kernel
theorem dX8_layFrom_63 : decode cX8_layFrom 63 = .ok (.aload_n 0, 1) := by decide +kernel
theorem dX8_layFrom_64 : decode cX8_layFrom 64 = .ok (.getfield 15, 3) := by decide +kernel
theorem dX8_layFrom_67 : decode cX8_layFrom 67 = .ok (.iload 5, 2) := by decide +kernel
theorem dX8_layFrom_69 : decode cX8_layFrom 69 = .ok (.iload_n 2, 1) := by decide +kernel
theorem dX8_layFrom_70 : decode cX8_layFrom 70 = .ok (.iastore, 1) := by decide +kernel
theorem dX8_layFrom_71 : decode cX8_layFrom 71 = .ok (.aload_n 0, 1) := by decide +kernel
theorem dX8_layFrom_72 : decode cX8_layFrom 72 = .ok (.aload_n 1, 1) := by decide +kernel
theorem dX8_layFrom_73 : decode cX8_layFrom 73 = .ok (.iload 5, 2) := by decide +kernel
theorem dX8_layFrom_75 : decode cX8_layFrom 75 = .ok (.iload_n 2, 1) := by decide +kernel
theorem dX8_layFrom_76 : decode cX8_layFrom 76 = .ok (.iload_n 3, 1) := by decide +kernel
theorem dX8_layFrom_77 : decode cX8_layFrom 77 = .ok (.iconst 1, 1) := by decide +kernel
theorem dX8_layFrom_78 : decode cX8_layFrom 78 = .ok (.iload 5, 2) := by decide +kernel
theorem dX8_layFrom_80 : decode cX8_layFrom 80 = .ok (.ishl, 1) := by decide +kernel
theorem dX8_layFrom_81 : decode cX8_layFrom 81 = .ok (.ior, 1) := by decide +kernel
theorem dX8_layFrom_82 : decode cX8_layFrom 82 = .ok (.invokevirtual 41, 3) := by decide +kernel
theorem dX8_layFrom_85 : decode cX8_layFrom 85 = .ok (.ifCond .eq 19, 3) := by decide +kernel
theorem dX8_layFrom_88 : decode cX8_layFrom 88 = .ok (.aload_n 0, 1) := by decide +kernel
theorem dX8_layFrom_89 : decode cX8_layFrom 89 = .ok (.aload_n 1, 1) := by decide +kernel
theorem dX8_layFrom_90 : decode cX8_layFrom 90 = .ok (.iload_n 2, 1) := by decide +kernel
theorem dX8_layFrom_91 : decode cX8_layFrom 91 = .ok (.iconst 1, 1) := by decide +kernel
theorem dX8_layFrom_92 : decode cX8_layFrom 92 = .ok (.iadd, 1) := by decide +kernel
theorem dX8_layFrom_93 : decode cX8_layFrom 93 = .ok (.iload_n 3, 1) := by decide +kernel
theorem dX8_layFrom_94 : decode cX8_layFrom 94 = .ok (.iconst 1, 1) := by decide +kernel
theorem dX8_layFrom_95 : decode cX8_layFrom 95 = .ok (.iload 5, 2) := by decide +kernel
theorem dX8_layFrom_97 : decode cX8_layFrom 97 = .ok (.ishl, 1) := by decide +kernel
theorem dX8_layFrom_98 : decode cX8_layFrom 98 = .ok (.ior, 1) := by decide +kernel
theorem dX8_layFrom_99 : decode cX8_layFrom 99 = .ok (.iload 4, 2) := by decide +kernel
theorem dX8_layFrom_101 : decode cX8_layFrom 101 = .ok (.invokevirtual 37, 3) := by decide +kernel
theorem dX8_layFrom_104 : decode cX8_layFrom 104 = .ok (.iinc 5 1, 3) := by decide +kernel
theorem dX8_layFrom_107 : decode cX8_layFrom 107 = .ok (.goto (-79), 3) := by decide +kernel
theorem dX8_layFrom_110 : decode cX8_layFrom 110 = .ok (.return_, 1) := by decide +kernel
theorem dX8_search_0 : decode cX8_search 0 = .ok (.iconst 0, 1) := by decide +kernel
theorem dX8_search_1 : decode cX8_search 1 = .ok (.istore_n 3, 1) := by decide +kernel
theorem dX8_search_2 : decode cX8_search 2 = .ok (.iload_n 3, 1) := by decide +kernel
theorem dX8_search_3 : decode cX8_search 3 = .ok (.aload_n 1, 1) := by decide +kernel
theorem dX8_search_4 : decode cX8_search 4 = .ok (.getfield 28, 3) := by decide +kernel
theorem dX8_search_7 : decode cX8_search 7 = .ok (.if_icmp .ge 44, 3) := by decide +kernel
theorem dX8_search_10 : decode cX8_search 10 = .ok (.iconst 1, 1) := by decide +kernel
theorem dX8_search_11 : decode cX8_search 11 = .ok (.istore 4, 2) := by decide +kernel
theorem dX8_search_13 : decode cX8_search 13 = .ok (.iload 4, 2) := by decide +kernel
theorem dX8_search_15 : decode cX8_search 15 = .ok (.bipush 10, 2) := by decide +kernel
theorem dX8_search_17 : decode cX8_search 17 = .ok (.if_icmp .ge 28, 3) := by decide +kernel
theorem dX8_search_20 : decode cX8_search 20 = .ok (.aload_n 0, 1) := by decide +kernel
theorem dX8_search_21 : decode cX8_search 21 = .ok (.getfield 18, 3) := by decide +kernel
theorem dX8_search_24 : decode cX8_search 24 = .ok (.iload_n 3, 1) := by decide +kernel
theorem dX8_search_25 : decode cX8_search 25 = .ok (.bipush 10, 2) := by decide +kernel
theorem dX8_search_27 : decode cX8_search 27 = .ok (.imul, 1) := by decide +kernel
theorem dX8_search_28 : decode cX8_search 28 = .ok (.iload 4, 2) := by decide +kernel
theorem dX8_search_30 : decode cX8_search 30 = .ok (.iadd, 1) := by decide +kernel
theorem dX8_search_31 : decode cX8_search 31 = .ok (.aload_n 1, 1) := by decide +kernel
theorem dX8_search_32 : decode cX8_search 32 = .ok (.iload_n 3, 1) := by decide +kernel
theorem dX8_search_33 : decode cX8_search 33 = .ok (.iload 4, 2) := by decide +kernel
theorem dX8_search_35 : decode cX8_search 35 = .ok (.invokevirtual 33, 3) := by decide +kernel
theorem dX8_search_38 : decode cX8_search 38 = .ok (.iastore, 1) := by decide +kernel
theorem dX8_search_39 : decode cX8_search 39 = .ok (.iinc 4 1, 3) := by decide +kernel
theorem dX8_search_42 : decode cX8_search 42 = .ok (.goto (-29), 3) := by decide +kernel
theorem dX8_search_45 : decode cX8_search 45 = .ok (.iinc 3 1, 3) := by decide +kernel
theorem dX8_search_48 : decode cX8_search 48 = .ok (.goto (-46), 3) := by decide +kernel
theorem dX8_search_51 : decode cX8_search 51 = .ok (.aload_n 0, 1) := by decide +kernel
theorem dX8_search_52 : decode cX8_search 52 = .ok (.iconst 0, 1) := by decide +kernel
theorem dX8_search_53 : decode cX8_search 53 = .ok (.putfield 24, 3) := by decide +kernel
theorem dX8_search_56 : decode cX8_search 56 = .ok (.aload_n 0, 1) := by decide +kernel
theorem dX8_search_57 : decode cX8_search 57 = .ok (.aload_n 1, 1) := by decide +kernel
theorem dX8_search_58 : decode cX8_search 58 = .ok (.iconst 0, 1) := by decide +kernel
theorem dX8_search_59 : decode cX8_search 59 = .ok (.iconst 0, 1) := by decide +kernel
theorem dX8_search_60 : decode cX8_search 60 = .ok (.iload_n 2, 1) := by decide +kernel
theorem dX8_search_61 : decode cX8_search 61 = .ok (.invokevirtual 37, 3) := by decide +kernel
theorem dX8_search_64 : decode cX8_search 64 = .ok (.aload_n 0, 1) := by decide +kernel
theorem dX8_search_65 : decode cX8_search 65 = .ok (.getfield 24, 3) := by decide +kernel
theorem dX8_search_68 : decode cX8_search 68 = .ok (.ireturn, 1) := by decide +kernel
set_option maxHeartbeats 4000000 in
set_option maxRecDepth 100000 in
theorem vlX7_isWord_28 (C : VC pr s m args meth c E A cX7_isWord 3 (some .boolean) RX7) (hA : va_A w0 s.heap.size = A) (a : Nat → Nat) (x1 : Nat) (p : St) {Post : Int32 → Prop} {KX : Prop} (hX : KX → V pr l e rmX7_isWord s m args below meth c E A 3 0 0 (MQ below (CQi E (fun (z : Int32) (_ : Unit) => Post z) (fun _ => (fl [bReader E a p])) w0 s.heap.size) args s 0 0 A) (fl [bReader E a p]) 63 [] []) : ∀ (n : Nat) (x2 : Int32), wLX7_isWord_28 x1 p Post KX n x2 → V pr l e rmX7_isWord s m args below meth c E A 3 0 0 (MQ below (CQi E (fun (z : Int32) (_ : Unit) => Post z) (fun _ => (fl [bReader E a p])) w0 s.heap.size) args s 0 0 A) (fl [bReader E a p]) 28 [(0, .ref (a 0)), (1, .ref (E.2.2.2.2.1 x1)), (2, .int x2)] [] := by
  intro n
  induction n with
  | zero => intro x2 hw; exact absurd hw id
  | succ n hself =>
    intro x2 hw
    have hw : wlX7_isWord_28 x1 p Post KX (wLX7_isWord_28 x1 p Post KX n) x2 := hw
    refine v_iload_n (pc := 28) C 2 rfl rfl dX7_isWord_28 ?_
    refine v_aload_n (pc := 29) C 1 rfl rfl dX7_isWord_29 ?_
    obtain ⟨hg, hw⟩ := hw
    refine v_slen (pc := 30) C [.int x2] hg wmX7_103 (by decide) (by decide) (Nat.le_of_ble_eq_true rfl) dX7_isWord_30 ?_
    refine v_icmp_ge (pc := 33) C 63 (by decide) dX7_isWord_33 (fun hc => ?_) (fun hc => ?_)
    · have hw := hw.1 hc
      refine v_sub (lv' := []) [] rfl ?_
      exact hX  hw
    · have hw := hw.2 hc
      refine v_aload_n (pc := 36) C 0 rfl rfl dX7_isWord_36 ?_
      refine v_get (pc := 37) C cfX7 rfl 0 0 rfl (by decide) wfX7_9 rfl dX7_isWord_37 ?_
      refine v_aload_n (pc := 40) C 0 rfl rfl dX7_isWord_40 ?_
      refine v_get (pc := 41) C cfX7 rfl 0 4 rfl (by decide) wfX7_25 rfl dX7_isWord_41 ?_
      refine v_iload_n (pc := 44) C 2 rfl rfl dX7_isWord_44 ?_
      refine v_iadd (pc := 45) C dX7_isWord_45 ?_
      obtain ⟨hg, hw⟩ := hw
      refine v_iald (pc := 46) C 1 rfl hg rfl dX7_isWord_46 ?_
      refine v_aload_n (pc := 47) C 1 rfl rfl dX7_isWord_47 ?_
      refine v_iload_n (pc := 48) C 2 rfl rfl dX7_isWord_48 ?_
      obtain ⟨hg, hg2, hw⟩ := hw
      refine v_scharAt (pc := 49) C [.int ((p.A 0) ((p.I 4) + x2).toNatClampNeg)] hg hg2 wmX7_107 (by decide) (by decide) (Nat.le_of_ble_eq_true rfl) dX7_isWord_49 ?_
      refine v_icmp_eq (pc := 52) C 57 (by decide) dX7_isWord_52 (fun hc => ?_) (fun hc => ?_)
      · have hw := hw.1 hc
        obtain ⟨x2_1, ex⟩ : ∃ y : Int32, y = x2 + 1 := ⟨_, rfl⟩
        have hw := hw x2_1 ex
        refine v_iinc (pc := 57) C 2 rfl (by rw [ex, ki_1]) [(2, .int x2_1), (0, .ref (a 0)), (1, .ref (E.2.2.2.2.1 x1))] rfl (by decide) dX7_isWord_57 ?_
        refine v_goto (pc := 60) C 28 (by decide) dX7_isWord_60 ?_
        refine v_sub (lv' := [(0, .ref (a 0)), (1, .ref (E.2.2.2.2.1 x1)), (2, .int x2_1)]) [1, 2, 0] rfl ?_
        exact hself x2_1 hw
      · have hw := hw.2 hc
        refine v_iconst (pc := 55) C 0 ki_0 dX7_isWord_55 ?_
        exact v_iretz (pc := 56) C rfl () hA rfl hw dX7_isWord_56
set_option maxHeartbeats 4000000 in
set_option maxRecDepth 100000 in
theorem ctX7_isWord (l : Launch) (E : VE) (a : Nat → Nat) (x1 : Nat) (p : St)  {Post : Int32 → Prop} (hw : wpX7_isWord x1 p Post) (sz : Nat) : Met l yX7_isWord (mW yX7_isWord cX7_isWord 3 (some .boolean)) rmX7_isWord (CPre E [.ref (a 0), .ref (E.2.2.2.2.1 x1)] sz (fl [bReader E a p])) (CQi E (fun (z : Int32) (_ : Unit) => Post z) (fun _ => (fl [bReader E a p])) (fl [bReader E a p]) sz) 0 0 (va_A (fl [bReader E a p]) sz) := by
  refine v_met (by decide) (Nat.le_of_ble_eq_true rfl) ?_
  intro pr e s m below meth c A hsz hA C
  subst hsz
  refine v_aload_n (pc := 0) C 0 rfl rfl dX7_isWord_0 ?_
  refine v_get (pc := 1) C cfX7 rfl 0 3 rfl (by decide) wfX7_22 rfl dX7_isWord_1 ?_
  refine v_iconst (pc := 4) C 1 ki_1 dX7_isWord_4 ?_
  refine v_icmp_ne (pc := 5) C 24 (by decide) dX7_isWord_5 (fun hc => ?_) (fun hc => ?_)
  · have hw := hw.1 hc
    refine v_iconst (pc := 24) C 0 ki_0 dX7_isWord_24 ?_
    exact v_iretz (pc := 25) C rfl () hA rfl hw dX7_isWord_25
  · have hw := hw.2 hc
    refine v_aload_n (pc := 8) C 0 rfl rfl dX7_isWord_8 ?_
    refine v_get (pc := 9) C cfX7 rfl 0 2 rfl (by decide) wfX7_19 rfl dX7_isWord_9 ?_
    refine v_aload_n (pc := 12) C 0 rfl rfl dX7_isWord_12 ?_
    refine v_get (pc := 13) C cfX7 rfl 0 4 rfl (by decide) wfX7_25 rfl dX7_isWord_13 ?_
    refine v_isub (pc := 16) C dX7_isWord_16 ?_
    refine v_aload_n (pc := 17) C 1 rfl rfl dX7_isWord_17 ?_
    obtain ⟨hg, hw⟩ := hw
    refine v_slen (pc := 18) C [.int ((p.I 2) - (p.I 4))] hg wmX7_103 (by decide) (by decide) (Nat.le_of_ble_eq_true rfl) dX7_isWord_18 ?_
    refine v_icmp_eq (pc := 21) C 26 (by decide) dX7_isWord_21 (fun hc => ?_) (fun hc => ?_)
    · have hw := hw.1 hc
      refine v_iconst (pc := 26) C 0 ki_0 dX7_isWord_26 ?_
      refine v_istore_n (pc := 27) C [(2, .int 0), (0, .ref (a 0)), (1, .ref (E.2.2.2.2.1 x1))] rfl rfl (by decide) dX7_isWord_27 ?_
      obtain ⟨n, hw⟩ := hw
      refine v_sub (lv' := [(0, .ref (a 0)), (1, .ref (E.2.2.2.2.1 x1)), (2, .int 0)]) [1, 2, 0] rfl ?_
      refine vlX7_isWord_28 C hA a x1 p (fun hw => ?_) n 0 hw
      refine v_iconst (pc := 63) C 1 ki_1 dX7_isWord_63 ?_
      exact v_iretz (pc := 64) C rfl () hA rfl hw dX7_isWord_64
    · have hw := hw.2 hc
      refine v_iconst (pc := 24) C 0 ki_0 dX7_isWord_24 ?_
      exact v_iretz (pc := 25) C rfl () hA rfl hw dX7_isWord_25
set_option maxHeartbeats 4000000 in
set_option maxRecDepth 100000 in
theorem ctX7_isNumber (l : Launch) (E : VE) (a : Nat → Nat) (x1 : Int32) (x2 : Int32) (p : St)  {Post : Int32 → Prop} (hw : wpX7_isNumber x1 x2 p Post) (sz : Nat) : Met l yX7_isNumber (mW yX7_isNumber cX7_isNumber 3 (some .boolean)) rmX7_isNumber (CPre E [.ref (a 0), .int x1, .int x2] sz (fl [bReader E a p])) (CQi E (fun (z : Int32) (_ : Unit) => Post z) (fun _ => (fl [bReader E a p])) (fl [bReader E a p]) sz) 0 0 (va_A (fl [bReader E a p]) sz) := by
  refine v_met (by decide) (Nat.le_of_ble_eq_true rfl) ?_
  intro pr e s m below meth c A hsz hA C
  subst hsz
  refine v_aload_n (pc := 0) C 0 rfl rfl dX7_isNumber_0 ?_
  refine v_get (pc := 1) C cfX7 rfl 0 3 rfl (by decide) wfX7_22 rfl dX7_isNumber_1 ?_
  refine v_iconst (pc := 4) C 2 ki_2 dX7_isNumber_4 ?_
  refine v_icmp_ne (pc := 5) C 28 (by decide) dX7_isNumber_5 (fun hc => ?_) (fun hc => ?_)
  · have hw := hw.1 hc
    refine v_iconst (pc := 28) C 0 ki_0 dX7_isNumber_28 ?_
    exact v_iretz (pc := 29) C rfl () hA rfl hw dX7_isNumber_29
  · have hw := hw.2 hc
    refine v_aload_n (pc := 8) C 0 rfl rfl dX7_isNumber_8 ?_
    refine v_get (pc := 9) C cfX7 rfl 0 5 rfl (by decide) wfX7_28 rfl dX7_isNumber_9 ?_
    refine v_iload_n (pc := 12) C 1 rfl rfl dX7_isNumber_12 ?_
    refine v_icmp_lt (pc := 13) C 28 (by decide) dX7_isNumber_13 (fun hc => ?_) (fun hc => ?_)
    · have hw := hw.1 hc
      refine v_iconst (pc := 28) C 0 ki_0 dX7_isNumber_28 ?_
      exact v_iretz (pc := 29) C rfl () hA rfl hw dX7_isNumber_29
    · have hw := hw.2 hc
      refine v_aload_n (pc := 16) C 0 rfl rfl dX7_isNumber_16 ?_
      refine v_get (pc := 17) C cfX7 rfl 0 5 rfl (by decide) wfX7_28 rfl dX7_isNumber_17 ?_
      refine v_iload_n (pc := 20) C 2 rfl rfl dX7_isNumber_20 ?_
      refine v_icmp_gt (pc := 21) C 28 (by decide) dX7_isNumber_21 (fun hc => ?_) (fun hc => ?_)
      · have hw := hw.1 hc
        refine v_iconst (pc := 28) C 0 ki_0 dX7_isNumber_28 ?_
        exact v_iretz (pc := 29) C rfl () hA rfl hw dX7_isNumber_29
      · have hw := hw.2 hc
        refine v_iconst (pc := 24) C 1 ki_1 dX7_isNumber_24 ?_
        refine v_goto (pc := 25) C 29 (by decide) dX7_isNumber_25 ?_
        exact v_iretz (pc := 29) C rfl () hA rfl hw dX7_isNumber_29
set_option maxHeartbeats 4000000 in
set_option maxRecDepth 100000 in
theorem ctX7_passStop (l : Launch) (E : VE) (a : Nat → Nat)  (p : St)  {Post : Int32 → St → Prop} (hw : wpX7_passStop p Post) (sz : Nat) : Met l yX7_passStop (mW yX7_passStop cX7_passStop 1 (some .boolean)) rmX7_passStop (CPre E [.ref (a 0)] sz (fl [bReader E a p])) (CQi E Post (fun u => (fl [bReader E a u])) (fl [bReader E a p]) sz) 0 0 (va_A (fl [bReader E a p]) sz) := by
  refine v_met (by decide) (Nat.le_of_ble_eq_true rfl) ?_
  intro pr e s m below meth c A hsz hA C
  subst hsz
  refine v_aload_n (pc := 0) C 0 rfl rfl dX7_passStop_0 ?_
  refine v_get (pc := 1) C cfX7 rfl 0 3 rfl (by decide) wfX7_22 rfl dX7_passStop_1 ?_
  refine v_iconst (pc := 4) C 3 ki_3 dX7_passStop_4 ?_
  refine v_icmp_eq (pc := 5) C 10 (by decide) dX7_passStop_5 (fun hc => ?_) (fun hc => ?_)
  · have hw := hw.1 hc
    refine v_aload_n (pc := 10) C 0 rfl rfl dX7_passStop_10 ?_
    refine v_goAv (pc := 11) C (wc' := (fun (u : St) => (fl [bReader E a u]))) (fun _ => rfl) (v_runVA (pc := 11) C [] [] (fun sz => ctX7_step l E a p hw sz) mfX7_step mvX7_step wmX7_37 rfl ⟨Nat.le_of_ble_eq_true rfl, Nat.le_of_ble_eq_true rfl⟩ ⟨rfl, rfl⟩ 0 (ci := 7) (qc := (RX7, TX7, 8)) rfl rfl rfl rfl (Nat.le_of_ble_eq_true rfl) ⟨Nat.zero_le _, Nat.zero_le _⟩ dX7_passStop_11) (fun p1 hw => ?_)
    refine v_iconst (pc := 14) C 1 ki_1 dX7_passStop_14 ?_
    exact v_iretz (pc := 15) C rfl p1 hA rfl hw dX7_passStop_15
  · have hw := hw.2 hc
    refine v_iconst (pc := 8) C 0 ki_0 dX7_passStop_8 ?_
    exact v_iretz (pc := 9) C rfl p hA rfl hw dX7_passStop_9
set_option maxHeartbeats 4000000 in
set_option maxRecDepth 100000 in
theorem ctX7_readFirst (l : Launch) (E : VE) (a : Nat → Nat) (b : Nat → Nat)  (p : St) (q : St)  {Post : Int32 → (St × St) → Prop} (hw : wpX7_readFirst p q Post) (sz : Nat) : Met l yX7_readFirst (mW yX7_readFirst cX7_readFirst 2 (some .boolean)) rmX7_readFirst (CPre E [.ref (a 0), .ref (b 0)] sz (fl [bReader E a p, bPad E b q])) (CQi E Post (fun u => (fl [bReader E a u.1, bPad E b u.2])) (fl [bReader E a p, bPad E b q]) sz) 0 0 (va_A (fl [bReader E a p, bPad E b q]) sz) := by
  refine v_met (by decide) (Nat.le_of_ble_eq_true rfl) ?_
  intro pr e s m below meth c A hsz hA C
  subst hsz
  refine v_aload_n (pc := 0) C 0 rfl rfl dX7_readFirst_0 ?_
  refine v_ldcS0 (pc := 1) C dX7_readFirst_1 ?_
  refine v_goBi (pc := 3) C (bs := [bReader E a p, bPad E b q]) (cs := [bReader E a p]) (cs' := (fun (_ : Unit) => [bReader E a p])) (bs' := (fun (_ : Unit) => [bReader E a p, bPad E b q])) (w' := (fun (_ : Unit) => (fl [bReader E a p, bPad E b q]))) [0] rfl rfl (fun _ => rfl) (fun _ => rfl) (fun _ => rfl) (v_runVB (pc := 3) C [.ref (E.2.2.2.2.1 0)] [] (fun sz => ctX7_isWord l E a 0 p hw sz) [0] rfl rfl rfl mfX7_isWord mvX7_isWord wmX7_50 rfl ⟨Nat.le_of_ble_eq_true rfl, Nat.le_of_ble_eq_true rfl⟩ ⟨rfl, rfl⟩ 0 (ci := 7) (qc := (RX7, TX7, 8)) rfl rfl rfl rfl (Nat.le_of_ble_eq_true rfl) ⟨Nat.zero_le _, Nat.zero_le _⟩ dX7_readFirst_3) (fun r1 _ hw => ?_)
  refine v_if_ne (pc := 6) C 11 (by decide) dX7_readFirst_6 (fun hc => ?_) (fun hc => ?_)
  · have hw := hw.1 hc
    refine v_aload_n (pc := 11) C 0 rfl rfl dX7_readFirst_11 ?_
    refine v_goBv (pc := 12) C (bs := [bReader E a p, bPad E b q]) (cs := [bReader E a p]) (cs' := (fun (u : St) => [bReader E a u])) (bs' := (fun (u : St) => [bReader E a u, bPad E b q])) (w' := (fun (u : St) => (fl [bReader E a u, bPad E b q]))) [0] rfl rfl (fun _ => rfl) (fun _ => rfl) (fun _ => rfl) (v_runVB (pc := 12) C [] [] (fun sz => ctX7_step l E a p hw sz) [0] rfl rfl rfl mfX7_step mvX7_step wmX7_37 rfl ⟨Nat.le_of_ble_eq_true rfl, Nat.le_of_ble_eq_true rfl⟩ ⟨rfl, rfl⟩ 0 (ci := 7) (qc := (RX7, TX7, 8)) rfl rfl rfl rfl (Nat.le_of_ble_eq_true rfl) ⟨Nat.zero_le _, Nat.zero_le _⟩ dX7_readFirst_12) (fun p2 hw => ?_)
    refine v_aload_n (pc := 15) C 0 rfl rfl dX7_readFirst_15 ?_
    refine v_iconst (pc := 16) C 1 ki_1 dX7_readFirst_16 ?_
    refine v_bipush (pc := 17) C 6 kb_6 dX7_readFirst_17 ?_
    refine v_goBi (pc := 19) C (bs := [bReader E a p2, bPad E b q]) (cs := [bReader E a p2]) (cs' := (fun (_ : Unit) => [bReader E a p2])) (bs' := (fun (_ : Unit) => [bReader E a p2, bPad E b q])) (w' := (fun (_ : Unit) => (fl [bReader E a p2, bPad E b q]))) [0] rfl rfl (fun _ => rfl) (fun _ => rfl) (fun _ => rfl) (v_runVB (pc := 19) C [.int 1, .int 6] [] (fun sz => ctX7_isNumber l E a 1 6 p2 hw sz) [0] rfl rfl rfl mfX7_isNumber mvX7_isNumber wmX7_54 rfl ⟨Nat.le_of_ble_eq_true rfl, Nat.le_of_ble_eq_true rfl⟩ ⟨rfl, rfl⟩ 0 (ci := 7) (qc := (RX7, TX7, 8)) rfl rfl rfl rfl (Nat.le_of_ble_eq_true rfl) ⟨Nat.zero_le _, Nat.zero_le _⟩ dX7_readFirst_19) (fun r3 _ hw => ?_)
    refine v_if_ne (pc := 22) C 27 (by decide) dX7_readFirst_22 (fun hc => ?_) (fun hc => ?_)
    · have hw := hw.1 hc
      refine v_aload_n (pc := 27) C 1 rfl rfl dX7_readFirst_27 ?_
      refine v_aload_n (pc := 28) C 0 rfl rfl dX7_readFirst_28 ?_
      refine v_get (pc := 29) C cfX7 rfl 0 5 rfl (by decide) wfX7_28 rfl dX7_readFirst_29 ?_
      refine v_goBv (pc := 32) C (bs := [bReader E a p2, bPad E b q]) (cs := [bPad E b q]) (cs' := (fun (u : St) => [bPad E b u])) (bs' := (fun (u : St) => [bReader E a p2, bPad E b u])) (w' := (fun (u : St) => (fl [bReader E a p2, bPad E b u]))) [1] rfl rfl (fun _ => rfl) (fun _ => rfl) (fun _ => rfl) (v_runVB (pc := 32) C [.int (p2.I 5)] [] (fun sz => ctX4_beginAnew l E b (p2.I 5) q hw sz) [1] rfl rfl rfl mfX4_beginAnew mvX4_beginAnew wmX7_58 rfl ⟨Nat.le_of_ble_eq_true rfl, Nat.le_of_ble_eq_true rfl⟩ ⟨rfl, rfl⟩ 2 (ci := 4) (qc := (RX4, TX4, 12)) rfl rfl rfl rfl (Nat.le_of_ble_eq_true rfl) ⟨Nat.zero_le _, Nat.zero_le _⟩ dX7_readFirst_32) (fun p4 hw => ?_)
      refine v_aload_n (pc := 35) C 0 rfl rfl dX7_readFirst_35 ?_
      refine v_goBv (pc := 36) C (bs := [bReader E a p2, bPad E b p4]) (cs := [bReader E a p2]) (cs' := (fun (u : St) => [bReader E a u])) (bs' := (fun (u : St) => [bReader E a u, bPad E b p4])) (w' := (fun (u : St) => (fl [bReader E a u, bPad E b p4]))) [0] rfl rfl (fun _ => rfl) (fun _ => rfl) (fun _ => rfl) (v_runVB (pc := 36) C [] [] (fun sz => ctX7_step l E a p2 hw sz) [0] rfl rfl rfl mfX7_step mvX7_step wmX7_37 rfl ⟨Nat.le_of_ble_eq_true rfl, Nat.le_of_ble_eq_true rfl⟩ ⟨rfl, rfl⟩ 0 (ci := 7) (qc := (RX7, TX7, 8)) rfl rfl rfl rfl (Nat.le_of_ble_eq_true rfl) ⟨Nat.zero_le _, Nat.zero_le _⟩ dX7_readFirst_36) (fun p5 hw => ?_)
      refine v_aload_n (pc := 39) C 0 rfl rfl dX7_readFirst_39 ?_
      refine v_goBi (pc := 40) C (bs := [bReader E a p5, bPad E b p4]) (cs := [bReader E a p5]) (cs' := (fun (u : St) => [bReader E a u])) (bs' := (fun (u : St) => [bReader E a u, bPad E b p4])) (w' := (fun (u : St) => (fl [bReader E a u, bPad E b p4]))) [0] rfl rfl (fun _ => rfl) (fun _ => rfl) (fun _ => rfl) (v_runVB (pc := 40) C [] [] (fun sz => ctX7_passStop l E a p5 hw sz) [0] rfl rfl rfl mfX7_passStop mvX7_passStop wmX7_64 rfl ⟨Nat.le_of_ble_eq_true rfl, Nat.le_of_ble_eq_true rfl⟩ ⟨rfl, rfl⟩ 0 (ci := 7) (qc := (RX7, TX7, 8)) rfl rfl rfl rfl (Nat.le_of_ble_eq_true rfl) ⟨Nat.zero_le _, Nat.zero_le _⟩ dX7_readFirst_40) (fun r6 p7 hw => ?_)
      exact v_iretz (pc := 43) C hw.1 (p7, p4) hA rfl hw.2 dX7_readFirst_43
    · have hw := hw.2 hc
      refine v_iconst (pc := 25) C 0 ki_0 dX7_readFirst_25 ?_
      exact v_iretz (pc := 26) C rfl (p2, q) hA rfl hw dX7_readFirst_26
  · have hw := hw.2 hc
    refine v_iconst (pc := 9) C 0 ki_0 dX7_readFirst_9 ?_
    exact v_iretz (pc := 10) C rfl (p, q) hA rfl hw dX7_readFirst_10
set_option maxHeartbeats 4000000 in
set_option maxRecDepth 100000 in
theorem ctX7_readCarbon (l : Launch) (E : VE) (a : Nat → Nat) (b : Nat → Nat)  (p : St) (q : St)  {Post : Int32 → (St × St) → Prop} (hw : wpX7_readCarbon p q Post) (sz : Nat) : Met l yX7_readCarbon (mW yX7_readCarbon cX7_readCarbon 2 (some .boolean)) rmX7_readCarbon (CPre E [.ref (a 0), .ref (b 0)] sz (fl [bReader E a p, bPad E b q])) (CQi E Post (fun u => (fl [bReader E a u.1, bPad E b u.2])) (fl [bReader E a p, bPad E b q]) sz) 0 0 (va_A (fl [bReader E a p, bPad E b q]) sz) := by
  refine v_met (by decide) (Nat.le_of_ble_eq_true rfl) ?_
  intro pr e s m below meth c A hsz hA C
  subst hsz
  refine v_aload_n (pc := 0) C 0 rfl rfl dX7_readCarbon_0 ?_
  refine v_goBv (pc := 1) C (bs := [bReader E a p, bPad E b q]) (cs := [bReader E a p]) (cs' := (fun (u : St) => [bReader E a u])) (bs' := (fun (u : St) => [bReader E a u, bPad E b q])) (w' := (fun (u : St) => (fl [bReader E a u, bPad E b q]))) [0] rfl rfl (fun _ => rfl) (fun _ => rfl) (fun _ => rfl) (v_runVB (pc := 1) C [] [] (fun sz => ctX7_step l E a p hw sz) [0] rfl rfl rfl mfX7_step mvX7_step wmX7_37 rfl ⟨Nat.le_of_ble_eq_true rfl, Nat.le_of_ble_eq_true rfl⟩ ⟨rfl, rfl⟩ 0 (ci := 7) (qc := (RX7, TX7, 8)) rfl rfl rfl rfl (Nat.le_of_ble_eq_true rfl) ⟨Nat.zero_le _, Nat.zero_le _⟩ dX7_readCarbon_1) (fun p1 hw => ?_)
  refine v_aload_n (pc := 4) C 0 rfl rfl dX7_readCarbon_4 ?_
  refine v_iconst (pc := 5) C 0 ki_0 dX7_readCarbon_5 ?_
  refine v_aload_n (pc := 6) C 1 rfl rfl dX7_readCarbon_6 ?_
  refine v_getN (pc := 7) C cfX4 rfl 2 3 rfl (by decide) wfX7_97 rfl dX7_readCarbon_7 ?_
  refine v_iconst (pc := 10) C 1 ki_1 dX7_readCarbon_10 ?_
  refine v_isub (pc := 11) C dX7_readCarbon_11 ?_
  refine v_goBi (pc := 12) C (bs := [bReader E a p1, bPad E b q]) (cs := [bReader E a p1]) (cs' := (fun (_ : Unit) => [bReader E a p1])) (bs' := (fun (_ : Unit) => [bReader E a p1, bPad E b q])) (w' := (fun (_ : Unit) => (fl [bReader E a p1, bPad E b q]))) [0] rfl rfl (fun _ => rfl) (fun _ => rfl) (fun _ => rfl) (v_runVB (pc := 12) C [.int 0, .int ((q.I 3) - 1)] [] (fun sz => ctX7_isNumber l E a 0 ((q.I 3) - 1) p1 hw sz) [0] rfl rfl rfl mfX7_isNumber mvX7_isNumber wmX7_54 rfl ⟨Nat.le_of_ble_eq_true rfl, Nat.le_of_ble_eq_true rfl⟩ ⟨rfl, rfl⟩ 0 (ci := 7) (qc := (RX7, TX7, 8)) rfl rfl rfl rfl (Nat.le_of_ble_eq_true rfl) ⟨Nat.zero_le _, Nat.zero_le _⟩ dX7_readCarbon_12) (fun r2 _ hw => ?_)
  refine v_if_ne (pc := 15) C 20 (by decide) dX7_readCarbon_15 (fun hc => ?_) (fun hc => ?_)
  · have hw := hw.1 hc
    refine v_aload_n (pc := 20) C 1 rfl rfl dX7_readCarbon_20 ?_
    refine v_dup (pc := 21) C rfl dX7_readCarbon_21 ?_
    refine v_getN (pc := 22) C cfX4 rfl 2 4 rfl (by decide) wfX7_100 rfl dX7_readCarbon_22 ?_
    refine v_iconst (pc := 25) C 1 ki_1 dX7_readCarbon_25 ?_
    refine v_aload_n (pc := 26) C 0 rfl rfl dX7_readCarbon_26 ?_
    refine v_get (pc := 27) C cfX7 rfl 0 5 rfl (by decide) wfX7_28 rfl dX7_readCarbon_27 ?_
    refine v_ishl (pc := 30) C dX7_readCarbon_30 ?_
    refine v_ior (pc := 31) C dX7_readCarbon_31 ?_
    obtain ⟨p3, es⟩ : ∃ y : St, y = q.sI 4 ((q.I 4) ||| ((1 : Int32) <<< ((p1.I 5) &&& 31))) := ⟨_, rfl⟩
    have hw := hw p3 es
    refine v_putN (pc := 32) C cfX4 rfl 2 4 (ty := .int) (w' := (fl [bReader E a p1, bPad E b p3])) rfl (by subst es; rfl) (by decide) wfX7_100 rfl rfl rfl rfl (Nat.le_of_ble_eq_true rfl) dX7_readCarbon_32 ?_
    refine v_aload_n (pc := 35) C 0 rfl rfl dX7_readCarbon_35 ?_
    refine v_goBv (pc := 36) C (bs := [bReader E a p1, bPad E b p3]) (cs := [bReader E a p1]) (cs' := (fun (u : St) => [bReader E a u])) (bs' := (fun (u : St) => [bReader E a u, bPad E b p3])) (w' := (fun (u : St) => (fl [bReader E a u, bPad E b p3]))) [0] rfl rfl (fun _ => rfl) (fun _ => rfl) (fun _ => rfl) (v_runVB (pc := 36) C [] [] (fun sz => ctX7_step l E a p1 hw sz) [0] rfl rfl rfl mfX7_step mvX7_step wmX7_37 rfl ⟨Nat.le_of_ble_eq_true rfl, Nat.le_of_ble_eq_true rfl⟩ ⟨rfl, rfl⟩ 0 (ci := 7) (qc := (RX7, TX7, 8)) rfl rfl rfl rfl (Nat.le_of_ble_eq_true rfl) ⟨Nat.zero_le _, Nat.zero_le _⟩ dX7_readCarbon_36) (fun p4 hw => ?_)
    refine v_aload_n (pc := 39) C 0 rfl rfl dX7_readCarbon_39 ?_
    refine v_goBi (pc := 40) C (bs := [bReader E a p4, bPad E b p3]) (cs := [bReader E a p4]) (cs' := (fun (u : St) => [bReader E a u])) (bs' := (fun (u : St) => [bReader E a u, bPad E b p3])) (w' := (fun (u : St) => (fl [bReader E a u, bPad E b p3]))) [0] rfl rfl (fun _ => rfl) (fun _ => rfl) (fun _ => rfl) (v_runVB (pc := 40) C [] [] (fun sz => ctX7_passStop l E a p4 hw sz) [0] rfl rfl rfl mfX7_passStop mvX7_passStop wmX7_64 rfl ⟨Nat.le_of_ble_eq_true rfl, Nat.le_of_ble_eq_true rfl⟩ ⟨rfl, rfl⟩ 0 (ci := 7) (qc := (RX7, TX7, 8)) rfl rfl rfl rfl (Nat.le_of_ble_eq_true rfl) ⟨Nat.zero_le _, Nat.zero_le _⟩ dX7_readCarbon_40) (fun r5 p6 hw => ?_)
    exact v_iretz (pc := 43) C hw.1 (p6, p3) hA rfl hw.2 dX7_readCarbon_43
  · have hw := hw.2 hc
    refine v_iconst (pc := 18) C 0 ki_0 dX7_readCarbon_18 ?_
    exact v_iretz (pc := 19) C rfl (p1, q) hA rfl hw dX7_readCarbon_19
set_option maxHeartbeats 4000000 in
set_option maxRecDepth 100000 in
theorem ctX7_readPen (l : Launch) (E : VE) (a : Nat → Nat)  (p : St)  {Post : Int32 → St → Prop} (hw : wpX7_readPen p Post) (sz : Nat) : Met l yX7_readPen (mW yX7_readPen cX7_readPen 1 (some .boolean)) rmX7_readPen (CPre E [.ref (a 0)] sz (fl [bReader E a p])) (CQi E Post (fun u => (fl [bReader E a u])) (fl [bReader E a p]) sz) 0 0 (va_A (fl [bReader E a p]) sz) := by
  refine v_met (by decide) (Nat.le_of_ble_eq_true rfl) ?_
  intro pr e s m below meth c A hsz hA C
  subst hsz
  refine v_aload_n (pc := 0) C 0 rfl rfl dX7_readPen_0 ?_
  refine v_iconst (pc := 1) C 0 ki_0 dX7_readPen_1 ?_
  refine v_iconst (pc := 2) C 5 ki_5 dX7_readPen_2 ?_
  refine v_goAi (pc := 3) C (wc' := (fun (_ : Unit) => (fl [bReader E a p]))) (fun _ => rfl) (v_runVA (pc := 3) C [.int 0, .int 5] [] (fun sz => ctX7_isNumber l E a 0 5 p hw sz) mfX7_isNumber mvX7_isNumber wmX7_54 rfl ⟨Nat.le_of_ble_eq_true rfl, Nat.le_of_ble_eq_true rfl⟩ ⟨rfl, rfl⟩ 0 (ci := 7) (qc := (RX7, TX7, 8)) rfl rfl rfl rfl (Nat.le_of_ble_eq_true rfl) ⟨Nat.zero_le _, Nat.zero_le _⟩ dX7_readPen_3) (fun r1 _ hw => ?_)
  refine v_if_ne (pc := 6) C 11 (by decide) dX7_readPen_6 (fun hc => ?_) (fun hc => ?_)
  · have hw := hw.1 hc
    refine v_aload_n (pc := 11) C 0 rfl rfl dX7_readPen_11 ?_
    refine v_aload_n (pc := 12) C 0 rfl rfl dX7_readPen_12 ?_
    refine v_get (pc := 13) C cfX7 rfl 0 5 rfl (by decide) wfX7_28 rfl dX7_readPen_13 ?_
    obtain ⟨p2, es⟩ : ∃ y : St, y = p.sI 6 (p.I 5) := ⟨_, rfl⟩
    have hw := hw p2 es
    refine v_put (pc := 16) C cfX7 rfl 0 6 (ty := .int) (w' := (fl [bReader E a p2])) rfl (by subst es; rfl) (by decide) wfX7_31 rfl rfl rfl rfl (Nat.le_of_ble_eq_true rfl) dX7_readPen_16 ?_
    refine v_aload_n (pc := 19) C 0 rfl rfl dX7_readPen_19 ?_
    refine v_goAv (pc := 20) C (wc' := (fun (u : St) => (fl [bReader E a u]))) (fun _ => rfl) (v_runVA (pc := 20) C [] [] (fun sz => ctX7_step l E a p2 hw sz) mfX7_step mvX7_step wmX7_37 rfl ⟨Nat.le_of_ble_eq_true rfl, Nat.le_of_ble_eq_true rfl⟩ ⟨rfl, rfl⟩ 0 (ci := 7) (qc := (RX7, TX7, 8)) rfl rfl rfl rfl (Nat.le_of_ble_eq_true rfl) ⟨Nat.zero_le _, Nat.zero_le _⟩ dX7_readPen_20) (fun p3 hw => ?_)
    refine v_aload_n (pc := 23) C 0 rfl rfl dX7_readPen_23 ?_
    refine v_iconst (pc := 24) C 1 ki_1 dX7_readPen_24 ?_
    refine v_bipush (pc := 25) C 9 kb_9 dX7_readPen_25 ?_
    refine v_goAi (pc := 27) C (wc' := (fun (_ : Unit) => (fl [bReader E a p3]))) (fun _ => rfl) (v_runVA (pc := 27) C [.int 1, .int 9] [] (fun sz => ctX7_isNumber l E a 1 9 p3 hw sz) mfX7_isNumber mvX7_isNumber wmX7_54 rfl ⟨Nat.le_of_ble_eq_true rfl, Nat.le_of_ble_eq_true rfl⟩ ⟨rfl, rfl⟩ 0 (ci := 7) (qc := (RX7, TX7, 8)) rfl rfl rfl rfl (Nat.le_of_ble_eq_true rfl) ⟨Nat.zero_le _, Nat.zero_le _⟩ dX7_readPen_27) (fun r4 _ hw => ?_)
    refine v_if_ne (pc := 30) C 35 (by decide) dX7_readPen_30 (fun hc => ?_) (fun hc => ?_)
    · have hw := hw.1 hc
      refine v_aload_n (pc := 35) C 0 rfl rfl dX7_readPen_35 ?_
      refine v_aload_n (pc := 36) C 0 rfl rfl dX7_readPen_36 ?_
      refine v_get (pc := 37) C cfX7 rfl 0 5 rfl (by decide) wfX7_28 rfl dX7_readPen_37 ?_
      obtain ⟨p5, es⟩ : ∃ y : St, y = p3.sI 7 (p3.I 5) := ⟨_, rfl⟩
      have hw := hw p5 es
      refine v_put (pc := 40) C cfX7 rfl 0 7 (ty := .int) (w' := (fl [bReader E a p5])) rfl (by subst es; rfl) (by decide) wfX7_34 rfl rfl rfl rfl (Nat.le_of_ble_eq_true rfl) dX7_readPen_40 ?_
      refine v_aload_n (pc := 43) C 0 rfl rfl dX7_readPen_43 ?_
      refine v_goAv (pc := 44) C (wc' := (fun (u : St) => (fl [bReader E a u]))) (fun _ => rfl) (v_runVA (pc := 44) C [] [] (fun sz => ctX7_step l E a p5 hw sz) mfX7_step mvX7_step wmX7_37 rfl ⟨Nat.le_of_ble_eq_true rfl, Nat.le_of_ble_eq_true rfl⟩ ⟨rfl, rfl⟩ 0 (ci := 7) (qc := (RX7, TX7, 8)) rfl rfl rfl rfl (Nat.le_of_ble_eq_true rfl) ⟨Nat.zero_le _, Nat.zero_le _⟩ dX7_readPen_44) (fun p6 hw => ?_)
      refine v_iconst (pc := 47) C 1 ki_1 dX7_readPen_47 ?_
      exact v_iretz (pc := 48) C rfl p6 hA rfl hw dX7_readPen_48
    · have hw := hw.2 hc
      refine v_iconst (pc := 33) C 0 ki_0 dX7_readPen_33 ?_
      exact v_iretz (pc := 34) C rfl p3 hA rfl hw dX7_readPen_34
  · have hw := hw.2 hc
    refine v_iconst (pc := 9) C 0 ki_0 dX7_readPen_9 ?_
    exact v_iretz (pc := 10) C rfl p hA rfl hw dX7_readPen_10
set_option maxHeartbeats 4000000 in
set_option maxRecDepth 100000 in
theorem vlX7_readCells_6 (C : VC pr s m args meth c E A cX7_readCells 4 (some .int) RX7) (hA : va_A w0 s.heap.size = A) (a : Nat → Nat)  {Post : Int32 → St → Prop} {KX : Int32 → St → Prop} (hX : ∀ (x1 : Int32) (p : St), KX x1 p → V pr l e rmX7_readCells s m args below meth c E A 4 0 0 (MQ below (CQi E Post (fun u => (fl [bReader E a u])) w0 s.heap.size) args s 0 0 A) (fl [bReader E a p]) 48 [(1, .int x1)] []) : ∀ (n : Nat) (x1 : Int32) (x2 : Int32) (x3 : Int32) (p : St), wLX7_readCells_6  Post KX n (x1, x2, x3, p) → V pr l e rmX7_readCells s m args below meth c E A 4 0 0 (MQ below (CQi E Post (fun u => (fl [bReader E a u])) w0 s.heap.size) args s 0 0 A) (fl [bReader E a p]) 6 [(0, .ref (a 0)), (1, .int x1), (2, .int x2), (3, .int x3)] [] := by
  intro n
  induction n with
  | zero => intro x1 x2 x3 p hw; exact absurd hw id
  | succ n hself =>
    intro x1 x2 x3 p hw
    have hw : wlX7_readCells_6  Post KX (wLX7_readCells_6  Post KX n) x1 x2 x3 p := hw
    refine v_iload_n (pc := 6) C 3 rfl rfl dX7_readCells_6 ?_
    refine v_bipush (pc := 7) C 12 kb_12 dX7_readCells_7 ?_
    refine v_icmp_ge (pc := 9) C 48 (by decide) dX7_readCells_9 (fun hc => ?_) (fun hc => ?_)
    · have hw := hw.1 hc
      refine v_sub (lv' := [(1, .int x1)]) [1] rfl ?_
      exact hX x1 p hw
    · have hw := hw.2 hc
      refine v_aload_n (pc := 12) C 0 rfl rfl dX7_readCells_12 ?_
      refine v_iload_n (pc := 13) C 2 rfl rfl dX7_readCells_13 ?_
      refine v_bipush (pc := 14) C 11 kb_11 dX7_readCells_14 ?_
      refine v_goAi (pc := 16) C (wc' := (fun (_ : Unit) => (fl [bReader E a p]))) (fun _ => rfl) (v_runVA (pc := 16) C [.int x2, .int 11] [] (fun sz => ctX7_isNumber l E a x2 11 p hw sz) mfX7_isNumber mvX7_isNumber wmX7_54 rfl ⟨Nat.le_of_ble_eq_true rfl, Nat.le_of_ble_eq_true rfl⟩ ⟨rfl, rfl⟩ 0 (ci := 7) (qc := (RX7, TX7, 8)) rfl rfl rfl rfl (Nat.le_of_ble_eq_true rfl) ⟨Nat.zero_le _, Nat.zero_le _⟩ dX7_readCells_16) (fun r1 _ hw => ?_)
      refine v_if_eq (pc := 19) C 48 (by decide) dX7_readCells_19 (fun hc => ?_) (fun hc => ?_)
      · have hw := hw.1 hc
        refine v_sub (lv' := [(1, .int x1)]) [1] rfl ?_
        exact hX x1 p hw
      · have hw := hw.2 hc
        refine v_iload_n (pc := 22) C 1 rfl rfl dX7_readCells_22 ?_
        refine v_iconst (pc := 23) C 1 ki_1 dX7_readCells_23 ?_
        refine v_aload_n (pc := 24) C 0 rfl rfl dX7_readCells_24 ?_
        refine v_get (pc := 25) C cfX7 rfl 0 5 rfl (by decide) wfX7_28 rfl dX7_readCells_25 ?_
        refine v_ishl (pc := 28) C dX7_readCells_28 ?_
        refine v_ior (pc := 29) C dX7_readCells_29 ?_
        refine v_topi (fun x1_2 ex => ?_)
        have hw := hw x1_2 ex
        refine v_istore_n (pc := 30) C [(1, .int x1_2), (0, .ref (a 0)), (2, .int x2), (3, .int x3)] rfl rfl (by decide) dX7_readCells_30 ?_
        refine v_aload_n (pc := 31) C 1 rfl rfl dX7_readCells_31 ?_
        refine v_get (pc := 32) C cfX7 rfl 0 5 rfl (by decide) wfX7_28 rfl dX7_readCells_32 ?_
        refine v_iconst (pc := 35) C 1 ki_1 dX7_readCells_35 ?_
        refine v_iadd (pc := 36) C dX7_readCells_36 ?_
        refine v_topi (fun x2_3 ex => ?_)
        have hw := hw x2_3 ex
        refine v_istore_n (pc := 37) C [(2, .int x2_3), (1, .int x1_2), (0, .ref (a 0)), (3, .int x3)] rfl rfl (by decide) dX7_readCells_37 ?_
        refine v_aload_n (pc := 38) C 2 rfl rfl dX7_readCells_38 ?_
        refine v_goAv (pc := 39) C (wc' := (fun (u : St) => (fl [bReader E a u]))) (fun _ => rfl) (v_runVA (pc := 39) C [] [] (fun sz => ctX7_step l E a p hw sz) mfX7_step mvX7_step wmX7_37 rfl ⟨Nat.le_of_ble_eq_true rfl, Nat.le_of_ble_eq_true rfl⟩ ⟨rfl, rfl⟩ 0 (ci := 7) (qc := (RX7, TX7, 8)) rfl rfl rfl rfl (Nat.le_of_ble_eq_true rfl) ⟨Nat.zero_le _, Nat.zero_le _⟩ dX7_readCells_39) (fun p4 hw => ?_)
        obtain ⟨x3_5, ex⟩ : ∃ y : Int32, y = x3 + 1 := ⟨_, rfl⟩
        have hw := hw x3_5 ex
        refine v_iinc (pc := 42) C 3 rfl (by rw [ex, ki_1]) [(3, .int x3_5), (2, .int x2_3), (1, .int x1_2), (0, .ref (a 0))] rfl (by decide) dX7_readCells_42 ?_
        refine v_goto (pc := 45) C 6 (by decide) dX7_readCells_45 ?_
        refine v_sub (lv' := [(0, .ref (a 0)), (1, .int x1_2), (2, .int x2_3), (3, .int x3_5)]) [3, 2, 1, 0] rfl ?_
        exact hself x1_2 x2_3 x3_5 p4 hw
set_option maxHeartbeats 4000000 in
set_option maxRecDepth 100000 in
theorem ctX7_readCells (l : Launch) (E : VE) (a : Nat → Nat)  (p : St)  {Post : Int32 → St → Prop} (hw : wpX7_readCells p Post) (sz : Nat) : Met l yX7_readCells (mW yX7_readCells cX7_readCells 4 (some .int)) rmX7_readCells (CPre E [.ref (a 0)] sz (fl [bReader E a p])) (CQi E Post (fun u => (fl [bReader E a u])) (fl [bReader E a p]) sz) 0 0 (va_A (fl [bReader E a p]) sz) := by
  refine v_met (by decide) (Nat.le_of_ble_eq_true rfl) ?_
  intro pr e s m below meth c A hsz hA C
  subst hsz
  refine v_iconst (pc := 0) C 0 ki_0 dX7_readCells_0 ?_
  refine v_istore_n (pc := 1) C [(1, .int 0), (0, .ref (a 0))] rfl rfl (by decide) dX7_readCells_1 ?_
  refine v_iconst (pc := 2) C 0 ki_0 dX7_readCells_2 ?_
  refine v_istore_n (pc := 3) C [(2, .int 0), (1, .int 0), (0, .ref (a 0))] rfl rfl (by decide) dX7_readCells_3 ?_
  refine v_iconst (pc := 4) C 0 ki_0 dX7_readCells_4 ?_
  refine v_istore_n (pc := 5) C [(3, .int 0), (2, .int 0), (1, .int 0), (0, .ref (a 0))] rfl rfl (by decide) dX7_readCells_5 ?_
  obtain ⟨n, hw⟩ := hw
  refine v_sub (lv' := [(0, .ref (a 0)), (1, .int 0), (2, .int 0), (3, .int 0)]) [3, 2, 1, 0] rfl ?_
  refine vlX7_readCells_6 C hA a  (fun y6 p7 hw => ?_) n 0 0 0 p hw
  refine v_iload_n (pc := 48) C 0 rfl rfl dX7_readCells_48 ?_
  exact v_ireti (pc := 49) C p7 hA rfl hw dX7_readCells_49
set_option maxHeartbeats 4000000 in
set_option maxRecDepth 100000 in
theorem vjX7_readItem_115 (C : VC pr s m args meth c E A cX7_readItem 6 (some .boolean) RX7) (hA : va_A w0 s.heap.size = A) (a : Nat → Nat) (b : Nat → Nat) (d : Nat → Nat)  {Post : Int32 → (St × St) → Prop} (p : St) (q : St) (hw : wjX7_readItem_115  Post p q) : V pr l e rmX7_readItem s m args below meth c E A 6 0 0 (MQ below (CQi E Post (fun u => (fl [bReader E a u.1, bPad E b u.2, bBox E d])) w0 s.heap.size) args s 0 0 A) (fl [bReader E a p, bPad E b q, bBox E d]) 115 [(0, .ref (a 0))] [] := by
  refine v_aload_n (pc := 115) C 0 rfl rfl dX7_readItem_115 ?_
  refine v_goBi (pc := 116) C (bs := [bReader E a p, bPad E b q, bBox E d]) (cs := [bReader E a p]) (cs' := (fun (u : St) => [bReader E a u])) (bs' := (fun (u : St) => [bReader E a u, bPad E b q, bBox E d])) (w' := (fun (u : St) => (fl [bReader E a u, bPad E b q, bBox E d]))) [0] rfl rfl (fun _ => rfl) (fun _ => rfl) (fun _ => rfl) (v_runVB (pc := 116) C [] [] (fun sz => ctX7_passStop l E a p hw sz) [0] rfl rfl rfl mfX7_passStop mvX7_passStop wmX7_64 rfl ⟨Nat.le_of_ble_eq_true rfl, Nat.le_of_ble_eq_true rfl⟩ ⟨rfl, rfl⟩ 0 (ci := 7) (qc := (RX7, TX7, 8)) rfl rfl rfl rfl (Nat.le_of_ble_eq_true rfl) ⟨Nat.zero_le _, Nat.zero_le _⟩ dX7_readItem_116) (fun r12 p13 hw => ?_)
  exact v_iretz (pc := 119) C hw.1 (p13, q) hA rfl hw.2 dX7_readItem_119
set_option maxHeartbeats 4000000 in
set_option maxRecDepth 100000 in
theorem vjX7_readItem_56 (C : VC pr s m args meth c E A cX7_readItem 6 (some .boolean) RX7) (hA : va_A w0 s.heap.size = A) (a : Nat → Nat) (b : Nat → Nat) (d : Nat → Nat)  {Post : Int32 → (St × St) → Prop} (x3 : Int32) (p : St) (q : St) (hw : wjX7_readItem_56  Post x3 p q) : V pr l e rmX7_readItem s m args below meth c E A 6 0 0 (MQ below (CQi E Post (fun u => (fl [bReader E a u.1, bPad E b u.2, bBox E d])) w0 s.heap.size) args s 0 0 A) (fl [bReader E a p, bPad E b q, bBox E d]) 56 [(0, .ref (a 0)), (1, .ref (b 0)), (2, .ref (d 0)), (3, .int x3)] [] := by
  refine v_aload_n (pc := 56) C 1 rfl rfl dX7_readItem_56 ?_
  refine v_goBi (pc := 57) C (bs := [bReader E a p, bPad E b q, bBox E d]) (cs := [bPad E b q]) (cs' := (fun (_ : Unit) => [bPad E b q])) (bs' := (fun (_ : Unit) => [bReader E a p, bPad E b q, bBox E d])) (w' := (fun (_ : Unit) => (fl [bReader E a p, bPad E b q, bBox E d]))) [1] rfl rfl (fun _ => rfl) (fun _ => rfl) (fun _ => rfl) (v_runVB (pc := 57) C [] [] (fun sz => ctX4_isUsedUp l E b q hw sz) [1] rfl rfl rfl mfX4_isUsedUp mvX4_isUsedUp wmX7_81 rfl ⟨Nat.le_of_ble_eq_true rfl, Nat.le_of_ble_eq_true rfl⟩ ⟨rfl, rfl⟩ 2 (ci := 4) (qc := (RX4, TX4, 12)) rfl rfl rfl rfl (Nat.le_of_ble_eq_true rfl) ⟨Nat.zero_le _, Nat.zero_le _⟩ dX7_readItem_57) (fun r4 _ hw => ?_)
  refine v_if_eq (pc := 60) C 65 (by decide) dX7_readItem_60 (fun hc => ?_) (fun hc => ?_)
  · have hw := hw.1 hc
    refine v_aload_n (pc := 65) C 0 rfl rfl dX7_readItem_65 ?_
    refine v_goBv (pc := 66) C (bs := [bReader E a p, bPad E b q, bBox E d]) (cs := [bReader E a p]) (cs' := (fun (u : St) => [bReader E a u])) (bs' := (fun (u : St) => [bReader E a u, bPad E b q, bBox E d])) (w' := (fun (u : St) => (fl [bReader E a u, bPad E b q, bBox E d]))) [0] rfl rfl (fun _ => rfl) (fun _ => rfl) (fun _ => rfl) (v_runVB (pc := 66) C [] [] (fun sz => ctX7_step l E a p hw sz) [0] rfl rfl rfl mfX7_step mvX7_step wmX7_37 rfl ⟨Nat.le_of_ble_eq_true rfl, Nat.le_of_ble_eq_true rfl⟩ ⟨rfl, rfl⟩ 0 (ci := 7) (qc := (RX7, TX7, 8)) rfl rfl rfl rfl (Nat.le_of_ble_eq_true rfl) ⟨Nat.zero_le _, Nat.zero_le _⟩ dX7_readItem_66) (fun p5 hw => ?_)
    refine v_iload_n (pc := 69) C 3 rfl rfl dX7_readItem_69 ?_
    refine v_if_eq (pc := 70) C 81 (by decide) dX7_readItem_70 (fun hc => ?_) (fun hc => ?_)
    · have hw := hw.1 hc
      refine v_aload_n (pc := 81) C 0 rfl rfl dX7_readItem_81 ?_
      refine v_goBi (pc := 82) C (bs := [bReader E a p5, bPad E b q, bBox E d]) (cs := [bReader E a p5]) (cs' := (fun (u : St) => [bReader E a u])) (bs' := (fun (u : St) => [bReader E a u, bPad E b q, bBox E d])) (w' := (fun (u : St) => (fl [bReader E a u, bPad E b q, bBox E d]))) [0] rfl rfl (fun _ => rfl) (fun _ => rfl) (fun _ => rfl) (v_runVB (pc := 82) C [] [] (fun sz => ctX7_readPen l E a p5 hw sz) [0] rfl rfl rfl mfX7_readPen mvX7_readPen wmX7_87 rfl ⟨Nat.le_of_ble_eq_true rfl, Nat.le_of_ble_eq_true rfl⟩ ⟨rfl, rfl⟩ 0 (ci := 7) (qc := (RX7, TX7, 8)) rfl rfl rfl rfl (Nat.le_of_ble_eq_true rfl) ⟨Nat.zero_le _, Nat.zero_le _⟩ dX7_readItem_82) (fun r6 p7 hw => ?_)
      refine v_if_eq (pc := 85) C 113 (by decide) dX7_readItem_85 (fun hc => ?_) (fun hc => ?_)
      · have hw := hw.1 hc
        refine v_iconst (pc := 113) C 0 ki_0 dX7_readItem_113 ?_
        exact v_iretz (pc := 114) C rfl (p7, q) hA rfl hw dX7_readItem_114
      · have hw := hw.2 hc
        refine v_aload_n (pc := 88) C 0 rfl rfl dX7_readItem_88 ?_
        refine v_goBi (pc := 89) C (bs := [bReader E a p7, bPad E b q, bBox E d]) (cs := [bReader E a p7]) (cs' := (fun (u : St) => [bReader E a u])) (bs' := (fun (u : St) => [bReader E a u, bPad E b q, bBox E d])) (w' := (fun (u : St) => (fl [bReader E a u, bPad E b q, bBox E d]))) [0] rfl rfl (fun _ => rfl) (fun _ => rfl) (fun _ => rfl) (v_runVB (pc := 89) C [] [] (fun sz => ctX7_readCells l E a p7 hw sz) [0] rfl rfl rfl mfX7_readCells mvX7_readCells wmX7_90 rfl ⟨Nat.le_of_ble_eq_true rfl, Nat.le_of_ble_eq_true rfl⟩ ⟨rfl, rfl⟩ 0 (ci := 7) (qc := (RX7, TX7, 8)) rfl rfl rfl rfl (Nat.le_of_ble_eq_true rfl) ⟨Nat.zero_le _, Nat.zero_le _⟩ dX7_readItem_89) (fun r8 p9 hw => ?_)
        refine v_istore (pc := 92) C [(5, .int r8), (0, .ref (a 0)), (1, .ref (b 0)), (2, .ref (d 0)), (3, .int x3)] rfl (by decide) dX7_readItem_92 ?_
        refine v_aload_n (pc := 94) C 2 rfl rfl dX7_readItem_94 ?_
        refine v_aload_n (pc := 95) C 3 rfl rfl dX7_readItem_95 ?_
        refine v_aload_n (pc := 96) C 1 rfl rfl dX7_readItem_96 ?_
        refine v_get (pc := 97) C cfX7 rfl 0 6 rfl (by decide) wfX7_31 rfl dX7_readItem_97 ?_
        refine v_aload_n (pc := 100) C 1 rfl rfl dX7_readItem_100 ?_
        refine v_get (pc := 101) C cfX7 rfl 0 7 rfl (by decide) wfX7_34 rfl dX7_readItem_101 ?_
        refine v_iload (pc := 104) C 0 rfl dX7_readItem_104 ?_
        refine v_goBi (pc := 106) C (bs := [bReader E a p9, bPad E b q, bBox E d]) (cs := [bPad E b q, bBox E d]) (cs' := (fun (u : St) => [bPad E b u, bBox E d])) (bs' := (fun (u : St) => [bReader E a p9, bPad E b u, bBox E d])) (w' := (fun (u : St) => (fl [bReader E a p9, bPad E b u, bBox E d]))) [1, 2] rfl rfl (fun _ => rfl) (fun _ => rfl) (fun _ => rfl) (v_runVB (pc := 106) C [.ref (d 0), .int (p9.I 6), .int (p9.I 7), .int r8] [] (fun sz => ctX4_putNote l E b d (p9.I 6) (p9.I 7) r8 q hw sz) [1, 2] rfl rfl rfl mfX4_putNote mvX4_putNote wmX7_93 rfl ⟨Nat.le_of_ble_eq_true rfl, Nat.le_of_ble_eq_true rfl⟩ ⟨rfl, rfl⟩ 2 (ci := 4) (qc := (RX4, TX4, 12)) rfl rfl rfl rfl (Nat.le_of_ble_eq_true rfl) ⟨Nat.zero_le _, Nat.zero_le _⟩ dX7_readItem_106) (fun r10 p11 hw => ?_)
        refine v_pop (pc := 109) C rfl dX7_readItem_109 ?_
        refine v_goto (pc := 110) C 115 (by decide) dX7_readItem_110 ?_
        refine v_sub (lv' := [(0, .ref (a 0))]) [1] rfl ?_
        exact vjX7_readItem_115 C hA a b d  p9 p11 hw
    · have hw := hw.2 hc
      refine v_aload_n (pc := 73) C 1 rfl rfl dX7_readItem_73 ?_
      refine v_goBi (pc := 74) C (bs := [bReader E a p5, bPad E b q, bBox E d]) (cs := [bPad E b q]) (cs' := (fun (u : St) => [bPad E b u])) (bs' := (fun (u : St) => [bReader E a p5, bPad E b u, bBox E d])) (w' := (fun (u : St) => (fl [bReader E a p5, bPad E b u, bBox E d]))) [1] rfl rfl (fun _ => rfl) (fun _ => rfl) (fun _ => rfl) (v_runVB (pc := 74) C [] [] (fun sz => ctX4_tearTop l E b q hw sz) [1] rfl rfl rfl mfX4_tearTop mvX4_tearTop wmX7_84 rfl ⟨Nat.le_of_ble_eq_true rfl, Nat.le_of_ble_eq_true rfl⟩ ⟨rfl, rfl⟩ 2 (ci := 4) (qc := (RX4, TX4, 12)) rfl rfl rfl rfl (Nat.le_of_ble_eq_true rfl) ⟨Nat.zero_le _, Nat.zero_le _⟩ dX7_readItem_74) (fun r14 p15 hw => ?_)
      refine v_pop (pc := 77) C rfl dX7_readItem_77 ?_
      refine v_goto (pc := 78) C 115 (by decide) dX7_readItem_78 ?_
      refine v_sub (lv' := [(0, .ref (a 0))]) [0] rfl ?_
      exact vjX7_readItem_115 C hA a b d  p5 p15 hw
  · have hw := hw.2 hc
    refine v_iconst (pc := 63) C 0 ki_0 dX7_readItem_63 ?_
    exact v_iretz (pc := 64) C rfl (p, q) hA rfl hw dX7_readItem_64
set_option maxHeartbeats 4000000 in
set_option maxRecDepth 100000 in
theorem vjX7_readItem_45 (C : VC pr s m args meth c E A cX7_readItem 6 (some .boolean) RX7) (hA : va_A w0 s.heap.size = A) (a : Nat → Nat) (b : Nat → Nat) (d : Nat → Nat)  {Post : Int32 → (St × St) → Prop} (x3 : Int32) (z0 : Int32) (p : St) (q : St) (hw : wjX7_readItem_45  Post x3 z0 p q) : V pr l e rmX7_readItem s m args below meth c E A 6 0 0 (MQ below (CQi E Post (fun u => (fl [bReader E a u.1, bPad E b u.2, bBox E d])) w0 s.heap.size) args s 0 0 A) (fl [bReader E a p, bPad E b q, bBox E d]) 45 [(0, .ref (a 0)), (1, .ref (b 0)), (2, .ref (d 0)), (3, .int x3)] [.int z0] := by
  refine v_istore (pc := 45) C [(4, .int z0), (0, .ref (a 0)), (1, .ref (b 0)), (2, .ref (d 0)), (3, .int x3)] rfl (by decide) dX7_readItem_45 ?_
  refine v_iload_n (pc := 47) C 4 rfl rfl dX7_readItem_47 ?_
  refine v_if_ne (pc := 48) C 56 (by decide) dX7_readItem_48 (fun hc => ?_) (fun hc => ?_)
  · have hw := hw.1 hc
    refine v_sub (lv' := [(0, .ref (a 0)), (1, .ref (b 0)), (2, .ref (d 0)), (3, .int x3)]) [1, 2, 3, 4] rfl ?_
    exact vjX7_readItem_56 C hA a b d  x3 p q hw
  · have hw := hw.2 hc
    refine v_iload (pc := 51) C 0 rfl dX7_readItem_51 ?_
    refine v_if_eq (pc := 53) C 63 (by decide) dX7_readItem_53 (fun hc => ?_) (fun hc => ?_)
    · have hw := hw.1 hc
      refine v_iconst (pc := 63) C 0 ki_0 dX7_readItem_63 ?_
      exact v_iretz (pc := 64) C rfl (p, q) hA rfl hw dX7_readItem_64
    · have hw := hw.2 hc
      refine v_sub (lv' := [(0, .ref (a 0)), (1, .ref (b 0)), (2, .ref (d 0)), (3, .int x3)]) [1, 2, 3, 4] rfl ?_
      exact vjX7_readItem_56 C hA a b d  x3 p q hw
set_option maxHeartbeats 4000000 in
set_option maxRecDepth 100000 in
theorem ctX7_readItem (l : Launch) (E : VE) (a : Nat → Nat) (b : Nat → Nat) (d : Nat → Nat)  (p : St) (q : St)  {Post : Int32 → (St × St) → Prop} (hw : wpX7_readItem p q Post) (sz : Nat) : Met l yX7_readItem (mW yX7_readItem cX7_readItem 6 (some .boolean)) rmX7_readItem (CPre E [.ref (a 0), .ref (b 0), .ref (d 0)] sz (fl [bReader E a p, bPad E b q, bBox E d])) (CQi E Post (fun u => (fl [bReader E a u.1, bPad E b u.2, bBox E d])) (fl [bReader E a p, bPad E b q, bBox E d]) sz) 0 0 (va_A (fl [bReader E a p, bPad E b q, bBox E d]) sz) := by
  refine v_met (by decide) (Nat.le_of_ble_eq_true rfl) ?_
  intro pr e s m below meth c A hsz hA C
  subst hsz
  refine v_aload_n (pc := 0) C 0 rfl rfl dX7_readItem_0 ?_
  refine v_ldcS1 (pc := 1) C dX7_readItem_1 ?_
  refine v_goBi (pc := 3) C (bs := [bReader E a p, bPad E b q, bBox E d]) (cs := [bReader E a p]) (cs' := (fun (_ : Unit) => [bReader E a p])) (bs' := (fun (_ : Unit) => [bReader E a p, bPad E b q, bBox E d])) (w' := (fun (_ : Unit) => (fl [bReader E a p, bPad E b q, bBox E d]))) [0] rfl rfl (fun _ => rfl) (fun _ => rfl) (fun _ => rfl) (v_runVB (pc := 3) C [.ref (E.2.2.2.2.1 1)] [] (fun sz => ctX7_isWord l E a 1 p hw sz) [0] rfl rfl rfl mfX7_isWord mvX7_isWord wmX7_50 rfl ⟨Nat.le_of_ble_eq_true rfl, Nat.le_of_ble_eq_true rfl⟩ ⟨rfl, rfl⟩ 0 (ci := 7) (qc := (RX7, TX7, 8)) rfl rfl rfl rfl (Nat.le_of_ble_eq_true rfl) ⟨Nat.zero_le _, Nat.zero_le _⟩ dX7_readItem_3) (fun r1 _ hw => ?_)
  refine v_if_eq (pc := 6) C 15 (by decide) dX7_readItem_6 (fun hc => ?_) (fun hc => ?_)
  · have hw := hw.1 hc
    refine v_aload_n (pc := 15) C 0 rfl rfl dX7_readItem_15 ?_
    refine v_ldcS2 (pc := 16) C dX7_readItem_16 ?_
    refine v_goBi (pc := 18) C (bs := [bReader E a p, bPad E b q, bBox E d]) (cs := [bReader E a p]) (cs' := (fun (_ : Unit) => [bReader E a p])) (bs' := (fun (_ : Unit) => [bReader E a p, bPad E b q, bBox E d])) (w' := (fun (_ : Unit) => (fl [bReader E a p, bPad E b q, bBox E d]))) [0] rfl rfl (fun _ => rfl) (fun _ => rfl) (fun _ => rfl) (v_runVB (pc := 18) C [.ref (E.2.2.2.2.1 2)] [] (fun sz => ctX7_isWord l E a 2 p hw sz) [0] rfl rfl rfl mfX7_isWord mvX7_isWord wmX7_50 rfl ⟨Nat.le_of_ble_eq_true rfl, Nat.le_of_ble_eq_true rfl⟩ ⟨rfl, rfl⟩ 0 (ci := 7) (qc := (RX7, TX7, 8)) rfl rfl rfl rfl (Nat.le_of_ble_eq_true rfl) ⟨Nat.zero_le _, Nat.zero_le _⟩ dX7_readItem_18) (fun r2 _ hw => ?_)
    refine v_istore_n (pc := 21) C [(3, .int r2), (0, .ref (a 0)), (1, .ref (b 0)), (2, .ref (d 0))] rfl rfl (by decide) dX7_readItem_21 ?_
    refine v_aload_n (pc := 22) C 1 rfl rfl dX7_readItem_22 ?_
    refine v_ldcS3 (pc := 23) C dX7_readItem_23 ?_
    refine v_goBi (pc := 25) C (bs := [bReader E a p, bPad E b q, bBox E d]) (cs := [bReader E a p]) (cs' := (fun (_ : Unit) => [bReader E a p])) (bs' := (fun (_ : Unit) => [bReader E a p, bPad E b q, bBox E d])) (w' := (fun (_ : Unit) => (fl [bReader E a p, bPad E b q, bBox E d]))) [0] rfl rfl (fun _ => rfl) (fun _ => rfl) (fun _ => rfl) (v_runVB (pc := 25) C [.ref (E.2.2.2.2.1 3)] [] (fun sz => ctX7_isWord l E a 3 p hw sz) [0] rfl rfl rfl mfX7_isWord mvX7_isWord wmX7_50 rfl ⟨Nat.le_of_ble_eq_true rfl, Nat.le_of_ble_eq_true rfl⟩ ⟨rfl, rfl⟩ 0 (ci := 7) (qc := (RX7, TX7, 8)) rfl rfl rfl rfl (Nat.le_of_ble_eq_true rfl) ⟨Nat.zero_le _, Nat.zero_le _⟩ dX7_readItem_25) (fun r3 _ hw => ?_)
    refine v_if_eq (pc := 28) C 44 (by decide) dX7_readItem_28 (fun hc => ?_) (fun hc => ?_)
    · have hw := hw.1 hc
      refine v_iconst (pc := 44) C 0 ki_0 dX7_readItem_44 ?_
      refine v_sub (lv' := [(0, .ref (a 0)), (1, .ref (b 0)), (2, .ref (d 0)), (3, .int r2)]) [1, 2, 3, 0] rfl ?_
      exact vjX7_readItem_45 C hA a b d  r2 0 p q hw
    · have hw := hw.2 hc
      refine v_aload_n (pc := 31) C 2 rfl rfl dX7_readItem_31 ?_
      refine v_goBi (pc := 32) C (bs := [bReader E a p, bPad E b q, bBox E d]) (cs := [bPad E b q]) (cs' := (fun (_ : Unit) => [bPad E b q])) (bs' := (fun (_ : Unit) => [bReader E a p, bPad E b q, bBox E d])) (w' := (fun (_ : Unit) => (fl [bReader E a p, bPad E b q, bBox E d]))) [1] rfl rfl (fun _ => rfl) (fun _ => rfl) (fun _ => rfl) (v_runVB (pc := 32) C [] [] (fun sz => ctX4_noteCount l E b q hw sz) [1] rfl rfl rfl mfX4_noteCount mvX4_noteCount wmX7_77 rfl ⟨Nat.le_of_ble_eq_true rfl, Nat.le_of_ble_eq_true rfl⟩ ⟨rfl, rfl⟩ 2 (ci := 4) (qc := (RX4, TX4, 12)) rfl rfl rfl rfl (Nat.le_of_ble_eq_true rfl) ⟨Nat.zero_le _, Nat.zero_le _⟩ dX7_readItem_32) (fun r16 _ hw => ?_)
      refine v_bipush (pc := 35) C 10 kb_10 dX7_readItem_35 ?_
      refine v_icmp_ge (pc := 37) C 44 (by decide) dX7_readItem_37 (fun hc => ?_) (fun hc => ?_)
      · have hw := hw.1 hc
        refine v_iconst (pc := 44) C 0 ki_0 dX7_readItem_44 ?_
        refine v_sub (lv' := [(0, .ref (a 0)), (1, .ref (b 0)), (2, .ref (d 0)), (3, .int r2)]) [1, 2, 3, 0] rfl ?_
        exact vjX7_readItem_45 C hA a b d  r2 0 p q hw
      · have hw := hw.2 hc
        refine v_iconst (pc := 40) C 1 ki_1 dX7_readItem_40 ?_
        refine v_goto (pc := 41) C 45 (by decide) dX7_readItem_41 ?_
        refine v_sub (lv' := [(0, .ref (a 0)), (1, .ref (b 0)), (2, .ref (d 0)), (3, .int r2)]) [1, 2, 3, 0] rfl ?_
        exact vjX7_readItem_45 C hA a b d  r2 1 p q hw
  · have hw := hw.2 hc
    refine v_aload_n (pc := 9) C 0 rfl rfl dX7_readItem_9 ?_
    refine v_aload_n (pc := 10) C 1 rfl rfl dX7_readItem_10 ?_
    refine v_goBi (pc := 11) C (bs := [bReader E a p, bPad E b q, bBox E d]) (cs := [bReader E a p, bPad E b q]) (cs' := (fun (u : (St × St)) => [bReader E a u.1, bPad E b u.2])) (bs' := (fun (u : (St × St)) => [bReader E a u.1, bPad E b u.2, bBox E d])) (w' := (fun (u : (St × St)) => (fl [bReader E a u.1, bPad E b u.2, bBox E d]))) [0, 1] rfl rfl (fun _ => rfl) (fun _ => rfl) (fun _ => rfl) (v_runVB (pc := 11) C [.ref (b 0)] [] (fun sz => ctX7_readCarbon l E a b p q hw sz) [0, 1] rfl rfl rfl mfX7_readCarbon mvX7_readCarbon wmX7_70 rfl ⟨Nat.le_of_ble_eq_true rfl, Nat.le_of_ble_eq_true rfl⟩ ⟨rfl, rfl⟩ 0 (ci := 7) (qc := (RX7, TX7, 8)) rfl rfl rfl rfl (Nat.le_of_ble_eq_true rfl) ⟨Nat.zero_le _, Nat.zero_le _⟩ dX7_readItem_11) (fun r17 u hw => ?_)
    obtain ⟨p18, p19⟩ := u
    have hw := hw p18 p19 rfl
    exact v_iretz (pc := 14) C hw.1 (p18, p19) hA rfl hw.2 dX7_readItem_14
set_option maxHeartbeats 4000000 in
set_option maxRecDepth 100000 in
theorem vlX7_readInto_24 (C : VC pr s m args meth c E A cX7_readInto 5 (some .int) RX7) (hA : va_A w0 s.heap.size = A) (a : Nat → Nat) (b : Nat → Nat) (d : Nat → Nat)  {Post : Int32 → (St × St) → Prop} {KX : Int32 → St → St → Prop} (hX : ∀ (x3 : Int32) (p : St) (q : St), KX x3 p q → V pr l e rmX7_readInto s m args below meth c E A 5 0 0 (MQ below (CQi E Post (fun u => (fl [bReader E a u.1, bPad E b u.2, bBox E d])) w0 s.heap.size) args s 0 0 A) (fl [bReader E a p, bPad E b q, bBox E d]) 59 [(3, .int x3)] []) : ∀ (n : Nat) (x3 : Int32) (x4 : Int32) (p : St) (q : St), wLX7_readInto_24  Post KX n (x3, x4, p, q) → V pr l e rmX7_readInto s m args below meth c E A 5 0 0 (MQ below (CQi E Post (fun u => (fl [bReader E a u.1, bPad E b u.2, bBox E d])) w0 s.heap.size) args s 0 0 A) (fl [bReader E a p, bPad E b q, bBox E d]) 24 [(0, .ref (a 0)), (1, .ref (b 0)), (2, .ref (d 0)), (3, .int x3), (4, .int x4)] [] := by
  intro n
  induction n with
  | zero => intro x3 x4 p q hw; exact absurd hw id
  | succ n hself =>
    intro x3 x4 p q hw
    have hw : wlX7_readInto_24  Post KX (wLX7_readInto_24  Post KX n) x3 x4 p q := hw
    refine v_iload (pc := 24) C 4 rfl dX7_readInto_24 ?_
    refine v_sipush (pc := 26) C 150 ks_150 dX7_readInto_26 ?_
    refine v_icmp_gt (pc := 29) C 59 (by decide) dX7_readInto_29 (fun hc => ?_) (fun hc => ?_)
    · have hw := hw.1 hc
      refine v_sub (lv' := [(3, .int x3)]) [3] rfl ?_
      exact hX x3 p q hw
    · have hw := hw.2 hc
      refine v_aload_n (pc := 32) C 0 rfl rfl dX7_readInto_32 ?_
      refine v_get (pc := 33) C cfX7 rfl 0 3 rfl (by decide) wfX7_22 rfl dX7_readInto_33 ?_
      refine v_if_eq (pc := 36) C 59 (by decide) dX7_readInto_36 (fun hc => ?_) (fun hc => ?_)
      · have hw := hw.1 hc
        refine v_sub (lv' := [(3, .int x3)]) [3] rfl ?_
        exact hX x3 p q hw
      · have hw := hw.2 hc
        refine v_aload_n (pc := 39) C 0 rfl rfl dX7_readInto_39 ?_
        refine v_aload_n (pc := 40) C 1 rfl rfl dX7_readInto_40 ?_
        refine v_aload_n (pc := 41) C 2 rfl rfl dX7_readInto_41 ?_
        refine v_goAi (pc := 42) C (wc' := (fun (u : (St × St)) => (fl [bReader E a u.1, bPad E b u.2, bBox E d]))) (fun _ => rfl) (v_runVA (pc := 42) C [.ref (b 0), .ref (d 0)] [] (fun sz => ctX7_readItem l E a b d p q hw sz) mfX7_readItem mvX7_readItem wmX7_44 rfl ⟨Nat.le_of_ble_eq_true rfl, Nat.le_of_ble_eq_true rfl⟩ ⟨rfl, rfl⟩ 0 (ci := 7) (qc := (RX7, TX7, 8)) rfl rfl rfl rfl (Nat.le_of_ble_eq_true rfl) ⟨Nat.zero_le _, Nat.zero_le _⟩ dX7_readInto_42) (fun r6 u hw => ?_)
        obtain ⟨p7, p8⟩ := u
        have hw := hw p7 p8 rfl
        refine v_if_ne (pc := 45) C 50 (by decide) dX7_readInto_45 (fun hc => ?_) (fun hc => ?_)
        · have hw := hw.1 hc
          obtain ⟨x3_9, ex⟩ : ∃ y : Int32, y = x3 + 1 := ⟨_, rfl⟩
          have hw := hw x3_9 ex
          refine v_iinc (pc := 50) C 3 rfl (by rw [ex, ki_1]) [(3, .int x3_9), (0, .ref (a 0)), (1, .ref (b 0)), (2, .ref (d 0)), (4, .int x4)] rfl (by decide) dX7_readInto_50 ?_
          obtain ⟨x4_10, ex⟩ : ∃ y : Int32, y = x4 + 1 := ⟨_, rfl⟩
          have hw := hw x4_10 ex
          refine v_iinc (pc := 53) C 4 rfl (by rw [ex, ki_1]) [(4, .int x4_10), (3, .int x3_9), (0, .ref (a 0)), (1, .ref (b 0)), (2, .ref (d 0))] rfl (by decide) dX7_readInto_53 ?_
          refine v_goto (pc := 56) C 24 (by decide) dX7_readInto_56 ?_
          refine v_sub (lv' := [(0, .ref (a 0)), (1, .ref (b 0)), (2, .ref (d 0)), (3, .int x3_9), (4, .int x4_10)]) [2, 3, 4, 1, 0] rfl ?_
          exact hself x3_9 x4_10 p7 p8 hw
        · have hw := hw.2 hc
          refine v_iconst (pc := 48) C (-1) ki_m1 dX7_readInto_48 ?_
          exact v_ireti (pc := 49) C (p7, p8) hA rfl hw dX7_readInto_49
set_option maxHeartbeats 4000000 in
set_option maxRecDepth 100000 in
theorem ctX7_readInto (l : Launch) (E : VE) (a : Nat → Nat) (b : Nat → Nat) (d : Nat → Nat)  (p : St) (q : St)  {Post : Int32 → (St × St) → Prop} (hw : wpX7_readInto p q Post) (sz : Nat) : Met l yX7_readInto (mW yX7_readInto cX7_readInto 5 (some .int)) rmX7_readInto (CPre E [.ref (a 0), .ref (b 0), .ref (d 0)] sz (fl [bReader E a p, bPad E b q, bBox E d])) (CQi E Post (fun u => (fl [bReader E a u.1, bPad E b u.2, bBox E d])) (fl [bReader E a p, bPad E b q, bBox E d]) sz) 0 0 (va_A (fl [bReader E a p, bPad E b q, bBox E d]) sz) := by
  refine v_met (by decide) (Nat.le_of_ble_eq_true rfl) ?_
  intro pr e s m below meth c A hsz hA C
  subst hsz
  refine v_aload_n (pc := 0) C 0 rfl rfl dX7_readInto_0 ?_
  refine v_iconst (pc := 1) C 0 ki_0 dX7_readInto_1 ?_
  obtain ⟨p1, es⟩ : ∃ y : St, y = p.sI 2 0 := ⟨_, rfl⟩
  have hw := hw p1 es
  refine v_put (pc := 2) C cfX7 rfl 0 2 (ty := .int) (w' := (fl [bReader E a p1, bPad E b q, bBox E d])) rfl (by subst es; rfl) (by decide) wfX7_19 rfl rfl rfl rfl (Nat.le_of_ble_eq_true rfl) dX7_readInto_2 ?_
  refine v_aload_n (pc := 5) C 0 rfl rfl dX7_readInto_5 ?_
  refine v_goBv (pc := 6) C (bs := [bReader E a p1, bPad E b q, bBox E d]) (cs := [bReader E a p1]) (cs' := (fun (u : St) => [bReader E a u])) (bs' := (fun (u : St) => [bReader E a u, bPad E b q, bBox E d])) (w' := (fun (u : St) => (fl [bReader E a u, bPad E b q, bBox E d]))) [0] rfl rfl (fun _ => rfl) (fun _ => rfl) (fun _ => rfl) (v_runVB (pc := 6) C [] [] (fun sz => ctX7_step l E a p1 hw sz) [0] rfl rfl rfl mfX7_step mvX7_step wmX7_37 rfl ⟨Nat.le_of_ble_eq_true rfl, Nat.le_of_ble_eq_true rfl⟩ ⟨rfl, rfl⟩ 0 (ci := 7) (qc := (RX7, TX7, 8)) rfl rfl rfl rfl (Nat.le_of_ble_eq_true rfl) ⟨Nat.zero_le _, Nat.zero_le _⟩ dX7_readInto_6) (fun p2 hw => ?_)
  refine v_aload_n (pc := 9) C 0 rfl rfl dX7_readInto_9 ?_
  refine v_aload_n (pc := 10) C 1 rfl rfl dX7_readInto_10 ?_
  refine v_goBi (pc := 11) C (bs := [bReader E a p2, bPad E b q, bBox E d]) (cs := [bReader E a p2, bPad E b q]) (cs' := (fun (u : (St × St)) => [bReader E a u.1, bPad E b u.2])) (bs' := (fun (u : (St × St)) => [bReader E a u.1, bPad E b u.2, bBox E d])) (w' := (fun (u : (St × St)) => (fl [bReader E a u.1, bPad E b u.2, bBox E d]))) [0, 1] rfl rfl (fun _ => rfl) (fun _ => rfl) (fun _ => rfl) (v_runVB (pc := 11) C [.ref (b 0)] [] (fun sz => ctX7_readFirst l E a b p2 q hw sz) [0, 1] rfl rfl rfl mfX7_readFirst mvX7_readFirst wmX7_40 rfl ⟨Nat.le_of_ble_eq_true rfl, Nat.le_of_ble_eq_true rfl⟩ ⟨rfl, rfl⟩ 0 (ci := 7) (qc := (RX7, TX7, 8)) rfl rfl rfl rfl (Nat.le_of_ble_eq_true rfl) ⟨Nat.zero_le _, Nat.zero_le _⟩ dX7_readInto_11) (fun r3 u hw => ?_)
  obtain ⟨p4, p5⟩ := u
  have hw := hw p4 p5 rfl
  refine v_if_ne (pc := 14) C 19 (by decide) dX7_readInto_14 (fun hc => ?_) (fun hc => ?_)
  · have hw := hw.1 hc
    refine v_iconst (pc := 19) C 1 ki_1 dX7_readInto_19 ?_
    refine v_istore_n (pc := 20) C [(3, .int 1), (0, .ref (a 0)), (1, .ref (b 0)), (2, .ref (d 0))] rfl rfl (by decide) dX7_readInto_20 ?_
    refine v_iconst (pc := 21) C 0 ki_0 dX7_readInto_21 ?_
    refine v_istore (pc := 22) C [(4, .int 0), (3, .int 1), (0, .ref (a 0)), (1, .ref (b 0)), (2, .ref (d 0))] rfl (by decide) dX7_readInto_22 ?_
    obtain ⟨n, hw⟩ := hw
    refine v_sub (lv' := [(0, .ref (a 0)), (1, .ref (b 0)), (2, .ref (d 0)), (3, .int 1), (4, .int 0)]) [2, 3, 4, 1, 0] rfl ?_
    refine vlX7_readInto_24 C hA a b d  (fun y11 p12 p13 hw => ?_) n 1 0 p4 p5 hw
    refine v_iload_n (pc := 59) C 0 rfl rfl dX7_readInto_59 ?_
    exact v_ireti (pc := 60) C (p12, p13) hA rfl hw dX7_readInto_60
  · have hw := hw.2 hc
    refine v_iconst (pc := 17) C (-1) ki_m1 dX7_readInto_17 ?_
    exact v_ireti (pc := 18) C (p4, p5) hA rfl hw dX7_readInto_18
set_option maxHeartbeats 4000000 in
set_option maxRecDepth 100000 in
theorem ctX8_sheetAt (l : Launch) (E : VE) (a : Nat → Nat) (x1 : Int32) (p : St)  {Post : Int32 → Prop} (hw : wpX8_sheetAt x1 p Post) (sz : Nat) : Met l yX8_sheetAt (mW yX8_sheetAt cX8_sheetAt 2 (some .int)) rmX8_sheetAt (CPre E [.ref (a 0), .int x1] sz (fl [bRows E a p])) (CQi E (fun (z : Int32) (_ : Unit) => Post z) (fun _ => (fl [bRows E a p])) (fl [bRows E a p]) sz) 0 0 (va_A (fl [bRows E a p]) sz) := by
  refine v_met (by decide) (Nat.le_of_ble_eq_true rfl) ?_
  intro pr e s m below meth c A hsz hA C
  subst hsz
  refine v_iload_n (pc := 0) C 1 rfl rfl dX8_sheetAt_0 ?_
  refine v_if_lt (pc := 1) C 19 (by decide) dX8_sheetAt_1 (fun hc => ?_) (fun hc => ?_)
  · have hw := hw.1 hc
    refine v_iconst (pc := 19) C (-1) ki_m1 dX8_sheetAt_19 ?_
    exact v_ireti (pc := 20) C () hA rfl hw dX8_sheetAt_20
  · have hw := hw.2 hc
    refine v_iload_n (pc := 4) C 1 rfl rfl dX8_sheetAt_4 ?_
    refine v_bipush (pc := 5) C 6 kb_6 dX8_sheetAt_5 ?_
    refine v_icmp_ge (pc := 7) C 19 (by decide) dX8_sheetAt_7 (fun hc => ?_) (fun hc => ?_)
    · have hw := hw.1 hc
      refine v_iconst (pc := 19) C (-1) ki_m1 dX8_sheetAt_19 ?_
      exact v_ireti (pc := 20) C () hA rfl hw dX8_sheetAt_20
    · have hw := hw.2 hc
      refine v_aload_n (pc := 10) C 0 rfl rfl dX8_sheetAt_10 ?_
      refine v_get (pc := 11) C cfX8 rfl 0 0 rfl (by decide) wfX8_9 rfl dX8_sheetAt_11 ?_
      refine v_iload_n (pc := 14) C 1 rfl rfl dX8_sheetAt_14 ?_
      obtain ⟨hg, hw⟩ := hw
      refine v_iald (pc := 15) C 1 rfl hg rfl dX8_sheetAt_15 ?_
      refine v_goto (pc := 16) C 20 (by decide) dX8_sheetAt_16 ?_
      exact v_ireti (pc := 20) C () hA rfl hw dX8_sheetAt_20
set_option maxHeartbeats 4000000 in
set_option maxRecDepth 100000 in
theorem vlX8_mayLie_3 (C : VC pr s m args meth c E A cX8_mayLie 7 (some .boolean) RX8) (hA : va_A w0 s.heap.size = A) (a : Nat → Nat) (b : Nat → Nat) (q : St) {Post : Int32 → St → Prop} {KX : Int32 → Int32 → Int32 → St → Prop} (hX : ∀ (x2 : Int32) (x3 : Int32) (x4 : Int32) (p : St), KX x2 x3 x4 p → V pr l e rmX8_mayLie s m args below meth c E A 7 0 0 (MQ below (CQi E Post (fun u => (fl [bRows E a u, bPad E b q])) w0 s.heap.size) args s 0 0 A) (fl [bRows E a p, bPad E b q]) 24 [(0, .ref (a 0)), (1, .ref (b 0)), (2, .int x2), (3, .int x3), (4, .int x4)] []) : ∀ (n : Nat) (x2 : Int32) (x3 : Int32) (x4 : Int32) (x5 : Int32) (p : St), wLX8_mayLie_3 q Post KX n (x2, x3, x4, x5, p) → V pr l e rmX8_mayLie s m args below meth c E A 7 0 0 (MQ below (CQi E Post (fun u => (fl [bRows E a u, bPad E b q])) w0 s.heap.size) args s 0 0 A) (fl [bRows E a p, bPad E b q]) 3 [(0, .ref (a 0)), (1, .ref (b 0)), (2, .int x2), (3, .int x3), (4, .int x4), (5, .int x5)] [] := by
  intro n
  induction n with
  | zero => intro x2 x3 x4 x5 p hw; exact absurd hw id
  | succ n hself =>
    intro x2 x3 x4 x5 p hw
    have hw : wlX8_mayLie_3 q Post KX (wLX8_mayLie_3 q Post KX n) x2 x3 x4 x5 p := hw
    refine v_iload (pc := 3) C 5 rfl dX8_mayLie_3 ?_
    refine v_bipush (pc := 5) C 10 kb_10 dX8_mayLie_5 ?_
    refine v_icmp_ge (pc := 7) C 24 (by decide) dX8_mayLie_7 (fun hc => ?_) (fun hc => ?_)
    · have hw := hw.1 hc
      refine v_sub (lv' := [(0, .ref (a 0)), (1, .ref (b 0)), (2, .int x2), (3, .int x3), (4, .int x4)]) [0, 1, 2, 3, 4] rfl ?_
      exact hX x2 x3 x4 p hw
    · have hw := hw.2 hc
      refine v_aload_n (pc := 10) C 0 rfl rfl dX8_mayLie_10 ?_
      refine v_get (pc := 11) C cfX8 rfl 0 3 rfl (by decide) wfX8_21 rfl dX8_mayLie_11 ?_
      refine v_iload (pc := 14) C 5 rfl dX8_mayLie_14 ?_
      refine v_iconst (pc := 16) C 0 ki_0 dX8_mayLie_16 ?_
      obtain ⟨hg, hw⟩ := hw
      obtain ⟨p1, es⟩ : ∃ y : St, y = p.sA 3 (upd (p.A 3) x5.toNatClampNeg 0) := ⟨_, rfl⟩
      have hw := hw p1 es
      refine v_iast (pc := 17) C 4 (w' := (fl [bRows E a p1, bPad E b q])) rfl rfl (by subst es; rfl) hg dX8_mayLie_17 ?_
      obtain ⟨x5_2, ex⟩ : ∃ y : Int32, y = x5 + 1 := ⟨_, rfl⟩
      have hw := hw x5_2 ex
      refine v_iinc (pc := 18) C 5 rfl (by rw [ex, ki_1]) [(5, .int x5_2), (0, .ref (a 0)), (1, .ref (b 0)), (2, .int x2), (3, .int x3), (4, .int x4)] rfl (by decide) dX8_mayLie_18 ?_
      refine v_goto (pc := 21) C 3 (by decide) dX8_mayLie_21 ?_
      refine v_sub (lv' := [(0, .ref (a 0)), (1, .ref (b 0)), (2, .int x2), (3, .int x3), (4, .int x4), (5, .int x5_2)]) [1, 2, 3, 4, 5, 0] rfl ?_
      exact hself x2 x3 x4 x5_2 p1 hw
set_option maxHeartbeats 4000000 in
set_option maxRecDepth 100000 in
theorem vlX8_mayLie_27 (C : VC pr s m args meth c E A cX8_mayLie 7 (some .boolean) RX8) (hA : va_A w0 s.heap.size = A) (a : Nat → Nat) (b : Nat → Nat) (q : St) {Post : Int32 → St → Prop} {KX : Int32 → St → Prop} (hX : ∀ (x2 : Int32) (p : St), KX x2 p → V pr l e rmX8_mayLie s m args below meth c E A 7 0 0 (MQ below (CQi E Post (fun u => (fl [bRows E a u, bPad E b q])) w0 s.heap.size) args s 0 0 A) (fl [bRows E a p, bPad E b q]) 91 [(0, .ref (a 0)), (2, .int x2)] []) : ∀ (n : Nat) (x2 : Int32) (x3 : Int32) (x4 : Int32) (x5 : Int32) (p : St), wLX8_mayLie_27 q Post KX n (x2, x3, x4, x5, p) → V pr l e rmX8_mayLie s m args below meth c E A 7 0 0 (MQ below (CQi E Post (fun u => (fl [bRows E a u, bPad E b q])) w0 s.heap.size) args s 0 0 A) (fl [bRows E a p, bPad E b q]) 27 [(0, .ref (a 0)), (1, .ref (b 0)), (2, .int x2), (3, .int x3), (4, .int x4), (5, .int x5)] [] := by
  intro n
  induction n with
  | zero => intro x2 x3 x4 x5 p hw; exact absurd hw id
  | succ n hself =>
    intro x2 x3 x4 x5 p hw
    have hw : wlX8_mayLie_27 q Post KX (wLX8_mayLie_27 q Post KX n) x2 x3 x4 x5 p := hw
    refine v_iload (pc := 27) C 5 rfl dX8_mayLie_27 ?_
    refine v_aload_n (pc := 29) C 1 rfl rfl dX8_mayLie_29 ?_
    refine v_goBi (pc := 30) C (bs := [bRows E a p, bPad E b q]) (cs := [bPad E b q]) (cs' := (fun (_ : Unit) => [bPad E b q])) (bs' := (fun (_ : Unit) => [bRows E a p, bPad E b q])) (w' := (fun (_ : Unit) => (fl [bRows E a p, bPad E b q]))) [1] rfl rfl (fun _ => rfl) (fun _ => rfl) (fun _ => rfl) (v_runVB (pc := 30) C [] [.int x5] (fun sz => ctX4_noteCount l E b q hw sz) [1] rfl rfl rfl mfX4_noteCount mvX4_noteCount wmX8_45 rfl ⟨Nat.le_of_ble_eq_true rfl, Nat.le_of_ble_eq_true rfl⟩ ⟨rfl, rfl⟩ 5 (ci := 4) (qc := (RX4, TX4, 12)) rfl rfl rfl rfl (Nat.le_of_ble_eq_true rfl) ⟨Nat.zero_le _, Nat.zero_le _⟩ dX8_mayLie_30) (fun r7 _ hw => ?_)
    refine v_icmp_ge (pc := 33) C 91 (by decide) dX8_mayLie_33 (fun hc => ?_) (fun hc => ?_)
    · have hw := hw.1 hc
      refine v_sub (lv' := [(0, .ref (a 0)), (2, .int x2)]) [0, 2] rfl ?_
      exact hX x2 p hw
    · have hw := hw.2 hc
      refine v_aload_n (pc := 36) C 1 rfl rfl dX8_mayLie_36 ?_
      refine v_getN (pc := 37) C cfX4 rfl 5 8 rfl (by decide) wfX8_49 rfl dX8_mayLie_37 ?_
      refine v_iload (pc := 40) C 5 rfl dX8_mayLie_40 ?_
      obtain ⟨hg, hw⟩ := hw
      refine v_iald (pc := 42) C 11 rfl hg rfl dX8_mayLie_42 ?_
      refine v_topi (fun x6_8 ex => ?_)
      have hw := hw x6_8 ex
      refine v_istore (pc := 43) C [(6, .int x6_8), (0, .ref (a 0)), (1, .ref (b 0)), (2, .int x2), (3, .int x3), (4, .int x4), (5, .int x5)] rfl (by decide) dX8_mayLie_43 ?_
      refine v_iload (pc := 45) C 5 rfl dX8_mayLie_45 ?_
      refine v_iload (pc := 47) C 0 rfl dX8_mayLie_47 ?_
      refine v_ishr (pc := 49) C dX8_mayLie_49 ?_
      refine v_iconst (pc := 50) C 1 ki_1 dX8_mayLie_50 ?_
      refine v_iand (pc := 51) C dX8_mayLie_51 ?_
      refine v_if_eq (pc := 52) C 85 (by decide) dX8_mayLie_52 (fun hc => ?_) (fun hc => ?_)
      · have hw := hw.1 hc
        obtain ⟨x5_9, ex⟩ : ∃ y : Int32, y = x5 + 1 := ⟨_, rfl⟩
        have hw := hw x5_9 ex
        refine v_iinc (pc := 85) C 6 rfl (by rw [ex, ki_1]) [(5, .int x5_9), (6, .int x6_8), (0, .ref (a 0)), (1, .ref (b 0)), (2, .int x2), (3, .int x3), (4, .int x4)] rfl (by decide) dX8_mayLie_85 ?_
        refine v_goto (pc := 88) C 27 (by decide) dX8_mayLie_88 ?_
        refine v_sub (lv' := [(0, .ref (a 0)), (1, .ref (b 0)), (2, .int x2), (3, .int x3), (4, .int x4), (5, .int x5_9)]) [2, 3, 4, 5, 6, 0] rfl ?_
        exact hself x2 x3 x4 x5_9 p hw
      · have hw := hw.2 hc
        refine v_aload_n (pc := 55) C 1 rfl rfl dX8_mayLie_55 ?_
        refine v_get (pc := 56) C cfX8 rfl 0 3 rfl (by decide) wfX8_21 rfl dX8_mayLie_56 ?_
        refine v_aload_n (pc := 59) C 2 rfl rfl dX8_mayLie_59 ?_
        refine v_iload (pc := 60) C 6 rfl dX8_mayLie_60 ?_
        refine v_iload_n (pc := 62) C 4 rfl rfl dX8_mayLie_62 ?_
        refine v_aload_n (pc := 63) C 1 rfl rfl dX8_mayLie_63 ?_
        refine v_get (pc := 64) C cfX8 rfl 0 1 rfl (by decide) wfX8_15 rfl dX8_mayLie_64 ?_
        refine v_iload (pc := 67) C 0 rfl dX8_mayLie_67 ?_
        obtain ⟨hg, hw⟩ := hw
        refine v_iald (pc := 69) C 2 rfl hg rfl dX8_mayLie_69 ?_
        refine v_isub (pc := 70) C dX8_mayLie_70 ?_
        refine v_goBi (pc := 71) C (bs := [bRows E a p, bPad E b q]) (cs := [bPad E b q]) (cs' := (fun (_ : Unit) => [bPad E b q])) (bs' := (fun (_ : Unit) => [bRows E a p, bPad E b q])) (w' := (fun (_ : Unit) => (fl [bRows E a p, bPad E b q]))) [1] rfl rfl (fun _ => rfl) (fun _ => rfl) (fun _ => rfl) (v_runVB (pc := 71) C [.int x5, .int (x3 - ((p.A 1) x6_8.toNatClampNeg))] [.ref (a 4)] (fun sz => ctX4_forceDown l E b x5 (x3 - ((p.A 1) x6_8.toNatClampNeg)) q hw sz) [1] rfl rfl rfl mfX4_forceDown mvX4_forceDown wmX8_52 rfl ⟨Nat.le_of_ble_eq_true rfl, Nat.le_of_ble_eq_true rfl⟩ ⟨rfl, rfl⟩ 5 (ci := 4) (qc := (RX4, TX4, 12)) rfl rfl rfl rfl (Nat.le_of_ble_eq_true rfl) ⟨Nat.zero_le _, Nat.zero_le _⟩ dX8_mayLie_71) (fun r10 _ hw => ?_)
        refine v_dup2 (pc := 74) C rfl rfl dX8_mayLie_74 ?_
        obtain ⟨hg, hw⟩ := hw
        refine v_iald (pc := 75) C 4 rfl hg rfl dX8_mayLie_75 ?_
        refine v_aload_n (pc := 76) C 2 rfl rfl dX8_mayLie_76 ?_
        refine v_getN (pc := 77) C cfX4 rfl 5 7 rfl (by decide) wfX8_55 rfl dX8_mayLie_77 ?_
        refine v_iload (pc := 80) C 6 rfl dX8_mayLie_80 ?_
        obtain ⟨hg, hw⟩ := hw
        refine v_iald (pc := 82) C 10 rfl hg rfl dX8_mayLie_82 ?_
        refine v_ior (pc := 83) C dX8_mayLie_83 ?_
        obtain ⟨hg, hw⟩ := hw
        obtain ⟨p11, es⟩ : ∃ y : St, y = p.sA 3 (upd (p.A 3) r10.toNatClampNeg (((p.A 3) r10.toNatClampNeg) ||| ((q.A 7) x5.toNatClampNeg))) := ⟨_, rfl⟩
        have hw := hw p11 es
        refine v_iast (pc := 84) C 4 (w' := (fl [bRows E a p11, bPad E b q])) rfl rfl (by subst es; rfl) hg dX8_mayLie_84 ?_
        obtain ⟨x5_12, ex⟩ : ∃ y : Int32, y = x5 + 1 := ⟨_, rfl⟩
        have hw := hw x5_12 ex
        refine v_iinc (pc := 85) C 6 rfl (by rw [ex, ki_1]) [(5, .int x5_12), (6, .int x6_8), (0, .ref (a 0)), (1, .ref (b 0)), (2, .int x2), (3, .int x3), (4, .int x4)] rfl (by decide) dX8_mayLie_85 ?_
        refine v_goto (pc := 88) C 27 (by decide) dX8_mayLie_88 ?_
        refine v_sub (lv' := [(0, .ref (a 0)), (1, .ref (b 0)), (2, .int x2), (3, .int x3), (4, .int x4), (5, .int x5_12)]) [2, 3, 4, 5, 6, 0] rfl ?_
        exact hself x2 x3 x4 x5_12 p11 hw
set_option maxHeartbeats 4000000 in
set_option maxRecDepth 100000 in
theorem vlX8_mayLie_98 (C : VC pr s m args meth c E A cX8_mayLie 7 (some .boolean) RX8) (hA : va_A w0 s.heap.size = A) (a : Nat → Nat) (b : Nat → Nat) (q : St) {Post : Int32 → St → Prop} {KX : St → Prop} (hX : ∀ (p : St), KX p → V pr l e rmX8_mayLie s m args below meth c E A 7 0 0 (MQ below (CQi E Post (fun u => (fl [bRows E a u, bPad E b q])) w0 s.heap.size) args s 0 0 A) (fl [bRows E a p, bPad E b q]) 141 [] []) : ∀ (n : Nat) (x2 : Int32) (x5 : Int32) (x6 : Int32) (p : St), wLX8_mayLie_98 q Post KX n (x2, x5, x6, p) → V pr l e rmX8_mayLie s m args below meth c E A 7 0 0 (MQ below (CQi E Post (fun u => (fl [bRows E a u, bPad E b q])) w0 s.heap.size) args s 0 0 A) (fl [bRows E a p, bPad E b q]) 98 [(0, .ref (a 0)), (2, .int x2), (5, .int x5), (6, .int x6)] [] := by
  intro n
  induction n with
  | zero => intro x2 x5 x6 p hw; exact absurd hw id
  | succ n hself =>
    intro x2 x5 x6 p hw
    have hw : wlX8_mayLie_98 q Post KX (wLX8_mayLie_98 q Post KX n) x2 x5 x6 p := hw
    refine v_iload (pc := 98) C 3 rfl dX8_mayLie_98 ?_
    refine v_iconst (pc := 100) C 1 ki_1 dX8_mayLie_100 ?_
    refine v_icmp_lt (pc := 101) C 141 (by decide) dX8_mayLie_101 (fun hc => ?_) (fun hc => ?_)
    · have hw := hw.1 hc
      refine v_sub (lv' := []) [] rfl ?_
      exact hX p hw
    · have hw := hw.2 hc
      refine v_iload (pc := 104) C 2 rfl dX8_mayLie_104 ?_
      refine v_aload_n (pc := 106) C 0 rfl rfl dX8_mayLie_106 ?_
      refine v_get (pc := 107) C cfX8 rfl 0 3 rfl (by decide) wfX8_21 rfl dX8_mayLie_107 ?_
      refine v_iload (pc := 110) C 3 rfl dX8_mayLie_110 ?_
      obtain ⟨hg, hw⟩ := hw
      refine v_iald (pc := 112) C 4 rfl hg rfl dX8_mayLie_112 ?_
      refine v_ior (pc := 113) C dX8_mayLie_113 ?_
      refine v_topi (fun x5_15 ex => ?_)
      have hw := hw x5_15 ex
      refine v_istore (pc := 114) C [(5, .int x5_15), (0, .ref (a 0)), (2, .int x2), (6, .int x6)] rfl (by decide) dX8_mayLie_114 ?_
      refine v_iload (pc := 116) C 0 rfl dX8_mayLie_116 ?_
      refine v_aload_n (pc := 118) C 1 rfl rfl dX8_mayLie_118 ?_
      refine v_get (pc := 119) C cfX8 rfl 0 2 rfl (by decide) wfX8_18 rfl dX8_mayLie_119 ?_
      refine v_iload_n (pc := 122) C 2 rfl rfl dX8_mayLie_122 ?_
      refine v_bipush (pc := 123) C 10 kb_10 dX8_mayLie_123 ?_
      refine v_imul (pc := 125) C dX8_mayLie_125 ?_
      refine v_iload (pc := 126) C 3 rfl dX8_mayLie_126 ?_
      refine v_iadd (pc := 128) C dX8_mayLie_128 ?_
      obtain ⟨hg, hw⟩ := hw
      refine v_iald (pc := 129) C 3 rfl hg rfl dX8_mayLie_129 ?_
      refine v_icmp_eq (pc := 130) C 135 (by decide) dX8_mayLie_130 (fun hc => ?_) (fun hc => ?_)
      · have hw := hw.1 hc
        obtain ⟨x6_16, ex⟩ : ∃ y : Int32, y = x6 + (-1) := ⟨_, rfl⟩
        have hw := hw x6_16 ex
        refine v_iinc (pc := 135) C 3 rfl (by rw [ex, ki_m1]) [(6, .int x6_16), (5, .int x5_15), (0, .ref (a 0)), (2, .int x2)] rfl (by decide) dX8_mayLie_135 ?_
        refine v_goto (pc := 138) C 98 (by decide) dX8_mayLie_138 ?_
        refine v_sub (lv' := [(0, .ref (a 0)), (2, .int x2), (5, .int x5_15), (6, .int x6_16)]) [2, 3, 1, 0] rfl ?_
        exact hself x2 x5_15 x6_16 p hw
      · have hw := hw.2 hc
        refine v_iconst (pc := 133) C 0 ki_0 dX8_mayLie_133 ?_
        exact v_iretz (pc := 134) C rfl p hA rfl hw dX8_mayLie_134
set_option maxHeartbeats 4000000 in
set_option maxRecDepth 100000 in
theorem ctX8_mayLie (l : Launch) (E : VE) (a : Nat → Nat) (b : Nat → Nat) (x2 : Int32) (x3 : Int32) (x4 : Int32) (p : St) (q : St)  {Post : Int32 → St → Prop} (hw : wpX8_mayLie x2 x3 x4 p q Post) (sz : Nat) : Met l yX8_mayLie (mW yX8_mayLie cX8_mayLie 7 (some .boolean)) rmX8_mayLie (CPre E [.ref (a 0), .ref (b 0), .int x2, .int x3, .int x4] sz (fl [bRows E a p, bPad E b q])) (CQi E Post (fun u => (fl [bRows E a u, bPad E b q])) (fl [bRows E a p, bPad E b q]) sz) 0 0 (va_A (fl [bRows E a p, bPad E b q]) sz) := by
  refine v_met (by decide) (Nat.le_of_ble_eq_true rfl) ?_
  intro pr e s m below meth c A hsz hA C
  subst hsz
  refine v_iconst (pc := 0) C 1 ki_1 dX8_mayLie_0 ?_
  refine v_istore (pc := 1) C [(5, .int 1), (0, .ref (a 0)), (1, .ref (b 0)), (2, .int x2), (3, .int x3), (4, .int x4)] rfl (by decide) dX8_mayLie_1 ?_
  obtain ⟨n, hw⟩ := hw
  refine v_sub (lv' := [(0, .ref (a 0)), (1, .ref (b 0)), (2, .int x2), (3, .int x3), (4, .int x4), (5, .int 1)]) [1, 2, 3, 4, 5, 0] rfl ?_
  refine vlX8_mayLie_3 C hA a b q (fun y3 y4 y5 p6 hw => ?_) n x2 x3 x4 1 p hw
  refine v_iconst (pc := 24) C 0 ki_0 dX8_mayLie_24 ?_
  refine v_istore (pc := 25) C [(5, .int 0), (0, .ref (a 0)), (1, .ref (b 0)), (2, .int y3), (3, .int y4), (4, .int y5)] rfl (by decide) dX8_mayLie_25 ?_
  obtain ⟨n, hw⟩ := hw
  refine v_sub (lv' := [(0, .ref (a 0)), (1, .ref (b 0)), (2, .int y3), (3, .int y4), (4, .int y5), (5, .int 0)]) [1, 2, 3, 4, 5, 0] rfl ?_
  refine vlX8_mayLie_27 C hA a b q (fun y13 p14 hw => ?_) n y3 y4 y5 0 p6 hw
  refine v_iconst (pc := 91) C 0 ki_0 dX8_mayLie_91 ?_
  refine v_istore (pc := 92) C [(5, .int 0), (0, .ref (a 0)), (2, .int y13)] rfl (by decide) dX8_mayLie_92 ?_
  refine v_bipush (pc := 94) C 9 kb_9 dX8_mayLie_94 ?_
  refine v_istore (pc := 96) C [(6, .int 9), (5, .int 0), (0, .ref (a 0)), (2, .int y13)] rfl (by decide) dX8_mayLie_96 ?_
  obtain ⟨n, hw⟩ := hw
  refine v_sub (lv' := [(0, .ref (a 0)), (2, .int y13), (5, .int 0), (6, .int 9)]) [2, 3, 1, 0] rfl ?_
  refine vlX8_mayLie_98 C hA a b q (fun p17 hw => ?_) n y13 0 9 p14 hw
  refine v_iconst (pc := 141) C 1 ki_1 dX8_mayLie_141 ?_
  exact v_iretz (pc := 142) C rfl p17 hA rfl hw dX8_mayLie_142
set_option maxHeartbeats 4000000 in
set_option maxRecDepth 100000 in
theorem vjX8_layFrom_14 (C : VC pr s m args meth c E A cX8_layFrom 6 none RX8) (hA : va_A w0 s.heap.size = A) (a : Nat → Nat) (b : Nat → Nat) (rec : Int32 → Int32 → Int32 → St → St → (St → Prop) → Prop) (q : St) {d : Nat} (hrec : ∀ (x2 x3 x4 : Int32) (p q : St) {Post : St → Prop} (_ : rec x2 x3 x4 p q Post) (sz : Nat), Met l yX8_layFrom (mW yX8_layFrom cX8_layFrom 6 none) (rmX8_layFrom d) (CPre E [.ref (a 0), .ref (b 0), .int x2, .int x3, .int x4] sz (fl [bRows E a p, bPad E b q])) (CQv E Post (fun u => (fl [bRows E a u, bPad E b q])) (fl [bRows E a p, bPad E b q]) sz) 0 0 (va_A (fl [bRows E a p, bPad E b q]) sz)) {Post : St → Prop} (p : St) (hw : wjX8_layFrom_14 rec q Post p) : V pr l e (rmX8_layFrom (d + 1)) s m args below meth c E A 6 0 0 (MQ below (CQv E Post (fun u => (fl [bRows E a u, bPad E b q])) w0 s.heap.size) args s 0 0 A) (fl [bRows E a p, bPad E b q]) 14 [(0, .ref (a 0))] [] := by
  refine v_aload_n (pc := 14) C 0 rfl rfl dX8_layFrom_14 ?_
  refine v_dup (pc := 15) C rfl dX8_layFrom_15 ?_
  refine v_get (pc := 16) C cfX8 rfl 0 4 rfl (by decide) wfX8_24 rfl dX8_layFrom_16 ?_
  refine v_iconst (pc := 19) C 1 ki_1 dX8_layFrom_19 ?_
  refine v_iadd (pc := 20) C dX8_layFrom_20 ?_
  obtain ⟨p1, es⟩ : ∃ y : St, y = p.sI 4 ((p.I 4) + 1) := ⟨_, rfl⟩
  have hw := hw p1 es
  refine v_put (pc := 21) C cfX8 rfl 0 4 (ty := .int) (w' := (fl [bRows E a p1, bPad E b q])) rfl (by subst es; rfl) (by decide) wfX8_24 rfl rfl rfl rfl (Nat.le_of_ble_eq_true rfl) dX8_layFrom_21 ?_
  exact v_vret (pc := 24) C p1 hA rfl hw dX8_layFrom_24
set_option maxHeartbeats 4000000 in
set_option maxRecDepth 100000 in
theorem vlX8_layFrom_28 (C : VC pr s m args meth c E A cX8_layFrom 6 none RX8) (hA : va_A w0 s.heap.size = A) (a : Nat → Nat) (b : Nat → Nat) (rec : Int32 → Int32 → Int32 → St → St → (St → Prop) → Prop) (q : St) {d : Nat} (hrec : ∀ (x2 x3 x4 : Int32) (p q : St) {Post : St → Prop} (_ : rec x2 x3 x4 p q Post) (sz : Nat), Met l yX8_layFrom (mW yX8_layFrom cX8_layFrom 6 none) (rmX8_layFrom d) (CPre E [.ref (a 0), .ref (b 0), .int x2, .int x3, .int x4] sz (fl [bRows E a p, bPad E b q])) (CQv E Post (fun u => (fl [bRows E a u, bPad E b q])) (fl [bRows E a p, bPad E b q]) sz) 0 0 (va_A (fl [bRows E a p, bPad E b q]) sz)) {Post : St → Prop} {KX : St → Prop} (hX : ∀ (p : St), KX p → V pr l e (rmX8_layFrom (d + 1)) s m args below meth c E A 6 0 0 (MQ below (CQv E Post (fun u => (fl [bRows E a u, bPad E b q])) w0 s.heap.size) args s 0 0 A) (fl [bRows E a p, bPad E b q]) 110 [] []) : ∀ (n : Nat) (x2 : Int32) (x3 : Int32) (x4 : Int32) (x5 : Int32) (p : St), wLX8_layFrom_28 rec q Post KX n (x2, x3, x4, x5, p) → V pr l e (rmX8_layFrom (d + 1)) s m args below meth c E A 6 0 0 (MQ below (CQv E Post (fun u => (fl [bRows E a u, bPad E b q])) w0 s.heap.size) args s 0 0 A) (fl [bRows E a p, bPad E b q]) 28 [(0, .ref (a 0)), (1, .ref (b 0)), (2, .int x2), (3, .int x3), (4, .int x4), (5, .int x5)] [] := by
  intro n
  induction n with
  | zero => intro x2 x3 x4 x5 p hw; exact absurd hw id
  | succ n hself =>
    intro x2 x3 x4 x5 p hw
    have hw : wlX8_layFrom_28 rec q Post KX (wLX8_layFrom_28 rec q Post KX n) x2 x3 x4 x5 p := hw
    refine v_iload (pc := 28) C 5 rfl dX8_layFrom_28 ?_
    refine v_aload_n (pc := 30) C 1 rfl rfl dX8_layFrom_30 ?_
    refine v_getN (pc := 31) C cfX4 rfl 5 3 rfl (by decide) wfX8_28 rfl dX8_layFrom_31 ?_
    refine v_icmp_ge (pc := 34) C 110 (by decide) dX8_layFrom_34 (fun hc => ?_) (fun hc => ?_)
    · have hw := hw.1 hc
      refine v_sub (lv' := []) [] rfl ?_
      exact hX p hw
    · have hw := hw.2 hc
      refine v_aload_n (pc := 37) C 0 rfl rfl dX8_layFrom_37 ?_
      refine v_get (pc := 38) C cfX8 rfl 0 4 rfl (by decide) wfX8_24 rfl dX8_layFrom_38 ?_
      refine v_iload (pc := 41) C 4 rfl dX8_layFrom_41 ?_
      refine v_icmp_ge (pc := 43) C 110 (by decide) dX8_layFrom_43 (fun hc => ?_) (fun hc => ?_)
      · have hw := hw.1 hc
        refine v_sub (lv' := []) [] rfl ?_
        exact hX p hw
      · have hw := hw.2 hc
        refine v_iload_n (pc := 46) C 3 rfl rfl dX8_layFrom_46 ?_
        refine v_iload (pc := 47) C 5 rfl dX8_layFrom_47 ?_
        refine v_ishr (pc := 49) C dX8_layFrom_49 ?_
        refine v_iconst (pc := 50) C 1 ki_1 dX8_layFrom_50 ?_
        refine v_iand (pc := 51) C dX8_layFrom_51 ?_
        refine v_if_ne (pc := 52) C 104 (by decide) dX8_layFrom_52 (fun hc => ?_) (fun hc => ?_)
        · have hw := hw.1 hc
          obtain ⟨x5_2, ex⟩ : ∃ y : Int32, y = x5 + 1 := ⟨_, rfl⟩
          have hw := hw x5_2 ex
          refine v_iinc (pc := 104) C 5 rfl (by rw [ex, ki_1]) [(5, .int x5_2), (0, .ref (a 0)), (1, .ref (b 0)), (2, .int x2), (3, .int x3), (4, .int x4)] rfl (by decide) dX8_layFrom_104 ?_
          refine v_goto (pc := 107) C 28 (by decide) dX8_layFrom_107 ?_
          refine v_sub (lv' := [(0, .ref (a 0)), (1, .ref (b 0)), (2, .int x2), (3, .int x3), (4, .int x4), (5, .int x5_2)]) [1, 2, 3, 4, 5, 0] rfl ?_
          exact hself x2 x3 x4 x5_2 p hw
        · have hw := hw.2 hc
          refine v_aload_n (pc := 55) C 0 rfl rfl dX8_layFrom_55 ?_
          refine v_get (pc := 56) C cfX8 rfl 0 0 rfl (by decide) wfX8_9 rfl dX8_layFrom_56 ?_
          refine v_iload_n (pc := 59) C 2 rfl rfl dX8_layFrom_59 ?_
          refine v_iload (pc := 60) C 5 rfl dX8_layFrom_60 ?_
          obtain ⟨hg, hw⟩ := hw
          obtain ⟨p3, es⟩ : ∃ y : St, y = p.sA 0 (upd (p.A 0) x2.toNatClampNeg x5) := ⟨_, rfl⟩
          have hw := hw p3 es
          refine v_iast (pc := 62) C 1 (w' := (fl [bRows E a p3, bPad E b q])) rfl rfl (by subst es; rfl) hg dX8_layFrom_62 ?_
          refine v_aload_n (pc := 63) C 0 rfl rfl dX8_layFrom_63 ?_
          refine v_get (pc := 64) C cfX8 rfl 0 1 rfl (by decide) wfX8_15 rfl dX8_layFrom_64 ?_
          refine v_iload (pc := 67) C 5 rfl dX8_layFrom_67 ?_
          refine v_iload_n (pc := 69) C 2 rfl rfl dX8_layFrom_69 ?_
          obtain ⟨hg, hw⟩ := hw
          obtain ⟨p4, es⟩ : ∃ y : St, y = p3.sA 1 (upd (p3.A 1) x5.toNatClampNeg x2) := ⟨_, rfl⟩
          have hw := hw p4 es
          refine v_iast (pc := 70) C 2 (w' := (fl [bRows E a p4, bPad E b q])) rfl rfl (by subst es; rfl) hg dX8_layFrom_70 ?_
          refine v_aload_n (pc := 71) C 0 rfl rfl dX8_layFrom_71 ?_
          refine v_aload_n (pc := 72) C 1 rfl rfl dX8_layFrom_72 ?_
          refine v_iload (pc := 73) C 5 rfl dX8_layFrom_73 ?_
          refine v_iload_n (pc := 75) C 2 rfl rfl dX8_layFrom_75 ?_
          refine v_iload_n (pc := 76) C 3 rfl rfl dX8_layFrom_76 ?_
          refine v_iconst (pc := 77) C 1 ki_1 dX8_layFrom_77 ?_
          refine v_iload (pc := 78) C 5 rfl dX8_layFrom_78 ?_
          refine v_ishl (pc := 80) C dX8_layFrom_80 ?_
          refine v_ior (pc := 81) C dX8_layFrom_81 ?_
          refine v_goAi (pc := 82) C (wc' := (fun (u : St) => (fl [bRows E a u, bPad E b q]))) (fun _ => rfl) (v_runVA (pc := 82) C [.ref (b 0), .int x5, .int x2, .int (x3 ||| ((1 : Int32) <<< (x5 &&& 31)))] [] (fun sz => ctX8_mayLie l E a b x5 x2 (x3 ||| ((1 : Int32) <<< (x5 &&& 31))) p4 q hw sz) mfX8_mayLie mvX8_mayLie wmX8_41 rfl ⟨by simp only [rmX8_layFrom, rmX8_mayLie]; omega, by simp only [rmX8_layFrom, rmX8_mayLie]; omega⟩ ⟨rfl, rfl⟩ 0 (ci := 8) (qc := (RX8, TX8, 5)) rfl rfl rfl rfl (Nat.le_of_ble_eq_true rfl) ⟨Nat.zero_le _, Nat.zero_le _⟩ dX8_layFrom_82) (fun r5 p6 hw => ?_)
          refine v_if_eq (pc := 85) C 104 (by decide) dX8_layFrom_85 (fun hc => ?_) (fun hc => ?_)
          · have hw := hw.1 hc
            obtain ⟨x5_7, ex⟩ : ∃ y : Int32, y = x5 + 1 := ⟨_, rfl⟩
            have hw := hw x5_7 ex
            refine v_iinc (pc := 104) C 5 rfl (by rw [ex, ki_1]) [(5, .int x5_7), (0, .ref (a 0)), (1, .ref (b 0)), (2, .int x2), (3, .int x3), (4, .int x4)] rfl (by decide) dX8_layFrom_104 ?_
            refine v_goto (pc := 107) C 28 (by decide) dX8_layFrom_107 ?_
            refine v_sub (lv' := [(0, .ref (a 0)), (1, .ref (b 0)), (2, .int x2), (3, .int x3), (4, .int x4), (5, .int x5_7)]) [1, 2, 3, 4, 5, 0] rfl ?_
            exact hself x2 x3 x4 x5_7 p6 hw
          · have hw := hw.2 hc
            refine v_aload_n (pc := 88) C 0 rfl rfl dX8_layFrom_88 ?_
            refine v_aload_n (pc := 89) C 1 rfl rfl dX8_layFrom_89 ?_
            refine v_iload_n (pc := 90) C 2 rfl rfl dX8_layFrom_90 ?_
            refine v_iconst (pc := 91) C 1 ki_1 dX8_layFrom_91 ?_
            refine v_iadd (pc := 92) C dX8_layFrom_92 ?_
            refine v_iload_n (pc := 93) C 3 rfl rfl dX8_layFrom_93 ?_
            refine v_iconst (pc := 94) C 1 ki_1 dX8_layFrom_94 ?_
            refine v_iload (pc := 95) C 5 rfl dX8_layFrom_95 ?_
            refine v_ishl (pc := 97) C dX8_layFrom_97 ?_
            refine v_ior (pc := 98) C dX8_layFrom_98 ?_
            refine v_iload (pc := 99) C 4 rfl dX8_layFrom_99 ?_
            refine v_goAv (pc := 101) C (wc' := (fun (u : St) => (fl [bRows E a u, bPad E b q]))) (fun _ => rfl) (v_runVA (pc := 101) C [.ref (b 0), .int (x2 + 1), .int (x3 ||| ((1 : Int32) <<< (x5 &&& 31))), .int x4] [] (fun sz => hrec (x2 + 1) (x3 ||| ((1 : Int32) <<< (x5 &&& 31))) x4 p6 q hw sz) mfX8_layFrom mvX8_layFrom wmX8_37 rfl ⟨by simp only [rmX8_layFrom, rmX8_layFrom]; omega, by simp only [rmX8_layFrom, rmX8_layFrom]; omega⟩ ⟨rfl, rfl⟩ 0 (ci := 8) (qc := (RX8, TX8, 5)) rfl rfl rfl rfl (Nat.le_of_ble_eq_true rfl) ⟨Nat.zero_le _, Nat.zero_le _⟩ dX8_layFrom_101) (fun p8 hw => ?_)
            obtain ⟨x5_9, ex⟩ : ∃ y : Int32, y = x5 + 1 := ⟨_, rfl⟩
            have hw := hw x5_9 ex
            refine v_iinc (pc := 104) C 5 rfl (by rw [ex, ki_1]) [(5, .int x5_9), (0, .ref (a 0)), (1, .ref (b 0)), (2, .int x2), (3, .int x3), (4, .int x4)] rfl (by decide) dX8_layFrom_104 ?_
            refine v_goto (pc := 107) C 28 (by decide) dX8_layFrom_107 ?_
            refine v_sub (lv' := [(0, .ref (a 0)), (1, .ref (b 0)), (2, .int x2), (3, .int x3), (4, .int x4), (5, .int x5_9)]) [1, 2, 3, 4, 5, 0] rfl ?_
            exact hself x2 x3 x4 x5_9 p8 hw
set_option maxHeartbeats 4000000 in
set_option maxRecDepth 100000 in
theorem ctX8_layFrom (l : Launch) (E : VE) (a : Nat → Nat) (b : Nat → Nat) : ∀ (d : Nat) (x2 : Int32) (x3 : Int32) (x4 : Int32) (p : St) (q : St) {Post : St → Prop} (_ : wpX8_layFrom d x2 x3 x4 p q Post) (sz : Nat), Met l yX8_layFrom (mW yX8_layFrom cX8_layFrom 6 none) (rmX8_layFrom d) (CPre E [.ref (a 0), .ref (b 0), .int x2, .int x3, .int x4] sz (fl [bRows E a p, bPad E b q])) (CQv E Post (fun u => (fl [bRows E a u, bPad E b q])) (fl [bRows E a p, bPad E b q]) sz) 0 0 (va_A (fl [bRows E a p, bPad E b q]) sz) := by
  intro d
  induction d with
  | zero => intro x2 x3 x4 p q Post hw sz; exact absurd hw id
  | succ d hrec =>
  intro x2 x3 x4 p q Post hw sz
  have hw : wbX8_layFrom (wpX8_layFrom d) x2 x3 x4 p q Post := hw
  generalize wpX8_layFrom d = rec at hrec hw
  refine v_met (by decide) (Nat.le_of_ble_eq_true rfl) ?_
  intro pr e s m below meth c A hsz hA C
  subst hsz
  refine v_iload_n (pc := 0) C 2 rfl rfl dX8_layFrom_0 ?_
  refine v_aload_n (pc := 1) C 1 rfl rfl dX8_layFrom_1 ?_
  refine v_getN (pc := 2) C cfX4 rfl 5 3 rfl (by decide) wfX8_28 rfl dX8_layFrom_2 ?_
  refine v_icmp_ge (pc := 5) C 14 (by decide) dX8_layFrom_5 (fun hc => ?_) (fun hc => ?_)
  · have hw := hw.1 hc
    refine v_sub (lv' := [(0, .ref (a 0))]) [0] rfl ?_
    exact vjX8_layFrom_14 C hA a b rec q hrec p hw
  · have hw := hw.2 hc
    refine v_iload_n (pc := 8) C 2 rfl rfl dX8_layFrom_8 ?_
    refine v_bipush (pc := 9) C 6 kb_6 dX8_layFrom_9 ?_
    refine v_icmp_lt (pc := 11) C 25 (by decide) dX8_layFrom_11 (fun hc => ?_) (fun hc => ?_)
    · have hw := hw.1 hc
      refine v_iconst (pc := 25) C 0 ki_0 dX8_layFrom_25 ?_
      refine v_istore (pc := 26) C [(5, .int 0), (0, .ref (a 0)), (1, .ref (b 0)), (2, .int x2), (3, .int x3), (4, .int x4)] rfl (by decide) dX8_layFrom_26 ?_
      obtain ⟨n, hw⟩ := hw
      refine v_sub (lv' := [(0, .ref (a 0)), (1, .ref (b 0)), (2, .int x2), (3, .int x3), (4, .int x4), (5, .int 0)]) [1, 2, 3, 4, 5, 0] rfl ?_
      refine vlX8_layFrom_28 C hA a b rec q hrec (fun p10 hw => ?_) n x2 x3 x4 0 p hw
      exact v_vret (pc := 110) C p10 hA rfl hw dX8_layFrom_110
    · have hw := hw.2 hc
      refine v_sub (lv' := [(0, .ref (a 0))]) [0] rfl ?_
      exact vjX8_layFrom_14 C hA a b rec q hrec p hw
set_option maxHeartbeats 4000000 in
set_option maxRecDepth 100000 in
theorem vlX8_search_13 (C : VC pr s m args meth c E A cX8_search 5 (some .int) RX8) (hA : va_A w0 s.heap.size = A) (a : Nat → Nat) (b : Nat → Nat) (q : St) {Post : Int32 → St → Prop} {KX : Int32 → Int32 → St → Prop} (hX : ∀ (x2 : Int32) (x3 : Int32) (p : St), KX x2 x3 p → V pr l e rmX8_search s m args below meth c E A 5 0 0 (MQ below (CQi E Post (fun u => (fl [bRows E a u, bPad E b q])) w0 s.heap.size) args s 0 0 A) (fl [bRows E a p, bPad E b q]) 45 [(0, .ref (a 0)), (1, .ref (b 0)), (2, .int x2), (3, .int x3)] []) : ∀ (n : Nat) (x2 : Int32) (x3 : Int32) (x4 : Int32) (p : St), wLX8_search_13 q Post KX n (x2, x3, x4, p) → V pr l e rmX8_search s m args below meth c E A 5 0 0 (MQ below (CQi E Post (fun u => (fl [bRows E a u, bPad E b q])) w0 s.heap.size) args s 0 0 A) (fl [bRows E a p, bPad E b q]) 13 [(0, .ref (a 0)), (1, .ref (b 0)), (2, .int x2), (3, .int x3), (4, .int x4)] [] := by
  intro n
  induction n with
  | zero => intro x2 x3 x4 p hw; exact absurd hw id
  | succ n hself =>
    intro x2 x3 x4 p hw
    have hw : wlX8_search_13 q Post KX (wLX8_search_13 q Post KX n) x2 x3 x4 p := hw
    refine v_iload (pc := 13) C 4 rfl dX8_search_13 ?_
    refine v_bipush (pc := 15) C 10 kb_10 dX8_search_15 ?_
    refine v_icmp_ge (pc := 17) C 45 (by decide) dX8_search_17 (fun hc => ?_) (fun hc => ?_)
    · have hw := hw.1 hc
      refine v_sub (lv' := [(0, .ref (a 0)), (1, .ref (b 0)), (2, .int x2), (3, .int x3)]) [0, 1, 2, 3] rfl ?_
      exact hX x2 x3 p hw
    · have hw := hw.2 hc
      refine v_aload_n (pc := 20) C 0 rfl rfl dX8_search_20 ?_
      refine v_get (pc := 21) C cfX8 rfl 0 2 rfl (by decide) wfX8_18 rfl dX8_search_21 ?_
      refine v_iload_n (pc := 24) C 3 rfl rfl dX8_search_24 ?_
      refine v_bipush (pc := 25) C 10 kb_10 dX8_search_25 ?_
      refine v_imul (pc := 27) C dX8_search_27 ?_
      refine v_iload (pc := 28) C 4 rfl dX8_search_28 ?_
      refine v_iadd (pc := 30) C dX8_search_30 ?_
      refine v_aload_n (pc := 31) C 1 rfl rfl dX8_search_31 ?_
      refine v_iload_n (pc := 32) C 3 rfl rfl dX8_search_32 ?_
      refine v_iload (pc := 33) C 4 rfl dX8_search_33 ?_
      refine v_goBi (pc := 35) C (bs := [bRows E a p, bPad E b q]) (cs := [bPad E b q]) (cs' := (fun (_ : Unit) => [bPad E b q])) (bs' := (fun (_ : Unit) => [bRows E a p, bPad E b q])) (w' := (fun (_ : Unit) => (fl [bRows E a p, bPad E b q]))) [1] rfl rfl (fun _ => rfl) (fun _ => rfl) (fun _ => rfl) (v_runVB (pc := 35) C [.int x3, .int x4] [.int ((x3 * 10) + x4), .ref (a 3)] (fun sz => ctX4_dentedAtLeast l E b x3 x4 q hw sz) [1] rfl rfl rfl mfX4_dentedAtLeast mvX4_dentedAtLeast wmX8_33 rfl ⟨Nat.le_of_ble_eq_true rfl, Nat.le_of_ble_eq_true rfl⟩ ⟨rfl, rfl⟩ 5 (ci := 4) (qc := (RX4, TX4, 12)) rfl rfl rfl rfl (Nat.le_of_ble_eq_true rfl) ⟨Nat.zero_le _, Nat.zero_le _⟩ dX8_search_35) (fun r1 _ hw => ?_)
      obtain ⟨hg, hw⟩ := hw
      obtain ⟨p2, es⟩ : ∃ y : St, y = p.sA 2 (upd (p.A 2) ((x3 * 10) + x4).toNatClampNeg r1) := ⟨_, rfl⟩
      have hw := hw p2 es
      refine v_iast (pc := 38) C 3 (w' := (fl [bRows E a p2, bPad E b q])) rfl rfl (by subst es; rfl) hg dX8_search_38 ?_
      obtain ⟨x4_3, ex⟩ : ∃ y : Int32, y = x4 + 1 := ⟨_, rfl⟩
      have hw := hw x4_3 ex
      refine v_iinc (pc := 39) C 4 rfl (by rw [ex, ki_1]) [(4, .int x4_3), (0, .ref (a 0)), (1, .ref (b 0)), (2, .int x2), (3, .int x3)] rfl (by decide) dX8_search_39 ?_
      refine v_goto (pc := 42) C 13 (by decide) dX8_search_42 ?_
      refine v_sub (lv' := [(0, .ref (a 0)), (1, .ref (b 0)), (2, .int x2), (3, .int x3), (4, .int x4_3)]) [1, 2, 3, 4, 0] rfl ?_
      exact hself x2 x3 x4_3 p2 hw
set_option maxHeartbeats 4000000 in
set_option maxRecDepth 100000 in
theorem vlX8_search_2 (C : VC pr s m args meth c E A cX8_search 5 (some .int) RX8) (hA : va_A w0 s.heap.size = A) (a : Nat → Nat) (b : Nat → Nat) (q : St) {Post : Int32 → St → Prop} {KX : Int32 → St → Prop} (hX : ∀ (x2 : Int32) (p : St), KX x2 p → V pr l e rmX8_search s m args below meth c E A 5 0 0 (MQ below (CQi E Post (fun u => (fl [bRows E a u, bPad E b q])) w0 s.heap.size) args s 0 0 A) (fl [bRows E a p, bPad E b q]) 51 [(0, .ref (a 0)), (1, .ref (b 0)), (2, .int x2)] []) : ∀ (n : Nat) (x2 : Int32) (x3 : Int32) (p : St), wLX8_search_2 q Post KX n (x2, x3, p) → V pr l e rmX8_search s m args below meth c E A 5 0 0 (MQ below (CQi E Post (fun u => (fl [bRows E a u, bPad E b q])) w0 s.heap.size) args s 0 0 A) (fl [bRows E a p, bPad E b q]) 2 [(0, .ref (a 0)), (1, .ref (b 0)), (2, .int x2), (3, .int x3)] [] := by
  intro n
  induction n with
  | zero => intro x2 x3 p hw; exact absurd hw id
  | succ n hself =>
    intro x2 x3 p hw
    have hw : wlX8_search_2 q Post KX (wLX8_search_2 q Post KX n) x2 x3 p := hw
    refine v_iload_n (pc := 2) C 3 rfl rfl dX8_search_2 ?_
    refine v_aload_n (pc := 3) C 1 rfl rfl dX8_search_3 ?_
    refine v_getN (pc := 4) C cfX4 rfl 5 3 rfl (by decide) wfX8_28 rfl dX8_search_4 ?_
    refine v_icmp_ge (pc := 7) C 51 (by decide) dX8_search_7 (fun hc => ?_) (fun hc => ?_)
    · have hw := hw.1 hc
      refine v_sub (lv' := [(0, .ref (a 0)), (1, .ref (b 0)), (2, .int x2)]) [0, 1, 2] rfl ?_
      exact hX x2 p hw
    · have hw := hw.2 hc
      refine v_iconst (pc := 10) C 1 ki_1 dX8_search_10 ?_
      refine v_istore (pc := 11) C [(4, .int 1), (0, .ref (a 0)), (1, .ref (b 0)), (2, .int x2), (3, .int x3)] rfl (by decide) dX8_search_11 ?_
      obtain ⟨n, hw⟩ := hw
      refine v_sub (lv' := [(0, .ref (a 0)), (1, .ref (b 0)), (2, .int x2), (3, .int x3), (4, .int 1)]) [1, 2, 3, 4, 0] rfl ?_
      refine vlX8_search_13 C hA a b q (fun y4 y5 p6 hw => ?_) n x2 x3 1 p hw
      obtain ⟨x3_7, ex⟩ : ∃ y : Int32, y = y5 + 1 := ⟨_, rfl⟩
      have hw := hw x3_7 ex
      refine v_iinc (pc := 45) C 3 rfl (by rw [ex, ki_1]) [(3, .int x3_7), (0, .ref (a 0)), (1, .ref (b 0)), (2, .int y4)] rfl (by decide) dX8_search_45 ?_
      refine v_goto (pc := 48) C 2 (by decide) dX8_search_48 ?_
      refine v_sub (lv' := [(0, .ref (a 0)), (1, .ref (b 0)), (2, .int y4), (3, .int x3_7)]) [1, 2, 3, 0] rfl ?_
      exact hself y4 x3_7 p6 hw
set_option maxHeartbeats 4000000 in
set_option maxRecDepth 100000 in
theorem ctX8_search (l : Launch) (E : VE) (a : Nat → Nat) (b : Nat → Nat) (x2 : Int32) (p : St) (q : St)  {Post : Int32 → St → Prop} (hw : wpX8_search x2 p q Post) (sz : Nat) : Met l yX8_search (mW yX8_search cX8_search 5 (some .int)) rmX8_search (CPre E [.ref (a 0), .ref (b 0), .int x2] sz (fl [bRows E a p, bPad E b q])) (CQi E Post (fun u => (fl [bRows E a u, bPad E b q])) (fl [bRows E a p, bPad E b q]) sz) 0 0 (va_A (fl [bRows E a p, bPad E b q]) sz) := by
  refine v_met (by decide) (Nat.le_of_ble_eq_true rfl) ?_
  intro pr e s m below meth c A hsz hA C
  subst hsz
  refine v_iconst (pc := 0) C 0 ki_0 dX8_search_0 ?_
  refine v_istore_n (pc := 1) C [(3, .int 0), (0, .ref (a 0)), (1, .ref (b 0)), (2, .int x2)] rfl rfl (by decide) dX8_search_1 ?_
  obtain ⟨n, hw⟩ := hw
  refine v_sub (lv' := [(0, .ref (a 0)), (1, .ref (b 0)), (2, .int x2), (3, .int 0)]) [1, 2, 3, 0] rfl ?_
  refine vlX8_search_2 C hA a b q (fun y8 p9 hw => ?_) n x2 0 p hw
  refine v_aload_n (pc := 51) C 0 rfl rfl dX8_search_51 ?_
  refine v_iconst (pc := 52) C 0 ki_0 dX8_search_52 ?_
  obtain ⟨p10, es⟩ : ∃ y : St, y = p9.sI 4 0 := ⟨_, rfl⟩
  have hw := hw p10 es
  refine v_put (pc := 53) C cfX8 rfl 0 4 (ty := .int) (w' := (fl [bRows E a p10, bPad E b q])) rfl (by subst es; rfl) (by decide) wfX8_24 rfl rfl rfl rfl (Nat.le_of_ble_eq_true rfl) dX8_search_53 ?_
  refine v_aload_n (pc := 56) C 0 rfl rfl dX8_search_56 ?_
  refine v_aload_n (pc := 57) C 1 rfl rfl dX8_search_57 ?_
  refine v_iconst (pc := 58) C 0 ki_0 dX8_search_58 ?_
  refine v_iconst (pc := 59) C 0 ki_0 dX8_search_59 ?_
  refine v_iload_n (pc := 60) C 2 rfl rfl dX8_search_60 ?_
  refine v_goAv (pc := 61) C (wc' := (fun (u : St) => (fl [bRows E a u, bPad E b q]))) (fun _ => rfl) (v_runVA (pc := 61) C [.ref (b 0), .int 0, .int 0, .int y8] [] (fun sz => ctX8_layFrom l E a b 7 0 0 y8 p10 q hw sz) mfX8_layFrom mvX8_layFrom wmX8_37 rfl ⟨Nat.le_of_ble_eq_true rfl, Nat.le_of_ble_eq_true rfl⟩ ⟨rfl, rfl⟩ 0 (ci := 8) (qc := (RX8, TX8, 5)) rfl rfl rfl rfl (Nat.le_of_ble_eq_true rfl) ⟨Nat.zero_le _, Nat.zero_le _⟩ dX8_search_61) (fun p11 hw => ?_)
  refine v_aload_n (pc := 64) C 0 rfl rfl dX8_search_64 ?_
  refine v_get (pc := 65) C cfX8 rfl 0 4 rfl (by decide) wfX8_24 rfl dX8_search_65 ?_
  exact v_ireti (pc := 68) C p11 hA rfl hw dX8_search_68
end
end
section
theorem zz_last : True := trivial
end

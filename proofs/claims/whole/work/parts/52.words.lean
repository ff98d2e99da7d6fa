theorem tinp {w : Cond} (h : w ∈ k2_sels lw_privs) : w ∈ lw_tbl := List.mem_append_left _ h
theorem tin1 {w : Cond} (h : w ∈ tables_1_1) : w ∈ lw_tbl := List.mem_append_right _ (List.mem_append_left _ h)
theorem tin2 {w : Cond} (h : w ∈ tables_1_2) : w ∈ lw_tbl := List.mem_append_right _ (List.mem_append_right _ (List.mem_append_left _ h))
theorem tin3 {w : Cond} (h : w ∈ tables_1_3) : w ∈ lw_tbl := List.mem_append_right _ (List.mem_append_right _ (List.mem_append_right _ (List.mem_append_left _ h)))
theorem tin4 {w : Cond} (h : w ∈ tables_1_4) : w ∈ lw_tbl := List.mem_append_right _ (List.mem_append_right _ (List.mem_append_right _ (List.mem_append_right _ (List.mem_append_left _ h))))
theorem tin5 {w : Cond} (h : w ∈ tables_1_5) : w ∈ lw_tbl := List.mem_append_right _ (List.mem_append_right _ (List.mem_append_right _ (List.mem_append_right _ (List.mem_append_right _ h))))
theorem ki_2 : Int32.ofInt 2 = (2 : Int32) := by decide +kernel
theorem kb_14 : (Int8.ofInt 14).toInt32 = (14 : Int32) := by decide +kernel
theorem ki_1 : Int32.ofInt 1 = (1 : Int32) := by decide +kernel
theorem vi_1_86 : vp_in 1 86 := by unfold vp_in; decide
theorem tn_1 : (1 : Int32).toNatClampNeg = 1 := by decide
theorem ki_0 : Int32.ofInt 0 = (0 : Int32) := by decide +kernel
theorem kb_6 : (Int8.ofInt 6).toInt32 = (6 : Int32) := by decide +kernel
theorem kb_12 : (Int8.ofInt 12).toInt32 = (12 : Int32) := by decide +kernel
theorem ki_m1 : Int32.ofInt (-1) = (-1 : Int32) := by decide +kernel
theorem kb_86 : (Int8.ofInt 86).toInt32 = (86 : Int32) := by decide +kernel
theorem tn_0 : (0 : Int32).toNatClampNeg = 0 := by decide
theorem tn_86 : (86 : Int32).toNatClampNeg = 86 := by decide
theorem kb_10 : (Int8.ofInt 10).toInt32 = (10 : Int32) := by decide +kernel
theorem tn_10 : (10 : Int32).toNatClampNeg = 10 := by decide
theorem kb_60 : (Int8.ofInt 60).toInt32 = (60 : Int32) := by decide +kernel
theorem tn_60 : (60 : Int32).toNatClampNeg = 60 := by decide
theorem kb_8 : (Int8.ofInt 8).toInt32 = (8 : Int32) := by decide +kernel
theorem tn_8 : (8 : Int32).toNatClampNeg = 8 := by decide
theorem ks_602 : (Int16.ofInt 602).toInt32 = (602 : Int32) := by decide +kernel
theorem tn_602 : (602 : Int32).toNatClampNeg = 602 := by decide
theorem kb_7 : (Int8.ofInt 7).toInt32 = (7 : Int32) := by decide +kernel
theorem vi_0_86 : vp_in 0 86 := by unfold vp_in; decide
theorem kb_97 : (Int8.ofInt 97).toInt32 = (97 : Int32) := by decide +kernel
theorem kb_122 : (Int8.ofInt 122).toInt32 = (122 : Int32) := by decide +kernel
theorem kb_48 : (Int8.ofInt 48).toInt32 = (48 : Int32) := by decide +kernel
theorem kb_57 : (Int8.ofInt 57).toInt32 = (57 : Int32) := by decide +kernel
theorem ki_4 : Int32.ofInt 4 = (4 : Int32) := by decide +kernel
theorem kb_32 : (Int8.ofInt 32).toInt32 = (32 : Int32) := by decide +kernel
theorem kb_59 : (Int8.ofInt 59).toInt32 = (59 : Int32) := by decide +kernel
theorem ki_3 : Int32.ofInt 3 = (3 : Int32) := by decide +kernel
theorem ki_5 : Int32.ofInt 5 = (5 : Int32) := by decide +kernel
theorem kb_9 : (Int8.ofInt 9).toInt32 = (9 : Int32) := by decide +kernel
theorem kb_11 : (Int8.ofInt 11).toInt32 = (11 : Int32) := by decide +kernel
theorem ks_150 : (Int16.ofInt 150).toInt32 = (150 : Int32) := by decide +kernel
theorem kb_m2 : (Int8.ofInt (-2)).toInt32 = (-2 : Int32) := by decide +kernel
theorem ks_4096 : (Int16.ofInt 4096).toInt32 = (4096 : Int32) := by decide +kernel
theorem kb_m3 : (Int8.ofInt (-3)).toInt32 = (-3 : Int32) := by decide +kernel
theorem kb_m4 : (Int8.ofInt (-4)).toInt32 = (-4 : Int32) := by decide +kernel
theorem kb_127 : (Int8.ofInt 127).toInt32 = (127 : Int32) := by decide +kernel
theorem kb_m10 : (Int8.ofInt (-10)).toInt32 = (-10 : Int32) := by decide +kernel
theorem kb_16 : (Int8.ofInt 16).toInt32 = (16 : Int32) := by decide +kernel
theorem kb_63 : (Int8.ofInt 63).toInt32 = (63 : Int32) := by decide +kernel
theorem kb_m5 : (Int8.ofInt (-5)).toInt32 = (-5 : Int32) := by decide +kernel
theorem ks_720 : (Int16.ofInt 720).toInt32 = (720 : Int32) := by decide +kernel
theorem ks_128 : (Int16.ofInt 128).toInt32 = (128 : Int32) := by decide +kernel
theorem kl_0 : Int64.ofNat ((0 : Fin 2) : Nat) = (0 : Int64) := by decide +kernel
theorem kl_1 : Int64.ofNat ((1 : Fin 2) : Nat) = (1 : Int64) := by decide +kernel
theorem kb_20 : (Int8.ofInt 20).toInt32 = (20 : Int32) := by decide +kernel
theorem kb_124 : (Int8.ofInt 124).toInt32 = (124 : Int32) := by decide +kernel
theorem vi_124_126 : vp_in 124 126 := by unfold vp_in; decide
theorem tn_124 : (124 : Int32).toNatClampNeg = 124 := by decide
theorem kb_126 : (Int8.ofInt 126).toInt32 = (126 : Int32) := by decide +kernel
theorem ks_882 : (Int16.ofInt 882).toInt32 = (882 : Int32) := by decide +kernel
theorem kb_125 : (Int8.ofInt 125).toInt32 = (125 : Int32) := by decide +kernel
theorem vi_125_126 : vp_in 125 126 := by unfold vp_in; decide
theorem tn_125 : (125 : Int32).toNatClampNeg = 125 := by decide
theorem kb_84 : (Int8.ofInt 84).toInt32 = (84 : Int32) := by decide +kernel
theorem kb_99 : (Int8.ofInt 99).toInt32 = (99 : Int32) := by decide +kernel
theorem kb_112 : (Int8.ofInt 112).toInt32 = (112 : Int32) := by decide +kernel
theorem kb_100 : (Int8.ofInt 100).toInt32 = (100 : Int32) := by decide +kernel
theorem kb_114 : (Int8.ofInt 114).toInt32 = (114 : Int32) := by decide +kernel
theorem kb_98 : (Int8.ofInt 98).toInt32 = (98 : Int32) := by decide +kernel
theorem kb_111 : (Int8.ofInt 111).toInt32 = (111 : Int32) := by decide +kernel
theorem kb_110 : (Int8.ofInt 110).toInt32 = (110 : Int32) := by decide +kernel
theorem kb_116 : (Int8.ofInt 116).toInt32 = (116 : Int32) := by decide +kernel
theorem kb_101 : (Int8.ofInt 101).toInt32 = (101 : Int32) := by decide +kernel
theorem kb_53 : (Int8.ofInt 53).toInt32 = (53 : Int32) := by decide +kernel
theorem ks_1154 : (Int16.ofInt 1154).toInt32 = (1154 : Int32) := by decide +kernel
theorem ks_1008 : (Int16.ofInt 1008).toInt32 = (1008 : Int32) := by decide +kernel
theorem ks_1134 : (Int16.ofInt 1134).toInt32 = (1134 : Int32) := by decide +kernel
theorem ks_1142 : (Int16.ofInt 1142).toInt32 = (1142 : Int32) := by decide +kernel
theorem ks_1143 : (Int16.ofInt 1143).toInt32 = (1143 : Int32) := by decide +kernel
theorem ks_1144 : (Int16.ofInt 1144).toInt32 = (1144 : Int32) := by decide +kernel
theorem ks_1145 : (Int16.ofInt 1145).toInt32 = (1145 : Int32) := by decide +kernel
theorem wcX5_forceOf : Cond.code yX5_forceOf cX5_forceOf 5 (some .int) ∈ gG := gG_in (tin2 (List.mem_of_getElem? (i := 82) rfl)) rfl
theorem wiX5 : Cond.initialized RX5 ∈ gG := gG_in (tin1 (List.mem_of_getElem? (i := 2) rfl)) rfl
theorem wnX5_forceOf : Cond.instanceMethod yX5_forceOf ∈ gG := gG_in (tin2 (List.mem_of_getElem? (i := 80) rfl)) rfl
theorem wsX5_forceOf : Cond.selects RX5 yX5_forceOf yX5_forceOf ∈ gG := gG_in (tin2 (List.mem_of_getElem? (i := 81) rfl)) rfl
theorem wcX5_hasInk : Cond.code yX5_hasInk cX5_hasInk 3 (some .boolean) ∈ gG := gG_in (tin2 (List.mem_of_getElem? (i := 114) rfl)) rfl
theorem wnX5_hasInk : Cond.instanceMethod yX5_hasInk ∈ gG := gG_in (tin2 (List.mem_of_getElem? (i := 112) rfl)) rfl
theorem wsX5_hasInk : Cond.selects RX5 yX5_hasInk yX5_hasInk ∈ gG := gG_in (tin2 (List.mem_of_getElem? (i := 113) rfl)) rfl
theorem wcX4_placeOf : Cond.code yX4_placeOf cX4_placeOf 2 (some .int) ∈ gG := gG_in (tin2 (List.mem_of_getElem? (i := 129) rfl)) rfl
theorem wiX4 : Cond.initialized RX4 ∈ gG := gG_in (tin1 (List.mem_of_getElem? (i := 9) rfl)) rfl
theorem wtX4_placeOf : Cond.static yX4_placeOf ∈ gG := gG_in (tin2 (List.mem_of_getElem? (i := 128) rfl)) rfl
theorem wfX4_11 : Cond.fieldLink RX4 11 (TX4 0).1 (TX4 0).2.1 (TX4 0).2.2.1 ∈ gG := gG_in (tin1 (List.mem_of_getElem? (i := 87) rfl)) rfl
theorem wmX4_55 : Cond.methodLink RX4 55 yX4_placeOf ∈ gG := gG_in (tin2 (List.mem_of_getElem? (i := 127) rfl)) rfl
theorem wcX4_dentOf : Cond.code yX4_dentOf cX4_dentOf 3 (some .int) ∈ gG := gG_in (tin3 (List.mem_of_getElem? (i := 90) rfl)) rfl
theorem wnX4_dentOf : Cond.instanceMethod yX4_dentOf ∈ gG := gG_in (tin3 (List.mem_of_getElem? (i := 88) rfl)) rfl
theorem wsX4_dentOf : Cond.selects RX4 yX4_dentOf yX4_dentOf ∈ gG := gG_in (tin3 (List.mem_of_getElem? (i := 89) rfl)) rfl
theorem wcX4_noteCount : Cond.code yX4_noteCount cX4_noteCount 1 (some .int) ∈ gG := gG_in (tin2 (List.mem_of_getElem? (i := 63) rfl)) rfl
theorem wnX4_noteCount : Cond.instanceMethod yX4_noteCount ∈ gG := gG_in (tin2 (List.mem_of_getElem? (i := 61) rfl)) rfl
theorem wsX4_noteCount : Cond.selects RX4 yX4_noteCount yX4_noteCount ∈ gG := gG_in (tin2 (List.mem_of_getElem? (i := 62) rfl)) rfl
theorem wfX4_40 : Cond.fieldLink RX4 40 (TX4 9).1 (TX4 9).2.1 (TX4 9).2.2.1 ∈ gG := gG_in (tin1 (List.mem_of_getElem? (i := 109) rfl)) rfl
theorem wcX4_forceDown : Cond.code yX4_forceDown cX4_forceDown 3 (some .int) ∈ gG := gG_in (tin2 (List.mem_of_getElem? (i := 137) rfl)) rfl
theorem wnX4_forceDown : Cond.instanceMethod yX4_forceDown ∈ gG := gG_in (tin2 (List.mem_of_getElem? (i := 135) rfl)) rfl
theorem wsX4_forceDown : Cond.selects RX4 yX4_forceDown yX4_forceDown ∈ gG := gG_in (tin2 (List.mem_of_getElem? (i := 136) rfl)) rfl
theorem wfX4_37 : Cond.fieldLink RX4 37 (TX4 8).1 (TX4 8).2.1 (TX4 8).2.2.1 ∈ gG := gG_in (tin1 (List.mem_of_getElem? (i := 106) rfl)) rfl
theorem wmX4_80 : Cond.methodLink RX4 80 yX4_forceDown ∈ gG := gG_in (tin2 (List.mem_of_getElem? (i := 134) rfl)) rfl
theorem wcX4_forceOn : Cond.code yX4_forceOn cX4_forceOn 3 (some .int) ∈ gG := gG_in (tin2 (List.mem_of_getElem? (i := 133) rfl)) rfl
theorem wnX4_forceOn : Cond.instanceMethod yX4_forceOn ∈ gG := gG_in (tin2 (List.mem_of_getElem? (i := 131) rfl)) rfl
theorem wsX4_forceOn : Cond.selects RX4 yX4_forceOn yX4_forceOn ∈ gG := gG_in (tin2 (List.mem_of_getElem? (i := 132) rfl)) rfl
theorem wcX11_dentInto : Cond.code yX11_dentInto cX11_dentInto 6 none ∈ gG := gG_in (tin2 (List.mem_of_getElem? (i := 144) rfl)) rfl
theorem wiX11 : Cond.initialized RX11 ∈ gG := gG_in (tin1 (List.mem_of_getElem? (i := 1) rfl)) rfl
theorem wtX11_dentInto : Cond.static yX11_dentInto ∈ gG := gG_in (tin2 (List.mem_of_getElem? (i := 143) rfl)) rfl
theorem wfX2_9 : Cond.fieldLink RX2 9 (TX2 0).1 (TX2 0).2.1 (TX2 0).2.2.1 ∈ gG := gG_in (tin1 (List.mem_of_getElem? (i := 146) rfl)) rfl
theorem wmX2_25 : Cond.methodLink RX2 25 yX4_dentOf ∈ gG := gG_in (tin3 (List.mem_of_getElem? (i := 147) rfl)) rfl
theorem wfX2_15 : Cond.fieldLink RX2 15 (TX2 1).1 (TX2 1).2.1 (TX2 1).2.2.1 ∈ gG := gG_in (tin1 (List.mem_of_getElem? (i := 147) rfl)) rfl
theorem wmX2_31 : Cond.methodLink RX2 31 yX4_noteCount ∈ gG := gG_in (tin3 (List.mem_of_getElem? (i := 148) rfl)) rfl
theorem wfX2_35 : Cond.fieldLinkNest RX2 35 (TX4 7).1 (TX4 7).2.1 (TX4 7).2.2.1 "PressedPad" ∈ nW := nW_in (tin1 (List.mem_of_getElem? (i := 103) rfl)) rfl
theorem wmX2_38 : Cond.methodLink RX2 38 yX4_forceOn ∈ gG := gG_in (tin3 (List.mem_of_getElem? (i := 149) rfl)) rfl
theorem wmX2_41 : Cond.methodLinkNest RX2 41 yX11_dentInto "PressedPad" ∈ nW := nW_in (tin3 (List.mem_of_getElem? (i := 150) rfl)) rfl
theorem wcX2_look : Cond.code yX2_look cX2_look 5 none ∈ gG := gG_in (tin3 (List.mem_of_getElem? (i := 146) rfl)) rfl
theorem wiX2 : Cond.initialized RX2 ∈ gG := gG_in (tin1 (List.mem_of_getElem? (i := 10) rfl)) rfl
theorem wnX2_look : Cond.instanceMethod yX2_look ∈ gG := gG_in (tin3 (List.mem_of_getElem? (i := 144) rfl)) rfl
theorem wsX2_look : Cond.selects RX2 yX2_look yX2_look ∈ gG := gG_in (tin3 (List.mem_of_getElem? (i := 145) rfl)) rfl
theorem wfX2_18 : Cond.fieldLink RX2 18 (TX2 2).1 (TX2 2).2.1 (TX2 2).2.2.1 ∈ gG := gG_in (tin1 (List.mem_of_getElem? (i := 148) rfl)) rfl
theorem wfX2_22 : Cond.fieldLink RX2 22 (TX2 3).1 (TX2 3).2.1 (TX2 3).2.2.1 ∈ gG := gG_in (tin1 (List.mem_of_getElem? (i := 150) rfl)) rfl
theorem wcX2_guess : Cond.code yX2_guess cX2_guess 4 (some .boolean) ∈ gG := gG_in (tin3 (List.mem_of_getElem? (i := 154) rfl)) rfl
theorem wnX2_guess : Cond.instanceMethod yX2_guess ∈ gG := gG_in (tin3 (List.mem_of_getElem? (i := 152) rfl)) rfl
theorem wsX2_guess : Cond.selects RX2 yX2_guess yX2_guess ∈ gG := gG_in (tin3 (List.mem_of_getElem? (i := 153) rfl)) rfl
theorem wcX2_isFit : Cond.code yX2_isFit cX2_isFit 2 (some .boolean) ∈ gG := gG_in (tin3 (List.mem_of_getElem? (i := 168) rfl)) rfl
theorem wnX2_isFit : Cond.instanceMethod yX2_isFit ∈ gG := gG_in (tin3 (List.mem_of_getElem? (i := 166) rfl)) rfl
theorem wsX2_isFit : Cond.selects RX2 yX2_isFit yX2_isFit ∈ gG := gG_in (tin3 (List.mem_of_getElem? (i := 167) rfl)) rfl
theorem wfX4_22 : Cond.fieldLink RX4 22 (TX4 3).1 (TX4 3).2.1 (TX4 3).2.2.1 ∈ gG := gG_in (tin1 (List.mem_of_getElem? (i := 91) rfl)) rfl
theorem wfX4_25 : Cond.fieldLink RX4 25 (TX4 4).1 (TX4 4).2.1 (TX4 4).2.2.1 ∈ gG := gG_in (tin1 (List.mem_of_getElem? (i := 95) rfl)) rfl
theorem wfX4_18 : Cond.fieldLink RX4 18 (TX4 2).1 (TX4 2).2.1 (TX4 2).2.2.1 ∈ gG := gG_in (tin1 (List.mem_of_getElem? (i := 89) rfl)) rfl
theorem wfX4_46 : Cond.fieldLink RX4 46 (TX4 11).1 (TX4 11).2.1 (TX4 11).2.2.1 ∈ gG := gG_in (tin1 (List.mem_of_getElem? (i := 112) rfl)) rfl
theorem wcX4_beginAnew : Cond.code yX4_beginAnew cX4_beginAnew 3 none ∈ gG := gG_in (tin2 (List.mem_of_getElem? (i := 33) rfl)) rfl
theorem wnX4_beginAnew : Cond.instanceMethod yX4_beginAnew ∈ gG := gG_in (tin2 (List.mem_of_getElem? (i := 31) rfl)) rfl
theorem wsX4_beginAnew : Cond.selects RX4 yX4_beginAnew yX4_beginAnew ∈ gG := gG_in (tin2 (List.mem_of_getElem? (i := 32) rfl)) rfl
theorem wmX4_49 : Cond.methodLink RX4 49 arraycopyName ∈ gG := gG_in (tin2 (List.mem_of_getElem? (i := 72) rfl)) rfl
theorem wnat : Cond.native arraycopyName ∈ gG := gG_in (tin2 (List.mem_of_getElem? (i := 74) rfl)) rfl
theorem wsta : Cond.static arraycopyName ∈ gG := gG_in (tin2 (List.mem_of_getElem? (i := 73) rfl)) rfl
theorem wsys : Cond.initialized "java/lang/System" ∈ gG := gG_in (tin1 (List.mem_of_getElem? (i := 14) rfl)) rfl
theorem wfX4_15 : Cond.fieldLink RX4 15 (TX4 1).1 (TX4 1).2.1 (TX4 1).2.2.1 ∈ gG := gG_in (tin1 (List.mem_of_getElem? (i := 88) rfl)) rfl
theorem wfX4_28 : Cond.fieldLink RX4 28 (TX4 5).1 (TX4 5).2.1 (TX4 5).2.2.1 ∈ gG := gG_in (tin1 (List.mem_of_getElem? (i := 98) rfl)) rfl
theorem wfX4_31 : Cond.fieldLink RX4 31 (TX4 6).1 (TX4 6).2.1 (TX4 6).2.2.1 ∈ gG := gG_in (tin1 (List.mem_of_getElem? (i := 100) rfl)) rfl
theorem wfX4_34 : Cond.fieldLink RX4 34 (TX4 7).1 (TX4 7).2.1 (TX4 7).2.2.1 ∈ gG := gG_in (tin1 (List.mem_of_getElem? (i := 102) rfl)) rfl
theorem wfX4_43 : Cond.fieldLink RX4 43 (TX4 10).1 (TX4 10).2.1 (TX4 10).2.2.1 ∈ gG := gG_in (tin1 (List.mem_of_getElem? (i := 110) rfl)) rfl
theorem wcX4_copyFrom : Cond.code yX4_copyFrom cX4_copyFrom 2 none ∈ gG := gG_in (tin3 (List.mem_of_getElem? (i := 57) rfl)) rfl
theorem wnX4_copyFrom : Cond.instanceMethod yX4_copyFrom ∈ gG := gG_in (tin3 (List.mem_of_getElem? (i := 55) rfl)) rfl
theorem wsX4_copyFrom : Cond.selects RX4 yX4_copyFrom yX4_copyFrom ∈ gG := gG_in (tin3 (List.mem_of_getElem? (i := 56) rfl)) rfl
theorem wcX4_keepForUndo : Cond.code yX4_keepForUndo cX4_keepForUndo 1 none ∈ gG := gG_in (tin2 (List.mem_of_getElem? (i := 71) rfl)) rfl
theorem wnX4_keepForUndo : Cond.instanceMethod yX4_keepForUndo ∈ gG := gG_in (tin2 (List.mem_of_getElem? (i := 69) rfl)) rfl
theorem wsX4_keepForUndo : Cond.selects RX4 yX4_keepForUndo yX4_keepForUndo ∈ gG := gG_in (tin2 (List.mem_of_getElem? (i := 70) rfl)) rfl
theorem wcX4_goBack : Cond.code yX4_goBack cX4_goBack 1 none ∈ gG := gG_in (tin2 (List.mem_of_getElem? (i := 160) rfl)) rfl
theorem wnX4_goBack : Cond.instanceMethod yX4_goBack ∈ gG := gG_in (tin2 (List.mem_of_getElem? (i := 158) rfl)) rfl
theorem wsX4_goBack : Cond.selects RX4 yX4_goBack yX4_goBack ∈ gG := gG_in (tin2 (List.mem_of_getElem? (i := 159) rfl)) rfl
theorem wcX4_top : Cond.code yX4_top cX4_top 1 (some .int) ∈ gG := gG_in (tin3 (List.mem_of_getElem? (i := 78) rfl)) rfl
theorem wnX4_top : Cond.instanceMethod yX4_top ∈ gG := gG_in (tin3 (List.mem_of_getElem? (i := 76) rfl)) rfl
theorem wsX4_top : Cond.selects RX4 yX4_top yX4_top ∈ gG := gG_in (tin3 (List.mem_of_getElem? (i := 77) rfl)) rfl
theorem wcX4_isUsedUp : Cond.code yX4_isUsedUp cX4_isUsedUp 1 (some .boolean) ∈ gG := gG_in (tin2 (List.mem_of_getElem? (i := 55) rfl)) rfl
theorem wnX4_isUsedUp : Cond.instanceMethod yX4_isUsedUp ∈ gG := gG_in (tin2 (List.mem_of_getElem? (i := 53) rfl)) rfl
theorem wsX4_isUsedUp : Cond.selects RX4 yX4_isUsedUp yX4_isUsedUp ∈ gG := gG_in (tin2 (List.mem_of_getElem? (i := 54) rfl)) rfl
theorem wcX4_hasSheet : Cond.code yX4_hasSheet cX4_hasSheet 2 (some .boolean) ∈ gG := gG_in (tin3 (List.mem_of_getElem? (i := 66) rfl)) rfl
theorem wnX4_hasSheet : Cond.instanceMethod yX4_hasSheet ∈ gG := gG_in (tin3 (List.mem_of_getElem? (i := 64) rfl)) rfl
theorem wsX4_hasSheet : Cond.selects RX4 yX4_hasSheet yX4_hasSheet ∈ gG := gG_in (tin3 (List.mem_of_getElem? (i := 65) rfl)) rfl
theorem wcX4_hasSheets : Cond.code yX4_hasSheets cX4_hasSheets 2 (some .boolean) ∈ gG := gG_in (tin2 (List.mem_of_getElem? (i := 41) rfl)) rfl
theorem wnX4_hasSheets : Cond.instanceMethod yX4_hasSheets ∈ gG := gG_in (tin2 (List.mem_of_getElem? (i := 39) rfl)) rfl
theorem wsX4_hasSheets : Cond.selects RX4 yX4_hasSheets yX4_hasSheets ∈ gG := gG_in (tin2 (List.mem_of_getElem? (i := 40) rfl)) rfl
theorem wcX4_hasNote : Cond.code yX4_hasNote cX4_hasNote 2 (some .boolean) ∈ gG := gG_in (tin3 (List.mem_of_getElem? (i := 98) rfl)) rfl
theorem wnX4_hasNote : Cond.instanceMethod yX4_hasNote ∈ gG := gG_in (tin3 (List.mem_of_getElem? (i := 96) rfl)) rfl
theorem wsX4_hasNote : Cond.selects RX4 yX4_hasNote yX4_hasNote ∈ gG := gG_in (tin3 (List.mem_of_getElem? (i := 97) rfl)) rfl
theorem wcX4_hasNotes : Cond.code yX4_hasNotes cX4_hasNotes 2 (some .boolean) ∈ gG := gG_in (tin3 (List.mem_of_getElem? (i := 142) rfl)) rfl
theorem wnX4_hasNotes : Cond.instanceMethod yX4_hasNotes ∈ gG := gG_in (tin3 (List.mem_of_getElem? (i := 140) rfl)) rfl
theorem wsX4_hasNotes : Cond.selects RX4 yX4_hasNotes yX4_hasNotes ∈ gG := gG_in (tin3 (List.mem_of_getElem? (i := 141) rfl)) rfl
theorem wcX4_inkOf : Cond.code yX4_inkOf cX4_inkOf 2 (some .int) ∈ gG := gG_in (tin3 (List.mem_of_getElem? (i := 70) rfl)) rfl
theorem wnX4_inkOf : Cond.instanceMethod yX4_inkOf ∈ gG := gG_in (tin3 (List.mem_of_getElem? (i := 68) rfl)) rfl
theorem wsX4_inkOf : Cond.selects RX4 yX4_inkOf yX4_inkOf ∈ gG := gG_in (tin3 (List.mem_of_getElem? (i := 69) rfl)) rfl
theorem wcX4_copyOf : Cond.code yX4_copyOf cX4_copyOf 2 (some .int) ∈ gG := gG_in (tin3 (List.mem_of_getElem? (i := 74) rfl)) rfl
theorem wnX4_copyOf : Cond.instanceMethod yX4_copyOf ∈ gG := gG_in (tin3 (List.mem_of_getElem? (i := 72) rfl)) rfl
theorem wsX4_copyOf : Cond.selects RX4 yX4_copyOf yX4_copyOf ∈ gG := gG_in (tin3 (List.mem_of_getElem? (i := 73) rfl)) rfl
theorem wcX4_tearTop : Cond.code yX4_tearTop cX4_tearTop 1 (some .int) ∈ gG := gG_in (tin2 (List.mem_of_getElem? (i := 152) rfl)) rfl
theorem wnX4_tearTop : Cond.instanceMethod yX4_tearTop ∈ gG := gG_in (tin2 (List.mem_of_getElem? (i := 150) rfl)) rfl
theorem wsX4_tearTop : Cond.selects RX4 yX4_tearTop yX4_tearTop ∈ gG := gG_in (tin2 (List.mem_of_getElem? (i := 151) rfl)) rfl
theorem wmX4_76 : Cond.methodLinkNest RX4 76 yX11_dentInto "PressedPad" ∈ nW := nW_in (tin2 (List.mem_of_getElem? (i := 142) rfl)) rfl
theorem wcX4_pressInto : Cond.code yX4_pressInto cX4_pressInto 5 none ∈ gG := gG_in (tin2 (List.mem_of_getElem? (i := 141) rfl)) rfl
theorem wnX4_pressInto : Cond.instanceMethod yX4_pressInto ∈ gG := gG_in (tin2 (List.mem_of_getElem? (i := 140) rfl)) rfl
theorem wsX4_pressInto : Cond.selects RX4 yX4_pressInto yX4_pressInto ∈ gG := gG_in (tinp (List.mem_of_getElem? (i := 4) rfl)) rfl
theorem wmX4_59 : Cond.methodLink RX4 59 yX5_forceOf ∈ gG := gG_in (tin2 (List.mem_of_getElem? (i := 79) rfl)) rfl
theorem wmX4_65 : Cond.methodLink RX4 65 yX5_hasInk ∈ gG := gG_in (tin2 (List.mem_of_getElem? (i := 111) rfl)) rfl
theorem wmX4_69 : Cond.methodLink RX4 69 yX4_forceOn ∈ gG := gG_in (tin2 (List.mem_of_getElem? (i := 130) rfl)) rfl
theorem wmX4_72 : Cond.methodLink RX4 72 yX4_pressInto ∈ gG := gG_in (tin2 (List.mem_of_getElem? (i := 138) rfl)) rfl
theorem wcX4_putNote : Cond.code yX4_putNote cX4_putNote 8 (some .int) ∈ gG := gG_in (tin2 (List.mem_of_getElem? (i := 78) rfl)) rfl
theorem wnX4_putNote : Cond.instanceMethod yX4_putNote ∈ gG := gG_in (tin2 (List.mem_of_getElem? (i := 76) rfl)) rfl
theorem wsX4_putNote : Cond.selects RX4 yX4_putNote yX4_putNote ∈ gG := gG_in (tin2 (List.mem_of_getElem? (i := 77) rfl)) rfl
theorem wcX4_writtenOn : Cond.code yX4_writtenOn cX4_writtenOn 4 (some .int) ∈ gG := gG_in (tin3 (List.mem_of_getElem? (i := 82) rfl)) rfl
theorem wnX4_writtenOn : Cond.instanceMethod yX4_writtenOn ∈ gG := gG_in (tin3 (List.mem_of_getElem? (i := 80) rfl)) rfl
theorem wsX4_writtenOn : Cond.selects RX4 yX4_writtenOn yX4_writtenOn ∈ gG := gG_in (tin3 (List.mem_of_getElem? (i := 81) rfl)) rfl
theorem wcX4_cellsDented : Cond.code yX4_cellsDented cX4_cellsDented 3 (some .int) ∈ gG := gG_in (tin3 (List.mem_of_getElem? (i := 120) rfl)) rfl
theorem wnX4_cellsDented : Cond.instanceMethod yX4_cellsDented ∈ gG := gG_in (tin3 (List.mem_of_getElem? (i := 118) rfl)) rfl
theorem wsX4_cellsDented : Cond.selects RX4 yX4_cellsDented yX4_cellsDented ∈ gG := gG_in (tin3 (List.mem_of_getElem? (i := 119) rfl)) rfl
theorem wmX4_83 : Cond.methodLink RX4 83 yX4_cellsDented ∈ gG := gG_in (tin3 (List.mem_of_getElem? (i := 117) rfl)) rfl
theorem wcX4_dentedBy : Cond.code yX4_dentedBy cX4_dentedBy 4 (some .int) ∈ gG := gG_in (tin3 (List.mem_of_getElem? (i := 116) rfl)) rfl
theorem wnX4_dentedBy : Cond.instanceMethod yX4_dentedBy ∈ gG := gG_in (tin3 (List.mem_of_getElem? (i := 114) rfl)) rfl
theorem wsX4_dentedBy : Cond.selects RX4 yX4_dentedBy yX4_dentedBy ∈ gG := gG_in (tin3 (List.mem_of_getElem? (i := 115) rfl)) rfl
theorem wmX4_86 : Cond.methodLink RX4 86 yX4_dentOf ∈ gG := gG_in (tin3 (List.mem_of_getElem? (i := 134) rfl)) rfl
theorem wcX4_dentedAtLeast : Cond.code yX4_dentedAtLeast cX4_dentedAtLeast 5 (some .int) ∈ gG := gG_in (tin3 (List.mem_of_getElem? (i := 133) rfl)) rfl
theorem wnX4_dentedAtLeast : Cond.instanceMethod yX4_dentedAtLeast ∈ gG := gG_in (tin3 (List.mem_of_getElem? (i := 131) rfl)) rfl
theorem wsX4_dentedAtLeast : Cond.selects RX4 yX4_dentedAtLeast yX4_dentedAtLeast ∈ gG := gG_in (tin3 (List.mem_of_getElem? (i := 132) rfl)) rfl
theorem wlX4_89 : Cond.constantLong RX4 89 31 ∈ gG := gG_in (tin4 (List.mem_of_getElem? (i := 35) rfl)) rfl
theorem wcX4_digestFrom : Cond.code yX4_digestFrom cX4_digestFrom 7 (some .long) ∈ gG := gG_in (tin4 (List.mem_of_getElem? (i := 34) rfl)) rfl
theorem wnX4_digestFrom : Cond.instanceMethod yX4_digestFrom ∈ gG := gG_in (tin4 (List.mem_of_getElem? (i := 32) rfl)) rfl
theorem wsX4_digestFrom : Cond.selects RX4 yX4_digestFrom yX4_digestFrom ∈ gG := gG_in (tin4 (List.mem_of_getElem? (i := 33) rfl)) rfl
theorem wfX7_25 : Cond.fieldLink RX7 25 (TX7 4).1 (TX7 4).2.1 (TX7 4).2.2.1 ∈ gG := gG_in (tin1 (List.mem_of_getElem? (i := 195) rfl)) rfl
theorem wcX7_fault : Cond.code yX7_fault cX7_fault 1 (some .int) ∈ gG := gG_in (tin3 (List.mem_of_getElem? (i := 53) rfl)) rfl
theorem wiX7 : Cond.initialized RX7 ∈ gG := gG_in (tin1 (List.mem_of_getElem? (i := 12) rfl)) rfl
theorem wnX7_fault : Cond.instanceMethod yX7_fault ∈ gG := gG_in (tin3 (List.mem_of_getElem? (i := 51) rfl)) rfl
theorem wsX7_fault : Cond.selects RX7 yX7_fault yX7_fault ∈ gG := gG_in (tin3 (List.mem_of_getElem? (i := 52) rfl)) rfl
theorem wfX7_15 : Cond.fieldLink RX7 15 (TX7 1).1 (TX7 1).2.1 (TX7 1).2.2.1 ∈ gG := gG_in (tin1 (List.mem_of_getElem? (i := 191) rfl)) rfl
theorem wfX7_9 : Cond.fieldLink RX7 9 (TX7 0).1 (TX7 0).2.1 (TX7 0).2.2.1 ∈ gG := gG_in (tin1 (List.mem_of_getElem? (i := 189) rfl)) rfl
theorem wcX7_isWithin : Cond.code yX7_isWithin cX7_isWithin 4 (some .boolean) ∈ gG := gG_in (tin2 (List.mem_of_getElem? (i := 192) rfl)) rfl
theorem wnX7_isWithin : Cond.instanceMethod yX7_isWithin ∈ gG := gG_in (tin2 (List.mem_of_getElem? (i := 191) rfl)) rfl
theorem wsX7_isWithin : Cond.selects RX7 yX7_isWithin yX7_isWithin ∈ gG := gG_in (tinp (List.mem_of_getElem? (i := 6) rfl)) rfl
theorem wfX7_22 : Cond.fieldLink RX7 22 (TX7 3).1 (TX7 3).2.1 (TX7 3).2.2.1 ∈ gG := gG_in (tin1 (List.mem_of_getElem? (i := 194) rfl)) rfl
theorem wfX7_19 : Cond.fieldLink RX7 19 (TX7 2).1 (TX7 2).2.1 (TX7 2).2.2.1 ∈ gG := gG_in (tin1 (List.mem_of_getElem? (i := 193) rfl)) rfl
theorem wmX7_111 : Cond.methodLink RX7 111 yX7_isWithin ∈ gG := gG_in (tin2 (List.mem_of_getElem? (i := 189) rfl)) rfl
theorem wcX7_passWord : Cond.code yX7_passWord cX7_passWord 1 none ∈ gG := gG_in (tin2 (List.mem_of_getElem? (i := 196) rfl)) rfl
theorem wnX7_passWord : Cond.instanceMethod yX7_passWord ∈ gG := gG_in (tin2 (List.mem_of_getElem? (i := 195) rfl)) rfl
theorem wsX7_passWord : Cond.selects RX7 yX7_passWord yX7_passWord ∈ gG := gG_in (tinp (List.mem_of_getElem? (i := 7) rfl)) rfl
theorem wfX7_28 : Cond.fieldLink RX7 28 (TX7 5).1 (TX7 5).2.1 (TX7 5).2.2.1 ∈ gG := gG_in (tin1 (List.mem_of_getElem? (i := 196) rfl)) rfl
theorem wcX7_passFigures : Cond.code yX7_passFigures cX7_passFigures 1 none ∈ gG := gG_in (tin2 (List.mem_of_getElem? (i := 200) rfl)) rfl
theorem wnX7_passFigures : Cond.instanceMethod yX7_passFigures ∈ gG := gG_in (tin2 (List.mem_of_getElem? (i := 199) rfl)) rfl
theorem wsX7_passFigures : Cond.selects RX7 yX7_passFigures yX7_passFigures ∈ gG := gG_in (tinp (List.mem_of_getElem? (i := 8) rfl)) rfl
theorem wmX7_118 : Cond.methodLink RX7 118 yX7_passFigures ∈ gG := gG_in (tin2 (List.mem_of_getElem? (i := 197) rfl)) rfl
theorem wmX7_115 : Cond.methodLink RX7 115 yX7_passWord ∈ gG := gG_in (tin2 (List.mem_of_getElem? (i := 193) rfl)) rfl
theorem wcX7_step : Cond.code yX7_step cX7_step 1 none ∈ gG := gG_in (tin2 (List.mem_of_getElem? (i := 188) rfl)) rfl
theorem wnX7_step : Cond.instanceMethod yX7_step ∈ gG := gG_in (tin2 (List.mem_of_getElem? (i := 187) rfl)) rfl
theorem wsX7_step : Cond.selects RX7 yX7_step yX7_step ∈ gG := gG_in (tinp (List.mem_of_getElem? (i := 5) rfl)) rfl
theorem wmX7_103 : Cond.methodLink RX7 103 yJ0_length_8abf5 ∈ gG := gG_in (tin2 (List.mem_of_getElem? (i := 210) rfl)) rfl
theorem wmX7_107 : Cond.methodLink RX7 107 yJ0_charAt_5068e ∈ gG := gG_in (tin2 (List.mem_of_getElem? (i := 220) rfl)) rfl
theorem wcX7_isWord : Cond.code yX7_isWord cX7_isWord 3 (some .boolean) ∈ gG := gG_in (tin2 (List.mem_of_getElem? (i := 209) rfl)) rfl
theorem wnX7_isWord : Cond.instanceMethod yX7_isWord ∈ gG := gG_in (tin2 (List.mem_of_getElem? (i := 208) rfl)) rfl
theorem wsX7_isWord : Cond.selects RX7 yX7_isWord yX7_isWord ∈ gG := gG_in (tinp (List.mem_of_getElem? (i := 10) rfl)) rfl
theorem wcX7_isNumber : Cond.code yX7_isNumber cX7_isNumber 3 (some .boolean) ∈ gG := gG_in (tin3 (List.mem_of_getElem? (i := 21) rfl)) rfl
theorem wnX7_isNumber : Cond.instanceMethod yX7_isNumber ∈ gG := gG_in (tin3 (List.mem_of_getElem? (i := 20) rfl)) rfl
theorem wsX7_isNumber : Cond.selects RX7 yX7_isNumber yX7_isNumber ∈ gG := gG_in (tinp (List.mem_of_getElem? (i := 11) rfl)) rfl
theorem wmX7_37 : Cond.methodLink RX7 37 yX7_step ∈ gG := gG_in (tin2 (List.mem_of_getElem? (i := 185) rfl)) rfl
theorem wcX7_passStop : Cond.code yX7_passStop cX7_passStop 1 (some .boolean) ∈ gG := gG_in (tin3 (List.mem_of_getElem? (i := 26) rfl)) rfl
theorem wnX7_passStop : Cond.instanceMethod yX7_passStop ∈ gG := gG_in (tin3 (List.mem_of_getElem? (i := 25) rfl)) rfl
theorem wsX7_passStop : Cond.selects RX7 yX7_passStop yX7_passStop ∈ gG := gG_in (tinp (List.mem_of_getElem? (i := 12) rfl)) rfl
theorem wmX7_50 : Cond.methodLink RX7 50 yX7_isWord ∈ gG := gG_in (tin2 (List.mem_of_getElem? (i := 206) rfl)) rfl
theorem wmX7_54 : Cond.methodLink RX7 54 yX7_isNumber ∈ gG := gG_in (tin3 (List.mem_of_getElem? (i := 18) rfl)) rfl
theorem wmX7_58 : Cond.methodLink RX7 58 yX4_beginAnew ∈ gG := gG_in (tin3 (List.mem_of_getElem? (i := 22) rfl)) rfl
theorem wmX7_64 : Cond.methodLink RX7 64 yX7_passStop ∈ gG := gG_in (tin3 (List.mem_of_getElem? (i := 23) rfl)) rfl
theorem wcX7_readFirst : Cond.code yX7_readFirst cX7_readFirst 2 (some .boolean) ∈ gG := gG_in (tin2 (List.mem_of_getElem? (i := 204) rfl)) rfl
theorem wnX7_readFirst : Cond.instanceMethod yX7_readFirst ∈ gG := gG_in (tin2 (List.mem_of_getElem? (i := 203) rfl)) rfl
theorem wsX7_readFirst : Cond.selects RX7 yX7_readFirst yX7_readFirst ∈ gG := gG_in (tinp (List.mem_of_getElem? (i := 9) rfl)) rfl
theorem wfX7_97 : Cond.fieldLinkNest RX7 97 (TX4 3).1 (TX4 3).2.1 (TX4 3).2.2.1 "PressedPad" ∈ nW := nW_in (tin1 (List.mem_of_getElem? (i := 94) rfl)) rfl
theorem wfX7_100 : Cond.fieldLinkNest RX7 100 (TX4 4).1 (TX4 4).2.1 (TX4 4).2.2.1 "PressedPad" ∈ nW := nW_in (tin1 (List.mem_of_getElem? (i := 97) rfl)) rfl
theorem wcX7_readCarbon : Cond.code yX7_readCarbon cX7_readCarbon 2 (some .boolean) ∈ gG := gG_in (tin3 (List.mem_of_getElem? (i := 35) rfl)) rfl
theorem wnX7_readCarbon : Cond.instanceMethod yX7_readCarbon ∈ gG := gG_in (tin3 (List.mem_of_getElem? (i := 34) rfl)) rfl
theorem wsX7_readCarbon : Cond.selects RX7 yX7_readCarbon yX7_readCarbon ∈ gG := gG_in (tinp (List.mem_of_getElem? (i := 14) rfl)) rfl
theorem wfX7_31 : Cond.fieldLink RX7 31 (TX7 6).1 (TX7 6).2.1 (TX7 6).2.2.1 ∈ gG := gG_in (tin1 (List.mem_of_getElem? (i := 197) rfl)) rfl
theorem wfX7_34 : Cond.fieldLink RX7 34 (TX7 7).1 (TX7 7).2.1 (TX7 7).2.2.1 ∈ gG := gG_in (tin1 (List.mem_of_getElem? (i := 198) rfl)) rfl
theorem wcX7_readPen : Cond.code yX7_readPen cX7_readPen 1 (some .boolean) ∈ gG := gG_in (tin3 (List.mem_of_getElem? (i := 44) rfl)) rfl
theorem wnX7_readPen : Cond.instanceMethod yX7_readPen ∈ gG := gG_in (tin3 (List.mem_of_getElem? (i := 43) rfl)) rfl
theorem wsX7_readPen : Cond.selects RX7 yX7_readPen yX7_readPen ∈ gG := gG_in (tinp (List.mem_of_getElem? (i := 15) rfl)) rfl
theorem wcX7_readCells : Cond.code yX7_readCells cX7_readCells 4 (some .int) ∈ gG := gG_in (tin3 (List.mem_of_getElem? (i := 48) rfl)) rfl
theorem wnX7_readCells : Cond.instanceMethod yX7_readCells ∈ gG := gG_in (tin3 (List.mem_of_getElem? (i := 47) rfl)) rfl
theorem wsX7_readCells : Cond.selects RX7 yX7_readCells yX7_readCells ∈ gG := gG_in (tinp (List.mem_of_getElem? (i := 16) rfl)) rfl
theorem wmX7_81 : Cond.methodLink RX7 81 yX4_isUsedUp ∈ gG := gG_in (tin3 (List.mem_of_getElem? (i := 39) rfl)) rfl
theorem wmX7_87 : Cond.methodLink RX7 87 yX7_readPen ∈ gG := gG_in (tin3 (List.mem_of_getElem? (i := 41) rfl)) rfl
theorem wmX7_90 : Cond.methodLink RX7 90 yX7_readCells ∈ gG := gG_in (tin3 (List.mem_of_getElem? (i := 45) rfl)) rfl
theorem wmX7_93 : Cond.methodLink RX7 93 yX4_putNote ∈ gG := gG_in (tin3 (List.mem_of_getElem? (i := 49) rfl)) rfl
theorem wmX7_84 : Cond.methodLink RX7 84 yX4_tearTop ∈ gG := gG_in (tin3 (List.mem_of_getElem? (i := 40) rfl)) rfl
theorem wmX7_77 : Cond.methodLink RX7 77 yX4_noteCount ∈ gG := gG_in (tin3 (List.mem_of_getElem? (i := 38) rfl)) rfl
theorem wmX7_70 : Cond.methodLink RX7 70 yX7_readCarbon ∈ gG := gG_in (tin3 (List.mem_of_getElem? (i := 32) rfl)) rfl
theorem wcX7_readItem : Cond.code yX7_readItem cX7_readItem 6 (some .boolean) ∈ gG := gG_in (tin3 (List.mem_of_getElem? (i := 30) rfl)) rfl
theorem wnX7_readItem : Cond.instanceMethod yX7_readItem ∈ gG := gG_in (tin3 (List.mem_of_getElem? (i := 29) rfl)) rfl
theorem wsX7_readItem : Cond.selects RX7 yX7_readItem yX7_readItem ∈ gG := gG_in (tinp (List.mem_of_getElem? (i := 13) rfl)) rfl
theorem wmX7_40 : Cond.methodLink RX7 40 yX7_readFirst ∈ gG := gG_in (tin2 (List.mem_of_getElem? (i := 201) rfl)) rfl
theorem wmX7_44 : Cond.methodLink RX7 44 yX7_readItem ∈ gG := gG_in (tin3 (List.mem_of_getElem? (i := 27) rfl)) rfl
theorem wcX7_readInto : Cond.code yX7_readInto cX7_readInto 5 (some .int) ∈ gG := gG_in (tin2 (List.mem_of_getElem? (i := 184) rfl)) rfl
theorem wnX7_readInto : Cond.instanceMethod yX7_readInto ∈ gG := gG_in (tin2 (List.mem_of_getElem? (i := 182) rfl)) rfl
theorem wsX7_readInto : Cond.selects RX7 yX7_readInto yX7_readInto ∈ gG := gG_in (tin2 (List.mem_of_getElem? (i := 183) rfl)) rfl
theorem wfX8_9 : Cond.fieldLink RX8 9 (TX8 0).1 (TX8 0).2.1 (TX8 0).2.2.1 ∈ gG := gG_in (tin1 (List.mem_of_getElem? (i := 167) rfl)) rfl
theorem wcX8_sheetAt : Cond.code yX8_sheetAt cX8_sheetAt 2 (some .int) ∈ gG := gG_in (tin3 (List.mem_of_getElem? (i := 195) rfl)) rfl
theorem wiX8 : Cond.initialized RX8 ∈ gG := gG_in (tin1 (List.mem_of_getElem? (i := 11) rfl)) rfl
theorem wnX8_sheetAt : Cond.instanceMethod yX8_sheetAt ∈ gG := gG_in (tin3 (List.mem_of_getElem? (i := 193) rfl)) rfl
theorem wsX8_sheetAt : Cond.selects RX8 yX8_sheetAt yX8_sheetAt ∈ gG := gG_in (tin3 (List.mem_of_getElem? (i := 194) rfl)) rfl
theorem wfX8_21 : Cond.fieldLink RX8 21 (TX8 3).1 (TX8 3).2.1 (TX8 3).2.2.1 ∈ gG := gG_in (tin1 (List.mem_of_getElem? (i := 170) rfl)) rfl
theorem wmX8_45 : Cond.methodLink RX8 45 yX4_noteCount ∈ gG := gG_in (tin3 (List.mem_of_getElem? (i := 190) rfl)) rfl
theorem wfX8_49 : Cond.fieldLinkNest RX8 49 (TX4 8).1 (TX4 8).2.1 (TX4 8).2.2.1 "PressedPad" ∈ nW := nW_in (tin1 (List.mem_of_getElem? (i := 107) rfl)) rfl
theorem wfX8_15 : Cond.fieldLink RX8 15 (TX8 1).1 (TX8 1).2.1 (TX8 1).2.2.1 ∈ gG := gG_in (tin1 (List.mem_of_getElem? (i := 168) rfl)) rfl
theorem wmX8_52 : Cond.methodLink RX8 52 yX4_forceDown ∈ gG := gG_in (tin3 (List.mem_of_getElem? (i := 191) rfl)) rfl
theorem wfX8_55 : Cond.fieldLinkNest RX8 55 (TX4 7).1 (TX4 7).2.1 (TX4 7).2.2.1 "PressedPad" ∈ nW := nW_in (tin1 (List.mem_of_getElem? (i := 104) rfl)) rfl
theorem wfX8_18 : Cond.fieldLink RX8 18 (TX8 2).1 (TX8 2).2.1 (TX8 2).2.2.1 ∈ gG := gG_in (tin1 (List.mem_of_getElem? (i := 169) rfl)) rfl
theorem wcX8_mayLie : Cond.code yX8_mayLie cX8_mayLie 7 (some .boolean) ∈ gG := gG_in (tin3 (List.mem_of_getElem? (i := 189) rfl)) rfl
theorem wnX8_mayLie : Cond.instanceMethod yX8_mayLie ∈ gG := gG_in (tin3 (List.mem_of_getElem? (i := 188) rfl)) rfl
theorem wsX8_mayLie : Cond.selects RX8 yX8_mayLie yX8_mayLie ∈ gG := gG_in (tinp (List.mem_of_getElem? (i := 19) rfl)) rfl
theorem wfX8_28 : Cond.fieldLinkNest RX8 28 (TX4 3).1 (TX4 3).2.1 (TX4 3).2.2.1 "PressedPad" ∈ nW := nW_in (tin1 (List.mem_of_getElem? (i := 93) rfl)) rfl
theorem wfX8_24 : Cond.fieldLink RX8 24 (TX8 4).1 (TX8 4).2.1 (TX8 4).2.2.1 ∈ gG := gG_in (tin1 (List.mem_of_getElem? (i := 171) rfl)) rfl
theorem wmX8_41 : Cond.methodLink RX8 41 yX8_mayLie ∈ gG := gG_in (tin3 (List.mem_of_getElem? (i := 186) rfl)) rfl
theorem wmX8_37 : Cond.methodLink RX8 37 yX8_layFrom ∈ gG := gG_in (tin3 (List.mem_of_getElem? (i := 182) rfl)) rfl
theorem wcX8_layFrom : Cond.code yX8_layFrom cX8_layFrom 6 none ∈ gG := gG_in (tin3 (List.mem_of_getElem? (i := 185) rfl)) rfl
theorem wnX8_layFrom : Cond.instanceMethod yX8_layFrom ∈ gG := gG_in (tin3 (List.mem_of_getElem? (i := 184) rfl)) rfl
theorem wsX8_layFrom : Cond.selects RX8 yX8_layFrom yX8_layFrom ∈ gG := gG_in (tinp (List.mem_of_getElem? (i := 18) rfl)) rfl
theorem wmX8_33 : Cond.methodLink RX8 33 yX4_dentedAtLeast ∈ gG := gG_in (tin3 (List.mem_of_getElem? (i := 181) rfl)) rfl
theorem wcX8_search : Cond.code yX8_search cX8_search 5 (some .int) ∈ gG := gG_in (tin3 (List.mem_of_getElem? (i := 180) rfl)) rfl
theorem wnX8_search : Cond.instanceMethod yX8_search ∈ gG := gG_in (tin3 (List.mem_of_getElem? (i := 178) rfl)) rfl
theorem wsX8_search : Cond.selects RX8 yX8_search yX8_search ∈ gG := gG_in (tin3 (List.mem_of_getElem? (i := 179) rfl)) rfl
theorem wfX11_68 : Cond.fieldLink RX11 68 (TX11 12).1 (TX11 12).2.1 (TX11 12).2.2.1 ∈ gG := gG_in (tin1 (List.mem_of_getElem? (i := 228) rfl)) rfl
theorem wcX11_bad : Cond.code yX11_bad cX11_bad 2 (some .int) ∈ gG := gG_in (tin2 (List.mem_of_getElem? (i := 29) rfl)) rfl
theorem wnX11_bad : Cond.instanceMethod yX11_bad ∈ gG := gG_in (tin2 (List.mem_of_getElem? (i := 28) rfl)) rfl
theorem wsX11_bad : Cond.selects RX11 yX11_bad yX11_bad ∈ gG := gG_in (tinp (List.mem_of_getElem? (i := 0) rfl)) rfl
theorem wmX11_77 : Cond.methodLink RX11 77 yX11_bad ∈ gG := gG_in (tin2 (List.mem_of_getElem? (i := 26) rfl)) rfl
theorem wfX11_19 : Cond.fieldLink RX11 19 (TX11 1).1 (TX11 1).2.1 (TX11 1).2.2.1 ∈ gG := gG_in (tin1 (List.mem_of_getElem? (i := 217) rfl)) rfl
theorem wfX11_81 : Cond.fieldLinkNest RX11 81 (TX4 3).1 (TX4 3).2.1 (TX4 3).2.2.1 "PressedPad" ∈ nW := nW_in (tin1 (List.mem_of_getElem? (i := 92) rfl)) rfl
theorem wmX11_84 : Cond.methodLink RX11 84 yX4_beginAnew ∈ gG := gG_in (tin2 (List.mem_of_getElem? (i := 30) rfl)) rfl
theorem wcX11_pad : Cond.code yX11_pad cX11_pad 3 (some .int) ∈ gG := gG_in (tin2 (List.mem_of_getElem? (i := 25) rfl)) rfl
theorem wnX11_pad : Cond.instanceMethod yX11_pad ∈ gG := gG_in (tin2 (List.mem_of_getElem? (i := 23) rfl)) rfl
theorem wsX11_pad : Cond.selects RX11 yX11_pad yX11_pad ∈ gG := gG_in (tin2 (List.mem_of_getElem? (i := 24) rfl)) rfl
theorem wmX11_88 : Cond.methodLink RX11 88 yX4_hasSheets ∈ gG := gG_in (tin2 (List.mem_of_getElem? (i := 38) rfl)) rfl
theorem wfX11_92 : Cond.fieldLinkNest RX11 92 (TX4 4).1 (TX4 4).2.1 (TX4 4).2.2.1 "PressedPad" ∈ nW := nW_in (tin1 (List.mem_of_getElem? (i := 96) rfl)) rfl
theorem wcX11_carbons : Cond.code yX11_carbons cX11_carbons 3 (some .int) ∈ gG := gG_in (tin2 (List.mem_of_getElem? (i := 37) rfl)) rfl
theorem wnX11_carbons : Cond.instanceMethod yX11_carbons ∈ gG := gG_in (tin2 (List.mem_of_getElem? (i := 35) rfl)) rfl
theorem wsX11_carbons : Cond.selects RX11 yX11_carbons yX11_carbons ∈ gG := gG_in (tin2 (List.mem_of_getElem? (i := 36) rfl)) rfl
theorem wcX11_isPen : Cond.code yX11_isPen cX11_isPen 2 (some .boolean) ∈ gG := gG_in (tin2 (List.mem_of_getElem? (i := 48) rfl)) rfl
theorem wtX11_isPen : Cond.static yX11_isPen ∈ gG := gG_in (tin2 (List.mem_of_getElem? (i := 47) rfl)) rfl
theorem wcX11_isCells : Cond.code yX11_isCells cX11_isCells 1 (some .boolean) ∈ gG := gG_in (tin2 (List.mem_of_getElem? (i := 51) rfl)) rfl
theorem wtX11_isCells : Cond.static yX11_isCells ∈ gG := gG_in (tin2 (List.mem_of_getElem? (i := 50) rfl)) rfl
theorem wfX11_71 : Cond.fieldLink RX11 71 (TX11 13).1 (TX11 13).2.1 (TX11 13).2.2.1 ∈ gG := gG_in (tin1 (List.mem_of_getElem? (i := 229) rfl)) rfl
theorem wcX11_no : Cond.code yX11_no cX11_no 1 (some .int) ∈ gG := gG_in (tin2 (List.mem_of_getElem? (i := 59) rfl)) rfl
theorem wnX11_no : Cond.instanceMethod yX11_no ∈ gG := gG_in (tin2 (List.mem_of_getElem? (i := 58) rfl)) rfl
theorem wsX11_no : Cond.selects RX11 yX11_no yX11_no ∈ gG := gG_in (tinp (List.mem_of_getElem? (i := 1) rfl)) rfl
theorem wfX11_74 : Cond.fieldLink RX11 74 (TX11 14).1 (TX11 14).2.1 (TX11 14).2.2.1 ∈ gG := gG_in (tin1 (List.mem_of_getElem? (i := 230) rfl)) rfl
theorem wcX11_full : Cond.code yX11_full cX11_full 1 (some .int) ∈ gG := gG_in (tin2 (List.mem_of_getElem? (i := 67) rfl)) rfl
theorem wnX11_full : Cond.instanceMethod yX11_full ∈ gG := gG_in (tin2 (List.mem_of_getElem? (i := 66) rfl)) rfl
theorem wsX11_full : Cond.selects RX11 yX11_full yX11_full ∈ gG := gG_in (tinp (List.mem_of_getElem? (i := 2) rfl)) rfl
theorem wmX11_95 : Cond.methodLink RX11 95 yX11_isPen ∈ gG := gG_in (tin2 (List.mem_of_getElem? (i := 46) rfl)) rfl
theorem wmX11_99 : Cond.methodLink RX11 99 yX11_isCells ∈ gG := gG_in (tin2 (List.mem_of_getElem? (i := 49) rfl)) rfl
theorem wmX11_102 : Cond.methodLink RX11 102 yX4_isUsedUp ∈ gG := gG_in (tin2 (List.mem_of_getElem? (i := 52) rfl)) rfl
theorem wmX11_110 : Cond.methodLink RX11 110 yX4_noteCount ∈ gG := gG_in (tin2 (List.mem_of_getElem? (i := 60) rfl)) rfl
theorem wmX11_116 : Cond.methodLink RX11 116 yX4_keepForUndo ∈ gG := gG_in (tin2 (List.mem_of_getElem? (i := 68) rfl)) rfl
theorem wfX11_12 : Cond.fieldLink RX11 12 (TX11 0).1 (TX11 0).2.1 (TX11 0).2.2.1 ∈ gG := gG_in (tin1 (List.mem_of_getElem? (i := 216) rfl)) rfl
theorem wmX11_119 : Cond.methodLink RX11 119 yX4_putNote ∈ gG := gG_in (tin2 (List.mem_of_getElem? (i := 75) rfl)) rfl
theorem wmX11_113 : Cond.methodLink RX11 113 yX11_full ∈ gG := gG_in (tin2 (List.mem_of_getElem? (i := 64) rfl)) rfl
theorem wmX11_106 : Cond.methodLink RX11 106 yX11_no ∈ gG := gG_in (tin2 (List.mem_of_getElem? (i := 56) rfl)) rfl
theorem wcX11_write : Cond.code yX11_write cX11_write 4 (some .int) ∈ gG := gG_in (tin2 (List.mem_of_getElem? (i := 45) rfl)) rfl
theorem wnX11_write : Cond.instanceMethod yX11_write ∈ gG := gG_in (tin2 (List.mem_of_getElem? (i := 43) rfl)) rfl
theorem wsX11_write : Cond.selects RX11 yX11_write yX11_write ∈ gG := gG_in (tin2 (List.mem_of_getElem? (i := 44) rfl)) rfl
theorem wmX11_123 : Cond.methodLink RX11 123 yX4_tearTop ∈ gG := gG_in (tin2 (List.mem_of_getElem? (i := 149) rfl)) rfl
theorem wcX11_tear : Cond.code yX11_tear cX11_tear 1 (some .int) ∈ gG := gG_in (tin2 (List.mem_of_getElem? (i := 148) rfl)) rfl
theorem wnX11_tear : Cond.instanceMethod yX11_tear ∈ gG := gG_in (tin2 (List.mem_of_getElem? (i := 146) rfl)) rfl
theorem wsX11_tear : Cond.selects RX11 yX11_tear yX11_tear ∈ gG := gG_in (tin2 (List.mem_of_getElem? (i := 147) rfl)) rfl
theorem wfX11_126 : Cond.fieldLinkNest RX11 126 (TX4 2).1 (TX4 2).2.1 (TX4 2).2.2.1 "PressedPad" ∈ nW := nW_in (tin1 (List.mem_of_getElem? (i := 90) rfl)) rfl
theorem wmX11_129 : Cond.methodLink RX11 129 yX4_goBack ∈ gG := gG_in (tin2 (List.mem_of_getElem? (i := 157) rfl)) rfl
theorem wcX11_undo : Cond.code yX11_undo cX11_undo 1 (some .int) ∈ gG := gG_in (tin2 (List.mem_of_getElem? (i := 156) rfl)) rfl
theorem wnX11_undo : Cond.instanceMethod yX11_undo ∈ gG := gG_in (tin2 (List.mem_of_getElem? (i := 154) rfl)) rfl
theorem wsX11_undo : Cond.selects RX11 yX11_undo yX11_undo ∈ gG := gG_in (tin2 (List.mem_of_getElem? (i := 155) rfl)) rfl
theorem wfX11_132 : Cond.fieldLinkNest RX11 132 (TX4 11).1 (TX4 11).2.1 (TX4 11).2.2.1 "PressedPad" ∈ nW := nW_in (tin1 (List.mem_of_getElem? (i := 113) rfl)) rfl
theorem wfX11_135 : Cond.fieldLinkNest RX11 135 (TX4 10).1 (TX4 10).2.1 (TX4 10).2.2.1 "PressedPad" ∈ nW := nW_in (tin1 (List.mem_of_getElem? (i := 111) rfl)) rfl
theorem wcX11_word : Cond.code yX11_word cX11_word 2 (some .int) ∈ gG := gG_in (tin2 (List.mem_of_getElem? (i := 164) rfl)) rfl
theorem wnX11_word : Cond.instanceMethod yX11_word ∈ gG := gG_in (tin2 (List.mem_of_getElem? (i := 162) rfl)) rfl
theorem wsX11_word : Cond.selects RX11 yX11_word yX11_word ∈ gG := gG_in (tin2 (List.mem_of_getElem? (i := 163) rfl)) rfl
theorem wcX11_forget : Cond.code yX11_forget cX11_forget 2 (some .int) ∈ gG := gG_in (tin2 (List.mem_of_getElem? (i := 168) rfl)) rfl
theorem wnX11_forget : Cond.instanceMethod yX11_forget ∈ gG := gG_in (tin2 (List.mem_of_getElem? (i := 166) rfl)) rfl
theorem wsX11_forget : Cond.selects RX11 yX11_forget yX11_forget ∈ gG := gG_in (tin2 (List.mem_of_getElem? (i := 167) rfl)) rfl
theorem wfX11_49 : Cond.fieldLink RX11 49 (TX11 7).1 (TX11 7).2.1 (TX11 7).2.2.1 ∈ gG := gG_in (tin1 (List.mem_of_getElem? (i := 223) rfl)) rfl
theorem wfX11_138 : Cond.fieldLinkNest RX11 138 (TX7 1).1 (TX7 1).2.1 (TX7 1).2.2.1 "PressedPad" ∈ nW := nW_in (tin1 (List.mem_of_getElem? (i := 192) rfl)) rfl
theorem wfX11_141 : Cond.fieldLinkNest RX11 141 (TX7 0).1 (TX7 0).2.1 (TX7 0).2.2.1 "PressedPad" ∈ nW := nW_in (tin1 (List.mem_of_getElem? (i := 190) rfl)) rfl
theorem wcX11_type : Cond.code yX11_type cX11_type 2 (some .int) ∈ gG := gG_in (tin2 (List.mem_of_getElem? (i := 172) rfl)) rfl
theorem wnX11_type : Cond.instanceMethod yX11_type ∈ gG := gG_in (tin2 (List.mem_of_getElem? (i := 170) rfl)) rfl
theorem wsX11_type : Cond.selects RX11 yX11_type yX11_type ∈ gG := gG_in (tin2 (List.mem_of_getElem? (i := 171) rfl)) rfl
theorem wcX11_clear : Cond.code yX11_clear cX11_clear 2 (some .int) ∈ gG := gG_in (tin2 (List.mem_of_getElem? (i := 176) rfl)) rfl
theorem wnX11_clear : Cond.instanceMethod yX11_clear ∈ gG := gG_in (tin2 (List.mem_of_getElem? (i := 174) rfl)) rfl
theorem wsX11_clear : Cond.selects RX11 yX11_clear yX11_clear ∈ gG := gG_in (tin2 (List.mem_of_getElem? (i := 175) rfl)) rfl
theorem wfX11_23 : Cond.fieldLink RX11 23 (TX11 2).1 (TX11 2).2.1 (TX11 2).2.2.1 ∈ gG := gG_in (tin1 (List.mem_of_getElem? (i := 218) rfl)) rfl
theorem wmX11_144 : Cond.methodLink RX11 144 yX7_readInto ∈ gG := gG_in (tin2 (List.mem_of_getElem? (i := 181) rfl)) rfl
theorem wmX11_151 : Cond.methodLink RX11 151 yX4_copyFrom ∈ gG := gG_in (tin3 (List.mem_of_getElem? (i := 54) rfl)) rfl
theorem wmX11_148 : Cond.methodLink RX11 148 yX7_fault ∈ gG := gG_in (tin3 (List.mem_of_getElem? (i := 50) rfl)) rfl
theorem wcX11_read : Cond.code yX11_read cX11_read 2 (some .int) ∈ gG := gG_in (tin2 (List.mem_of_getElem? (i := 180) rfl)) rfl
theorem wnX11_read : Cond.instanceMethod yX11_read ∈ gG := gG_in (tin2 (List.mem_of_getElem? (i := 178) rfl)) rfl
theorem wsX11_read : Cond.selects RX11 yX11_read yX11_read ∈ gG := gG_in (tin2 (List.mem_of_getElem? (i := 179) rfl)) rfl
theorem wmX11_155 : Cond.methodLink RX11 155 yX4_hasSheet ∈ gG := gG_in (tin3 (List.mem_of_getElem? (i := 63) rfl)) rfl
theorem wmX11_158 : Cond.methodLink RX11 158 yX4_inkOf ∈ gG := gG_in (tin3 (List.mem_of_getElem? (i := 67) rfl)) rfl
theorem wmX11_161 : Cond.methodLink RX11 161 yX4_copyOf ∈ gG := gG_in (tin3 (List.mem_of_getElem? (i := 71) rfl)) rfl
theorem wmX11_164 : Cond.methodLink RX11 164 yX4_top ∈ gG := gG_in (tin3 (List.mem_of_getElem? (i := 75) rfl)) rfl
theorem wmX11_167 : Cond.methodLink RX11 167 yX4_writtenOn ∈ gG := gG_in (tin3 (List.mem_of_getElem? (i := 79) rfl)) rfl
theorem wcX11_of : Cond.code yX11_of cX11_of 3 (some .int) ∈ gG := gG_in (tin3 (List.mem_of_getElem? (i := 62) rfl)) rfl
theorem wnX11_of : Cond.instanceMethod yX11_of ∈ gG := gG_in (tin3 (List.mem_of_getElem? (i := 60) rfl)) rfl
theorem wsX11_of : Cond.selects RX11 yX11_of yX11_of ∈ gG := gG_in (tin3 (List.mem_of_getElem? (i := 61) rfl)) rfl
theorem wmX11_170 : Cond.methodLink RX11 170 yX4_dentOf ∈ gG := gG_in (tin3 (List.mem_of_getElem? (i := 87) rfl)) rfl
theorem wcX11_dent : Cond.code yX11_dent cX11_dent 3 (some .int) ∈ gG := gG_in (tin3 (List.mem_of_getElem? (i := 86) rfl)) rfl
theorem wnX11_dent : Cond.instanceMethod yX11_dent ∈ gG := gG_in (tin3 (List.mem_of_getElem? (i := 84) rfl)) rfl
theorem wsX11_dent : Cond.selects RX11 yX11_dent yX11_dent ∈ gG := gG_in (tin3 (List.mem_of_getElem? (i := 85) rfl)) rfl
theorem wmX11_174 : Cond.methodLink RX11 174 yX4_hasNote ∈ gG := gG_in (tin3 (List.mem_of_getElem? (i := 95) rfl)) rfl
theorem wfX11_177 : Cond.fieldLinkNest RX11 177 (TX4 5).1 (TX4 5).2.1 (TX4 5).2.2.1 "PressedPad" ∈ nW := nW_in (tin1 (List.mem_of_getElem? (i := 99) rfl)) rfl
theorem wfX11_180 : Cond.fieldLinkNest RX11 180 (TX4 6).1 (TX4 6).2.1 (TX4 6).2.2.1 "PressedPad" ∈ nW := nW_in (tin1 (List.mem_of_getElem? (i := 101) rfl)) rfl
theorem wfX11_183 : Cond.fieldLinkNest RX11 183 (TX4 7).1 (TX4 7).2.1 (TX4 7).2.2.1 "PressedPad" ∈ nW := nW_in (tin1 (List.mem_of_getElem? (i := 105) rfl)) rfl
theorem wfX11_186 : Cond.fieldLinkNest RX11 186 (TX4 8).1 (TX4 8).2.1 (TX4 8).2.2.1 "PressedPad" ∈ nW := nW_in (tin1 (List.mem_of_getElem? (i := 108) rfl)) rfl
theorem wmX11_189 : Cond.methodLink RX11 189 yX4_forceOn ∈ gG := gG_in (tin3 (List.mem_of_getElem? (i := 99) rfl)) rfl
theorem wmX11_192 : Cond.methodLink RX11 192 yX5_hasInk ∈ gG := gG_in (tin3 (List.mem_of_getElem? (i := 100) rfl)) rfl
theorem wcX11_about : Cond.code yX11_about cX11_about 3 (some .int) ∈ gG := gG_in (tin3 (List.mem_of_getElem? (i := 94) rfl)) rfl
theorem wnX11_about : Cond.instanceMethod yX11_about ∈ gG := gG_in (tin3 (List.mem_of_getElem? (i := 92) rfl)) rfl
theorem wsX11_about : Cond.selects RX11 yX11_about yX11_about ∈ gG := gG_in (tin3 (List.mem_of_getElem? (i := 93) rfl)) rfl
theorem wcX11_isDepth : Cond.code yX11_isDepth cX11_isDepth 1 (some .boolean) ∈ gG := gG_in (tin3 (List.mem_of_getElem? (i := 107) rfl)) rfl
theorem wtX11_isDepth : Cond.static yX11_isDepth ∈ gG := gG_in (tin3 (List.mem_of_getElem? (i := 106) rfl)) rfl
theorem wmX11_195 : Cond.methodLink RX11 195 yX11_isDepth ∈ gG := gG_in (tin3 (List.mem_of_getElem? (i := 105) rfl)) rfl
theorem wmX11_198 : Cond.methodLink RX11 198 yX5_forceOf ∈ gG := gG_in (tin3 (List.mem_of_getElem? (i := 108) rfl)) rfl
theorem wcX11_force : Cond.code yX11_force cX11_force 4 (some .int) ∈ gG := gG_in (tin3 (List.mem_of_getElem? (i := 104) rfl)) rfl
theorem wnX11_force : Cond.instanceMethod yX11_force ∈ gG := gG_in (tin3 (List.mem_of_getElem? (i := 102) rfl)) rfl
theorem wsX11_force : Cond.selects RX11 yX11_force yX11_force ∈ gG := gG_in (tin3 (List.mem_of_getElem? (i := 103) rfl)) rfl
theorem wmX11_202 : Cond.methodLink RX11 202 yX4_dentedBy ∈ gG := gG_in (tin3 (List.mem_of_getElem? (i := 113) rfl)) rfl
theorem wcX11_whose : Cond.code yX11_whose cX11_whose 2 (some .int) ∈ gG := gG_in (tin3 (List.mem_of_getElem? (i := 112) rfl)) rfl
theorem wnX11_whose : Cond.instanceMethod yX11_whose ∈ gG := gG_in (tin3 (List.mem_of_getElem? (i := 110) rfl)) rfl
theorem wsX11_whose : Cond.selects RX11 yX11_whose yX11_whose ∈ gG := gG_in (tin3 (List.mem_of_getElem? (i := 111) rfl)) rfl
theorem wmX11_205 : Cond.methodLink RX11 205 yX4_cellsDented ∈ gG := gG_in (tin3 (List.mem_of_getElem? (i := 125) rfl)) rfl
theorem wcX11_own : Cond.code yX11_own cX11_own 5 (some .int) ∈ gG := gG_in (tin3 (List.mem_of_getElem? (i := 124) rfl)) rfl
theorem wnX11_own : Cond.instanceMethod yX11_own ∈ gG := gG_in (tin3 (List.mem_of_getElem? (i := 122) rfl)) rfl
theorem wsX11_own : Cond.selects RX11 yX11_own yX11_own ∈ gG := gG_in (tin3 (List.mem_of_getElem? (i := 123) rfl)) rfl
theorem wmX11_208 : Cond.methodLink RX11 208 yX4_dentedAtLeast ∈ gG := gG_in (tin3 (List.mem_of_getElem? (i := 130) rfl)) rfl
theorem wcX11_shown : Cond.code yX11_shown cX11_shown 3 (some .int) ∈ gG := gG_in (tin3 (List.mem_of_getElem? (i := 129) rfl)) rfl
theorem wnX11_shown : Cond.instanceMethod yX11_shown ∈ gG := gG_in (tin3 (List.mem_of_getElem? (i := 127) rfl)) rfl
theorem wsX11_shown : Cond.selects RX11 yX11_shown yX11_shown ∈ gG := gG_in (tin3 (List.mem_of_getElem? (i := 128) rfl)) rfl
theorem wkJ6_265 : Cond.constant RJ6 265 1431655765 ∈ gG := gG_in (tin3 (List.mem_of_getElem? (i := 158) rfl)) rfl
theorem wkJ6_266 : Cond.constant RJ6 266 858993459 ∈ gG := gG_in (tin3 (List.mem_of_getElem? (i := 159) rfl)) rfl
theorem wkJ6_267 : Cond.constant RJ6 267 252645135 ∈ gG := gG_in (tin3 (List.mem_of_getElem? (i := 160) rfl)) rfl
theorem wcJ6_bitCount_0f7a4 : Cond.code yJ6_bitCount_0f7a4 cJ6_bitCount_0f7a4 1 (some .int) ∈ gG := gG_in (tin3 (List.mem_of_getElem? (i := 157) rfl)) rfl
theorem wiJ6 : Cond.initialized RJ6 ∈ gG := gG_in (tin1 (List.mem_of_getElem? (i := 19) rfl)) rfl
theorem wtJ6_bitCount_0f7a4 : Cond.static yJ6_bitCount_0f7a4 ∈ gG := gG_in (tin3 (List.mem_of_getElem? (i := 156) rfl)) rfl
theorem wfX11_35 : Cond.fieldLink RX11 35 (TX11 5).1 (TX11 5).2.1 (TX11 5).2.2.1 ∈ gG := gG_in (tin1 (List.mem_of_getElem? (i := 221) rfl)) rfl
theorem wmX11_235 : Cond.methodLink RX11 235 yX2_isFit ∈ gG := gG_in (tin3 (List.mem_of_getElem? (i := 165) rfl)) rfl
theorem wcX11_wordsThatFit : Cond.code yX11_wordsThatFit cX11_wordsThatFit 3 (some .int) ∈ gG := gG_in (tin3 (List.mem_of_getElem? (i := 164) rfl)) rfl
theorem wnX11_wordsThatFit : Cond.instanceMethod yX11_wordsThatFit ∈ gG := gG_in (tin3 (List.mem_of_getElem? (i := 163) rfl)) rfl
theorem wsX11_wordsThatFit : Cond.selects RX11 yX11_wordsThatFit yX11_wordsThatFit ∈ gG := gG_in (tinp (List.mem_of_getElem? (i := 17) rfl)) rfl
theorem wmX11_214 : Cond.methodLink RX11 214 yX2_look ∈ gG := gG_in (tin3 (List.mem_of_getElem? (i := 143) rfl)) rfl
theorem wmX11_218 : Cond.methodLink RX11 218 yX2_guess ∈ gG := gG_in (tin3 (List.mem_of_getElem? (i := 151) rfl)) rfl
theorem wfX11_221 : Cond.fieldLinkNest RX11 221 (TX2 2).1 (TX2 2).2.1 (TX2 2).2.2.1 "PressedPad" ∈ nW := nW_in (tin1 (List.mem_of_getElem? (i := 149) rfl)) rfl
theorem wfX11_224 : Cond.fieldLinkNest RX11 224 (TX2 3).1 (TX2 3).2.1 (TX2 3).2.2.1 "PressedPad" ∈ nW := nW_in (tin1 (List.mem_of_getElem? (i := 151) rfl)) rfl
theorem wmX11_227 : Cond.methodLink RX11 227 yJ6_bitCount_0f7a4 ∈ gG := gG_in (tin3 (List.mem_of_getElem? (i := 155) rfl)) rfl
theorem wmX11_232 : Cond.methodLink RX11 232 yX11_wordsThatFit ∈ gG := gG_in (tin3 (List.mem_of_getElem? (i := 161) rfl)) rfl
theorem wmX11_211 : Cond.methodLink RX11 211 yX4_hasNotes ∈ gG := gG_in (tin3 (List.mem_of_getElem? (i := 139) rfl)) rfl
theorem wcX11_lost : Cond.code yX11_lost cX11_lost 9 (some .int) ∈ gG := gG_in (tin3 (List.mem_of_getElem? (i := 138) rfl)) rfl
theorem wnX11_lost : Cond.instanceMethod yX11_lost ∈ gG := gG_in (tin3 (List.mem_of_getElem? (i := 136) rfl)) rfl
theorem wsX11_lost : Cond.selects RX11 yX11_lost yX11_lost ∈ gG := gG_in (tin3 (List.mem_of_getElem? (i := 137) rfl)) rfl
theorem wcX11_pen : Cond.code yX11_pen cX11_pen 11 (some .int) ∈ gG := gG_in (tin3 (List.mem_of_getElem? (i := 172) rfl)) rfl
theorem wnX11_pen : Cond.instanceMethod yX11_pen ∈ gG := gG_in (tin3 (List.mem_of_getElem? (i := 170) rfl)) rfl
theorem wsX11_pen : Cond.selects RX11 yX11_pen yX11_pen ∈ gG := gG_in (tin3 (List.mem_of_getElem? (i := 171) rfl)) rfl
theorem wfX11_42 : Cond.fieldLink RX11 42 (TX11 6).1 (TX11 6).2.1 (TX11 6).2.2.1 ∈ gG := gG_in (tin1 (List.mem_of_getElem? (i := 222) rfl)) rfl
theorem wmX11_238 : Cond.methodLink RX11 238 yX8_search ∈ gG := gG_in (tin3 (List.mem_of_getElem? (i := 177) rfl)) rfl
theorem wmX11_242 : Cond.methodLink RX11 242 yX8_sheetAt ∈ gG := gG_in (tin3 (List.mem_of_getElem? (i := 192) rfl)) rfl
theorem wcX11_orders : Cond.code yX11_orders cX11_orders 2 (some .int) ∈ gG := gG_in (tin3 (List.mem_of_getElem? (i := 176) rfl)) rfl
theorem wnX11_orders : Cond.instanceMethod yX11_orders ∈ gG := gG_in (tin3 (List.mem_of_getElem? (i := 174) rfl)) rfl
theorem wsX11_orders : Cond.selects RX11 yX11_orders yX11_orders ∈ gG := gG_in (tin3 (List.mem_of_getElem? (i := 175) rfl)) rfl
theorem wcX11_press : Cond.code yX11_press cX11_press 4 (some .int) ∈ gG := gG_in (tin3 (List.mem_of_getElem? (i := 199) rfl)) rfl
theorem wnX11_press : Cond.instanceMethod yX11_press ∈ gG := gG_in (tin3 (List.mem_of_getElem? (i := 197) rfl)) rfl
theorem wsX11_press : Cond.selects RX11 yX11_press yX11_press ∈ gG := gG_in (tin3 (List.mem_of_getElem? (i := 198) rfl)) rfl
theorem wcX11_copies : Cond.code yX11_copies cX11_copies 10 (some .int) ∈ gG := gG_in (tin3 (List.mem_of_getElem? (i := 203) rfl)) rfl
theorem wnX11_copies : Cond.instanceMethod yX11_copies ∈ gG := gG_in (tin3 (List.mem_of_getElem? (i := 201) rfl)) rfl
theorem wsX11_copies : Cond.selects RX11 yX11_copies yX11_copies ∈ gG := gG_in (tin3 (List.mem_of_getElem? (i := 202) rfl)) rfl
theorem wfX11_61 : Cond.fieldLink RX11 61 (TX11 10).1 (TX11 10).2.1 (TX11 10).2.2.1 ∈ gG := gG_in (tin1 (List.mem_of_getElem? (i := 226) rfl)) rfl
theorem wfX11_65 : Cond.fieldLink RX11 65 (TX11 11).1 (TX11 11).2.1 (TX11 11).2.2.1 ∈ gG := gG_in (tin1 (List.mem_of_getElem? (i := 227) rfl)) rfl
theorem wcX11_keepFraction : Cond.code yX11_keepFraction cX11_keepFraction 12 none ∈ gG := gG_in (tin3 (List.mem_of_getElem? (i := 212) rfl)) rfl
theorem wnX11_keepFraction : Cond.instanceMethod yX11_keepFraction ∈ gG := gG_in (tin3 (List.mem_of_getElem? (i := 211) rfl)) rfl
theorem wsX11_keepFraction : Cond.selects RX11 yX11_keepFraction yX11_keepFraction ∈ gG := gG_in (tinp (List.mem_of_getElem? (i := 20) rfl)) rfl
theorem wlX11_245 : Cond.constantLong RX11 245 10 ∈ gG := gG_in (tin3 (List.mem_of_getElem? (i := 208) rfl)) rfl
theorem wmX11_247 : Cond.methodLink RX11 247 yX11_keepFraction ∈ gG := gG_in (tin3 (List.mem_of_getElem? (i := 209) rfl)) rfl
theorem wcX11_rub : Cond.code yX11_rub cX11_rub 11 (some .int) ∈ gG := gG_in (tin3 (List.mem_of_getElem? (i := 207) rfl)) rfl
theorem wnX11_rub : Cond.instanceMethod yX11_rub ∈ gG := gG_in (tin3 (List.mem_of_getElem? (i := 205) rfl)) rfl
theorem wsX11_rub : Cond.selects RX11 yX11_rub yX11_rub ∈ gG := gG_in (tin3 (List.mem_of_getElem? (i := 206) rfl)) rfl
theorem wcX11_torn : Cond.code yX11_torn cX11_torn 3 (some .int) ∈ gG := gG_in (tin3 (List.mem_of_getElem? (i := 216) rfl)) rfl
theorem wnX11_torn : Cond.instanceMethod yX11_torn ∈ gG := gG_in (tin3 (List.mem_of_getElem? (i := 214) rfl)) rfl
theorem wsX11_torn : Cond.selects RX11 yX11_torn yX11_torn ∈ gG := gG_in (tin3 (List.mem_of_getElem? (i := 215) rfl)) rfl
theorem wlX11_281 : Cond.constantLong RX11 281 1103515245 ∈ gG := gG_in (tin3 (List.mem_of_getElem? (i := 225) rfl)) rfl
theorem wlX11_283 : Cond.constantLong RX11 283 12345 ∈ gG := gG_in (tin3 (List.mem_of_getElem? (i := 226) rfl)) rfl
theorem wlX11_285 : Cond.constantLong RX11 285 2147483648 ∈ gG := gG_in (tin3 (List.mem_of_getElem? (i := 227) rfl)) rfl
theorem wcX11_nextDraw : Cond.code yX11_nextDraw cX11_nextDraw 2 (some .long) ∈ gG := gG_in (tin3 (List.mem_of_getElem? (i := 224) rfl)) rfl
theorem wtX11_nextDraw : Cond.static yX11_nextDraw ∈ gG := gG_in (tin3 (List.mem_of_getElem? (i := 223) rfl)) rfl
theorem wlX11_287 : Cond.constantLong RX11 287 65536 ∈ gG := gG_in (tin3 (List.mem_of_getElem? (i := 231) rfl)) rfl
theorem wcX11_drawOf : Cond.code yX11_drawOf cX11_drawOf 3 (some .int) ∈ gG := gG_in (tin3 (List.mem_of_getElem? (i := 230) rfl)) rfl
theorem wtX11_drawOf : Cond.static yX11_drawOf ∈ gG := gG_in (tin3 (List.mem_of_getElem? (i := 229) rfl)) rfl
theorem wfX11_53 : Cond.fieldLink RX11 53 (TX11 8).1 (TX11 8).2.1 (TX11 8).2.2.1 ∈ gG := gG_in (tin1 (List.mem_of_getElem? (i := 224) rfl)) rfl
theorem wcX11_sumOfLast : Cond.code yX11_sumOfLast cX11_sumOfLast 3 (some .int) ∈ gG := gG_in (tin3 (List.mem_of_getElem? (i := 236) rfl)) rfl
theorem wnX11_sumOfLast : Cond.instanceMethod yX11_sumOfLast ∈ gG := gG_in (tin3 (List.mem_of_getElem? (i := 235) rfl)) rfl
theorem wsX11_sumOfLast : Cond.selects RX11 yX11_sumOfLast yX11_sumOfLast ∈ gG := gG_in (tinp (List.mem_of_getElem? (i := 21) rfl)) rfl
theorem wkX11_251 : Cond.constant RX11 251 999999 ∈ gG := gG_in (tin3 (List.mem_of_getElem? (i := 221) rfl)) rfl
theorem wmX11_252 : Cond.methodLink RX11 252 yX11_nextDraw ∈ gG := gG_in (tin3 (List.mem_of_getElem? (i := 222) rfl)) rfl
theorem wmX11_256 : Cond.methodLink RX11 256 yX11_drawOf ∈ gG := gG_in (tin3 (List.mem_of_getElem? (i := 228) rfl)) rfl
theorem wmX11_260 : Cond.methodLink RX11 260 yX11_dentInto ∈ gG := gG_in (tin3 (List.mem_of_getElem? (i := 232) rfl)) rfl
theorem wmX11_264 : Cond.methodLink RX11 264 yX11_sumOfLast ∈ gG := gG_in (tin3 (List.mem_of_getElem? (i := 233) rfl)) rfl
theorem wcX11_drawn : Cond.code yX11_drawn cX11_drawn 10 (some .int) ∈ gG := gG_in (tin3 (List.mem_of_getElem? (i := 220) rfl)) rfl
theorem wnX11_drawn : Cond.instanceMethod yX11_drawn ∈ gG := gG_in (tin3 (List.mem_of_getElem? (i := 218) rfl)) rfl
theorem wsX11_drawn : Cond.selects RX11 yX11_drawn yX11_drawn ∈ gG := gG_in (tin3 (List.mem_of_getElem? (i := 219) rfl)) rfl
theorem wcX11_part : Cond.code yX11_part cX11_part 2 (some .long) ∈ gG := gG_in (tin4 (List.mem_of_getElem? (i := 0) rfl)) rfl
theorem wnX11_part : Cond.instanceMethod yX11_part ∈ gG := gG_in (tin3 (List.mem_of_getElem? (i := 238) rfl)) rfl
theorem wsX11_part : Cond.selects RX11 yX11_part yX11_part ∈ gG := gG_in (tin3 (List.mem_of_getElem? (i := 239) rfl)) rfl
theorem wmX11_267 : Cond.methodLink RX11 267 yX11_imageOf ∈ gG := gG_in (tin4 (List.mem_of_getElem? (i := 5) rfl)) rfl
theorem wfX11_57 : Cond.fieldLink RX11 57 (TX11 9).1 (TX11 9).2.1 (TX11 9).2.2.1 ∈ gG := gG_in (tin1 (List.mem_of_getElem? (i := 225) rfl)) rfl
theorem wcX11_image : Cond.code yX11_image cX11_image 2 (some .int) ∈ gG := gG_in (tin4 (List.mem_of_getElem? (i := 4) rfl)) rfl
theorem wnX11_image : Cond.instanceMethod yX11_image ∈ gG := gG_in (tin4 (List.mem_of_getElem? (i := 2) rfl)) rfl
theorem wsX11_image : Cond.selects RX11 yX11_image yX11_image ∈ gG := gG_in (tin4 (List.mem_of_getElem? (i := 3) rfl)) rfl
theorem wcX11_from : Cond.code yX11_from cX11_from 2 (some .int) ∈ gG := gG_in (tin4 (List.mem_of_getElem? (i := 12) rfl)) rfl
theorem wnX11_from : Cond.instanceMethod yX11_from ∈ gG := gG_in (tin4 (List.mem_of_getElem? (i := 10) rfl)) rfl
theorem wsX11_from : Cond.selects RX11 yX11_from yX11_from ∈ gG := gG_in (tin4 (List.mem_of_getElem? (i := 11) rfl)) rfl
theorem wcX11_status : Cond.code yX11_status cX11_status 2 (some .int) ∈ gG := gG_in (tin4 (List.mem_of_getElem? (i := 16) rfl)) rfl
theorem wnX11_status : Cond.instanceMethod yX11_status ∈ gG := gG_in (tin4 (List.mem_of_getElem? (i := 14) rfl)) rfl
theorem wsX11_status : Cond.selects RX11 yX11_status yX11_status ∈ gG := gG_in (tin4 (List.mem_of_getElem? (i := 15) rfl)) rfl
theorem wcX11_amountOf : Cond.code yX11_amountOf cX11_amountOf 2 (some .int) ∈ gG := gG_in (tin4 (List.mem_of_getElem? (i := 24) rfl)) rfl
theorem wnX11_amountOf : Cond.instanceMethod yX11_amountOf ∈ gG := gG_in (tin4 (List.mem_of_getElem? (i := 23) rfl)) rfl
theorem wsX11_amountOf : Cond.selects RX11 yX11_amountOf yX11_amountOf ∈ gG := gG_in (tinp (List.mem_of_getElem? (i := 23) rfl)) rfl
theorem wmX11_271 : Cond.methodLink RX11 271 yX11_amountOf ∈ gG := gG_in (tin4 (List.mem_of_getElem? (i := 21) rfl)) rfl
theorem wcX11_count : Cond.code yX11_count cX11_count 2 (some .int) ∈ gG := gG_in (tin4 (List.mem_of_getElem? (i := 20) rfl)) rfl
theorem wnX11_count : Cond.instanceMethod yX11_count ∈ gG := gG_in (tin4 (List.mem_of_getElem? (i := 18) rfl)) rfl
theorem wsX11_count : Cond.selects RX11 yX11_count yX11_count ∈ gG := gG_in (tin4 (List.mem_of_getElem? (i := 19) rfl)) rfl
theorem wlX11_274 : Cond.constantLong RX11 274 919 ∈ gG := gG_in (tin4 (List.mem_of_getElem? (i := 29) rfl)) rfl
theorem wlX11_276 : Cond.constantLong RX11 276 31 ∈ gG := gG_in (tin4 (List.mem_of_getElem? (i := 30) rfl)) rfl
theorem wmX11_278 : Cond.methodLink RX11 278 yX4_digestFrom ∈ gG := gG_in (tin4 (List.mem_of_getElem? (i := 31) rfl)) rfl
theorem wcX11_digest : Cond.code yX11_digest cX11_digest 4 (some .long) ∈ gG := gG_in (tin4 (List.mem_of_getElem? (i := 28) rfl)) rfl
theorem wnX11_digest : Cond.instanceMethod yX11_digest ∈ gG := gG_in (tin4 (List.mem_of_getElem? (i := 26) rfl)) rfl
theorem wsX11_digest : Cond.selects RX11 yX11_digest yX11_digest ∈ gG := gG_in (tin4 (List.mem_of_getElem? (i := 27) rfl)) rfl
theorem wcX12_in : Cond.code yX12_in cX12_in 6 (some .boolean) ∈ gG := gG_in (tin4 (List.mem_of_getElem? (i := 141) rfl)) rfl
theorem wiX12 : Cond.initialized RX12 ∈ gG := gG_in (tin1 (List.mem_of_getElem? (i := 13) rfl)) rfl
theorem wtX12_in : Cond.static yX12_in ∈ gG := gG_in (tin4 (List.mem_of_getElem? (i := 140) rfl)) rfl
theorem wcX12_has : Cond.code yX12_has cX12_has 2 (some .boolean) ∈ gG := gG_in (tin4 (List.mem_of_getElem? (i := 191) rfl)) rfl
theorem wtX12_has : Cond.static yX12_has ∈ gG := gG_in (tin4 (List.mem_of_getElem? (i := 190) rfl)) rfl
theorem wcX12_ones : Cond.code yX12_ones cX12_ones 3 (some .int) ∈ gG := gG_in (tin5 (List.mem_of_getElem? (i := 85) rfl)) rfl
theorem wtX12_ones : Cond.static yX12_ones ∈ gG := gG_in (tin5 (List.mem_of_getElem? (i := 84) rfl)) rfl
theorem wfX12_27 : Cond.fieldLink RX12 27 (TX12 9).1 (TX12 9).2.1 (TX12 9).2.2.1 ∈ gG := gG_in (tin4 (List.mem_of_getElem? (i := 51) rfl)) rfl
theorem wcX12_refuse : Cond.code yX12_refuse cX12_refuse 3 (some .int) ∈ gG := gG_in (tin4 (List.mem_of_getElem? (i := 149) rfl)) rfl
theorem wnX12_refuse : Cond.instanceMethod yX12_refuse ∈ gG := gG_in (tin4 (List.mem_of_getElem? (i := 148) rfl)) rfl
theorem wsX12_refuse : Cond.selects RX12 yX12_refuse yX12_refuse ∈ gG := gG_in (tinp (List.mem_of_getElem? (i := 25) rfl)) rfl
theorem wmX12_52 : Cond.methodLink RX12 52 yX12_refuse ∈ gG := gG_in (tin4 (List.mem_of_getElem? (i := 146) rfl)) rfl
theorem wcX12_bad : Cond.code yX12_bad cX12_bad 1 (some .int) ∈ gG := gG_in (tin4 (List.mem_of_getElem? (i := 145) rfl)) rfl
theorem wnX12_bad : Cond.instanceMethod yX12_bad ∈ gG := gG_in (tin4 (List.mem_of_getElem? (i := 144) rfl)) rfl
theorem wsX12_bad : Cond.selects RX12 yX12_bad yX12_bad ∈ gG := gG_in (tinp (List.mem_of_getElem? (i := 24) rfl)) rfl
theorem wcX12_badLess : Cond.code yX12_badLess cX12_badLess 1 (some .int) ∈ gG := gG_in (tin5 (List.mem_of_getElem? (i := 21) rfl)) rfl
theorem wnX12_badLess : Cond.instanceMethod yX12_badLess ∈ gG := gG_in (tin5 (List.mem_of_getElem? (i := 20) rfl)) rfl
theorem wsX12_badLess : Cond.selects RX12 yX12_badLess yX12_badLess ∈ gG := gG_in (tinp (List.mem_of_getElem? (i := 37) rfl)) rfl
theorem wfX12_7 : Cond.fieldLink RX12 7 (TX12 0).1 (TX12 0).2.1 (TX12 0).2.2.1 ∈ gG := gG_in (tin4 (List.mem_of_getElem? (i := 42) rfl)) rfl
theorem wmX12_56 : Cond.methodLink RX12 56 yX12_in ∈ gG := gG_in (tin4 (List.mem_of_getElem? (i := 139) rfl)) rfl
theorem wcX12_isSheet : Cond.code yX12_isSheet cX12_isSheet 2 (some .boolean) ∈ gG := gG_in (tin5 (List.mem_of_getElem? (i := 17) rfl)) rfl
theorem wnX12_isSheet : Cond.instanceMethod yX12_isSheet ∈ gG := gG_in (tin5 (List.mem_of_getElem? (i := 16) rfl)) rfl
theorem wsX12_isSheet : Cond.selects RX12 yX12_isSheet yX12_isSheet ∈ gG := gG_in (tinp (List.mem_of_getElem? (i := 36) rfl)) rfl
theorem wfX12_17 : Cond.fieldLink RX12 17 (TX12 4).1 (TX12 4).2.1 (TX12 4).2.2.1 ∈ gG := gG_in (tin4 (List.mem_of_getElem? (i := 46) rfl)) rfl
theorem wcX12_areNotes : Cond.code yX12_areNotes cX12_areNotes 2 (some .boolean) ∈ gG := gG_in (tin5 (List.mem_of_getElem? (i := 69) rfl)) rfl
theorem wnX12_areNotes : Cond.instanceMethod yX12_areNotes ∈ gG := gG_in (tin5 (List.mem_of_getElem? (i := 68) rfl)) rfl
theorem wsX12_areNotes : Cond.selects RX12 yX12_areNotes yX12_areNotes ∈ gG := gG_in (tinp (List.mem_of_getElem? (i := 42) rfl)) rfl
theorem wlX12_60 : Cond.constantLong RX12 60 5 ∈ gG := gG_in (tin4 (List.mem_of_getElem? (i := 165) rfl)) rfl
theorem wlX12_62 : Cond.constantLong RX12 62 9 ∈ gG := gG_in (tin4 (List.mem_of_getElem? (i := 166) rfl)) rfl
theorem wcX12_isPen : Cond.code yX12_isPen cX12_isPen 2 (some .boolean) ∈ gG := gG_in (tin4 (List.mem_of_getElem? (i := 164) rfl)) rfl
theorem wtX12_isPen : Cond.static yX12_isPen ∈ gG := gG_in (tin4 (List.mem_of_getElem? (i := 163) rfl)) rfl
theorem wcX12_pencil : Cond.code yX12_pencil cX12_pencil 3 (some .int) ∈ gG := gG_in (tin4 (List.mem_of_getElem? (i := 188) rfl)) rfl
theorem wtX12_pencil : Cond.static yX12_pencil ∈ gG := gG_in (tin4 (List.mem_of_getElem? (i := 187) rfl)) rfl
theorem wmX12_64 : Cond.methodLink RX12 64 yX12_pencil ∈ gG := gG_in (tin4 (List.mem_of_getElem? (i := 186) rfl)) rfl
theorem wcX12_forceOf : Cond.code yX12_forceOf cX12_forceOf 3 (some .int) ∈ gG := gG_in (tin4 (List.mem_of_getElem? (i := 185) rfl)) rfl
theorem wtX12_forceOf : Cond.static yX12_forceOf ∈ gG := gG_in (tin4 (List.mem_of_getElem? (i := 184) rfl)) rfl
theorem wcX12_hasInk : Cond.code yX12_hasInk cX12_hasInk 1 (some .boolean) ∈ gG := gG_in (tin4 (List.mem_of_getElem? (i := 182) rfl)) rfl
theorem wtX12_hasInk : Cond.static yX12_hasInk ∈ gG := gG_in (tin4 (List.mem_of_getElem? (i := 181) rfl)) rfl
theorem wfX12_67 : Cond.fieldLink RX12 67 (TX12 1).1 (TX12 1).2.1 (TX12 1).2.2.1 ∈ gG := gG_in (tin4 (List.mem_of_getElem? (i := 43) rfl)) rfl
theorem wfX12_70 : Cond.fieldLink RX12 70 (TX12 6).1 (TX12 6).2.1 (TX12 6).2.2.1 ∈ gG := gG_in (tin4 (List.mem_of_getElem? (i := 48) rfl)) rfl
theorem wcX12_empty : Cond.code yX12_empty cX12_empty 2 none ∈ gG := gG_in (tin4 (List.mem_of_getElem? (i := 153) rfl)) rfl
theorem wnX12_empty : Cond.instanceMethod yX12_empty ∈ gG := gG_in (tin4 (List.mem_of_getElem? (i := 152) rfl)) rfl
theorem wsX12_empty : Cond.selects RX12 yX12_empty yX12_empty ∈ gG := gG_in (tinp (List.mem_of_getElem? (i := 26) rfl)) rfl
theorem wlX12_73 : Cond.constantLong RX12 73 6 ∈ gG := gG_in (tin4 (List.mem_of_getElem? (i := 138) rfl)) rfl
theorem wfX12_79 : Cond.fieldLink RX12 79 (TX12 3).1 (TX12 3).2.1 (TX12 3).2.2.1 ∈ gG := gG_in (tin4 (List.mem_of_getElem? (i := 45) rfl)) rfl
theorem wmX12_82 : Cond.methodLink RX12 82 yX12_empty ∈ gG := gG_in (tin4 (List.mem_of_getElem? (i := 150) rfl)) rfl
theorem wmX12_75 : Cond.methodLink RX12 75 yX12_bad ∈ gG := gG_in (tin4 (List.mem_of_getElem? (i := 142) rfl)) rfl
theorem wcX12_pad : Cond.code yX12_pad cX12_pad 3 (some .int) ∈ gG := gG_in (tin4 (List.mem_of_getElem? (i := 137) rfl)) rfl
theorem wnX12_pad : Cond.instanceMethod yX12_pad ∈ gG := gG_in (tin4 (List.mem_of_getElem? (i := 135) rfl)) rfl
theorem wsX12_pad : Cond.selects RX12 yX12_pad yX12_pad ∈ gG := gG_in (tin4 (List.mem_of_getElem? (i := 136) rfl)) rfl
theorem wcX12_carbons : Cond.code yX12_carbons cX12_carbons 3 (some .int) ∈ gG := gG_in (tin4 (List.mem_of_getElem? (i := 157) rfl)) rfl
theorem wnX12_carbons : Cond.instanceMethod yX12_carbons ∈ gG := gG_in (tin4 (List.mem_of_getElem? (i := 155) rfl)) rfl
theorem wsX12_carbons : Cond.selects RX12 yX12_carbons yX12_carbons ∈ gG := gG_in (tin4 (List.mem_of_getElem? (i := 156) rfl)) rfl
theorem wfX12_20 : Cond.fieldLink RX12 20 (TX12 5).1 (TX12 5).2.1 (TX12 5).2.2.1 ∈ gG := gG_in (tin4 (List.mem_of_getElem? (i := 47) rfl)) rfl
theorem wcX12_note : Cond.code yX12_note cX12_note 2 none ∈ gG := gG_in (tin4 (List.mem_of_getElem? (i := 171) rfl)) rfl
theorem wnX12_note : Cond.instanceMethod yX12_note ∈ gG := gG_in (tin4 (List.mem_of_getElem? (i := 170) rfl)) rfl
theorem wsX12_note : Cond.selects RX12 yX12_note yX12_note ∈ gG := gG_in (tinp (List.mem_of_getElem? (i := 27) rfl)) rfl
theorem wmX12_85 : Cond.methodLink RX12 85 yX12_hasInk ∈ gG := gG_in (tin4 (List.mem_of_getElem? (i := 180) rfl)) rfl
theorem wmX12_89 : Cond.methodLink RX12 89 yX12_forceOf ∈ gG := gG_in (tin4 (List.mem_of_getElem? (i := 183) rfl)) rfl
theorem wmX12_93 : Cond.methodLink RX12 93 yX12_has ∈ gG := gG_in (tin4 (List.mem_of_getElem? (i := 189) rfl)) rfl
theorem wcX12_dentAll : Cond.code yX12_dentAll cX12_dentAll 9 none ∈ gG := gG_in (tin4 (List.mem_of_getElem? (i := 179) rfl)) rfl
theorem wnX12_dentAll : Cond.instanceMethod yX12_dentAll ∈ gG := gG_in (tin4 (List.mem_of_getElem? (i := 178) rfl)) rfl
theorem wsX12_dentAll : Cond.selects RX12 yX12_dentAll yX12_dentAll ∈ gG := gG_in (tinp (List.mem_of_getElem? (i := 29) rfl)) rfl
theorem wmX12_97 : Cond.methodLink RX12 97 yX12_dentAll ∈ gG := gG_in (tin4 (List.mem_of_getElem? (i := 176) rfl)) rfl
theorem wcX12_writeNow : Cond.code yX12_writeNow cX12_writeNow 5 none ∈ gG := gG_in (tin4 (List.mem_of_getElem? (i := 175) rfl)) rfl
theorem wnX12_writeNow : Cond.instanceMethod yX12_writeNow ∈ gG := gG_in (tin4 (List.mem_of_getElem? (i := 174) rfl)) rfl
theorem wsX12_writeNow : Cond.selects RX12 yX12_writeNow yX12_writeNow ∈ gG := gG_in (tinp (List.mem_of_getElem? (i := 28) rfl)) rfl
theorem wmX12_101 : Cond.methodLink RX12 101 yX12_isPen ∈ gG := gG_in (tin4 (List.mem_of_getElem? (i := 162) rfl)) rfl
theorem wlX12_104 : Cond.constantLong RX12 104 4095 ∈ gG := gG_in (tin4 (List.mem_of_getElem? (i := 167) rfl)) rfl
theorem wmX12_106 : Cond.methodLink RX12 106 yX12_note ∈ gG := gG_in (tin4 (List.mem_of_getElem? (i := 168) rfl)) rfl
theorem wmX12_109 : Cond.methodLink RX12 109 yX12_writeNow ∈ gG := gG_in (tin4 (List.mem_of_getElem? (i := 172) rfl)) rfl
theorem wcX12_write : Cond.code yX12_write cX12_write 4 (some .int) ∈ gG := gG_in (tin4 (List.mem_of_getElem? (i := 161) rfl)) rfl
theorem wnX12_write : Cond.instanceMethod yX12_write ∈ gG := gG_in (tin4 (List.mem_of_getElem? (i := 159) rfl)) rfl
theorem wsX12_write : Cond.selects RX12 yX12_write yX12_write ∈ gG := gG_in (tin4 (List.mem_of_getElem? (i := 160) rfl)) rfl
theorem wcX12_tear : Cond.code yX12_tear cX12_tear 1 (some .int) ∈ gG := gG_in (tin4 (List.mem_of_getElem? (i := 195) rfl)) rfl
theorem wnX12_tear : Cond.instanceMethod yX12_tear ∈ gG := gG_in (tin4 (List.mem_of_getElem? (i := 193) rfl)) rfl
theorem wsX12_tear : Cond.selects RX12 yX12_tear yX12_tear ∈ gG := gG_in (tin4 (List.mem_of_getElem? (i := 194) rfl)) rfl
theorem wcX12_undo : Cond.code yX12_undo cX12_undo 2 (some .int) ∈ gG := gG_in (tin4 (List.mem_of_getElem? (i := 199) rfl)) rfl
theorem wnX12_undo : Cond.instanceMethod yX12_undo ∈ gG := gG_in (tin4 (List.mem_of_getElem? (i := 197) rfl)) rfl
theorem wsX12_undo : Cond.selects RX12 yX12_undo yX12_undo ∈ gG := gG_in (tin4 (List.mem_of_getElem? (i := 198) rfl)) rfl
theorem wfX12_13 : Cond.fieldLink RX12 13 (TX12 2).1 (TX12 2).2.1 (TX12 2).2.2.1 ∈ gG := gG_in (tin4 (List.mem_of_getElem? (i := 44) rfl)) rfl
theorem wcX12_word : Cond.code yX12_word cX12_word 2 (some .int) ∈ gG := gG_in (tin4 (List.mem_of_getElem? (i := 203) rfl)) rfl
theorem wnX12_word : Cond.instanceMethod yX12_word ∈ gG := gG_in (tin4 (List.mem_of_getElem? (i := 201) rfl)) rfl
theorem wsX12_word : Cond.selects RX12 yX12_word yX12_word ∈ gG := gG_in (tin4 (List.mem_of_getElem? (i := 202) rfl)) rfl
theorem wcX12_forget : Cond.code yX12_forget cX12_forget 2 (some .int) ∈ gG := gG_in (tin4 (List.mem_of_getElem? (i := 207) rfl)) rfl
theorem wnX12_forget : Cond.instanceMethod yX12_forget ∈ gG := gG_in (tin4 (List.mem_of_getElem? (i := 205) rfl)) rfl
theorem wsX12_forget : Cond.selects RX12 yX12_forget yX12_forget ∈ gG := gG_in (tin4 (List.mem_of_getElem? (i := 206) rfl)) rfl
theorem wlX12_112 : Cond.constantLong RX12 112 127 ∈ gG := gG_in (tin4 (List.mem_of_getElem? (i := 212) rfl)) rfl
theorem wfX12_114 : Cond.fieldLink RX12 114 (TX12 11).1 (TX12 11).2.1 (TX12 11).2.2.1 ∈ gG := gG_in (tin4 (List.mem_of_getElem? (i := 53) rfl)) rfl
theorem wfX12_30 : Cond.fieldLink RX12 30 (TX12 10).1 (TX12 10).2.1 (TX12 10).2.2.1 ∈ gG := gG_in (tin4 (List.mem_of_getElem? (i := 52) rfl)) rfl
theorem wcX12_type : Cond.code yX12_type cX12_type 2 (some .int) ∈ gG := gG_in (tin4 (List.mem_of_getElem? (i := 211) rfl)) rfl
theorem wnX12_type : Cond.instanceMethod yX12_type ∈ gG := gG_in (tin4 (List.mem_of_getElem? (i := 209) rfl)) rfl
theorem wsX12_type : Cond.selects RX12 yX12_type yX12_type ∈ gG := gG_in (tin4 (List.mem_of_getElem? (i := 210) rfl)) rfl
theorem wcX12_clear : Cond.code yX12_clear cX12_clear 2 (some .int) ∈ gG := gG_in (tin4 (List.mem_of_getElem? (i := 216) rfl)) rfl
theorem wnX12_clear : Cond.instanceMethod yX12_clear ∈ gG := gG_in (tin4 (List.mem_of_getElem? (i := 214) rfl)) rfl
theorem wsX12_clear : Cond.selects RX12 yX12_clear yX12_clear ∈ gG := gG_in (tin4 (List.mem_of_getElem? (i := 215) rfl)) rfl
theorem wcX12_byteAt : Cond.code yX12_byteAt cX12_byteAt 2 (some .int) ∈ gG := gG_in (tin4 (List.mem_of_getElem? (i := 232) rfl)) rfl
theorem wnX12_byteAt : Cond.instanceMethod yX12_byteAt ∈ gG := gG_in (tin4 (List.mem_of_getElem? (i := 231) rfl)) rfl
theorem wsX12_byteAt : Cond.selects RX12 yX12_byteAt yX12_byteAt ∈ gG := gG_in (tinp (List.mem_of_getElem? (i := 32) rfl)) rfl
theorem wfX12_117 : Cond.fieldLink RX12 117 (TX12 12).1 (TX12 12).2.1 (TX12 12).2.2.1 ∈ gG := gG_in (tin4 (List.mem_of_getElem? (i := 54) rfl)) rfl
theorem wfX12_120 : Cond.fieldLink RX12 120 (TX12 15).1 (TX12 15).2.1 (TX12 15).2.2.1 ∈ gG := gG_in (tin4 (List.mem_of_getElem? (i := 57) rfl)) rfl
theorem wcX12_isWord : Cond.code yX12_isWord cX12_isWord 9 (some .boolean) ∈ gG := gG_in (tin4 (List.mem_of_getElem? (i := 238) rfl)) rfl
theorem wnX12_isWord : Cond.instanceMethod yX12_isWord ∈ gG := gG_in (tin4 (List.mem_of_getElem? (i := 237) rfl)) rfl
theorem wsX12_isWord : Cond.selects RX12 yX12_isWord yX12_isWord ∈ gG := gG_in (tinp (List.mem_of_getElem? (i := 33) rfl)) rfl
theorem wmX12_123 : Cond.methodLink RX12 123 yX12_byteAt ∈ gG := gG_in (tin4 (List.mem_of_getElem? (i := 229) rfl)) rfl
theorem wfX12_127 : Cond.fieldLink RX12 127 (TX12 13).1 (TX12 13).2.1 (TX12 13).2.2.1 ∈ gG := gG_in (tin4 (List.mem_of_getElem? (i := 55) rfl)) rfl
theorem wfX12_130 : Cond.fieldLink RX12 130 (TX12 14).1 (TX12 14).2.1 (TX12 14).2.2.1 ∈ gG := gG_in (tin4 (List.mem_of_getElem? (i := 56) rfl)) rfl
theorem wlX12_133 : Cond.constantLong RX12 133 97 ∈ gG := gG_in (tin4 (List.mem_of_getElem? (i := 233) rfl)) rfl
theorem wlX12_135 : Cond.constantLong RX12 135 122 ∈ gG := gG_in (tin4 (List.mem_of_getElem? (i := 234) rfl)) rfl
theorem wlX12_141 : Cond.constantLong RX12 141 48 ∈ gG := gG_in (tin4 (List.mem_of_getElem? (i := 239) rfl)) rfl
theorem wlX12_143 : Cond.constantLong RX12 143 57 ∈ gG := gG_in (tin5 (List.mem_of_getElem? (i := 0) rfl)) rfl
theorem wmX12_137 : Cond.methodLink RX12 137 yX12_isWord ∈ gG := gG_in (tin4 (List.mem_of_getElem? (i := 235) rfl)) rfl
theorem wcX12_nextToken : Cond.code yX12_nextToken cX12_nextToken 1 none ∈ gG := gG_in (tin4 (List.mem_of_getElem? (i := 228) rfl)) rfl
theorem wnX12_nextToken : Cond.instanceMethod yX12_nextToken ∈ gG := gG_in (tin4 (List.mem_of_getElem? (i := 227) rfl)) rfl
theorem wsX12_nextToken : Cond.selects RX12 yX12_nextToken yX12_nextToken ∈ gG := gG_in (tinp (List.mem_of_getElem? (i := 31) rfl)) rfl
theorem wmX12_145 : Cond.methodLink RX12 145 yX12_nextToken ∈ gG := gG_in (tin4 (List.mem_of_getElem? (i := 225) rfl)) rfl
theorem wcX12_number : Cond.code yX12_number cX12_number 3 (some .boolean) ∈ gG := gG_in (tin5 (List.mem_of_getElem? (i := 4) rfl)) rfl
theorem wnX12_number : Cond.instanceMethod yX12_number ∈ gG := gG_in (tin5 (List.mem_of_getElem? (i := 3) rfl)) rfl
theorem wsX12_number : Cond.selects RX12 yX12_number yX12_number ∈ gG := gG_in (tinp (List.mem_of_getElem? (i := 34) rfl)) rfl
theorem wmX12_148 : Cond.methodLink RX12 148 yX12_number ∈ gG := gG_in (tin5 (List.mem_of_getElem? (i := 1) rfl)) rfl
theorem wfX12_33 : Cond.fieldLink RX12 33 (TX12 16).1 (TX12 16).2.1 (TX12 16).2.2.1 ∈ gG := gG_in (tin4 (List.mem_of_getElem? (i := 58) rfl)) rfl
theorem wlX12_151 : Cond.constantLong RX12 151 11 ∈ gG := gG_in (tin5 (List.mem_of_getElem? (i := 9) rfl)) rfl
theorem wcX12_readNote : Cond.code yX12_readNote cX12_readNote 4 (some .boolean) ∈ gG := gG_in (tin5 (List.mem_of_getElem? (i := 8) rfl)) rfl
theorem wnX12_readNote : Cond.instanceMethod yX12_readNote ∈ gG := gG_in (tin5 (List.mem_of_getElem? (i := 7) rfl)) rfl
theorem wsX12_readNote : Cond.selects RX12 yX12_readNote yX12_readNote ∈ gG := gG_in (tinp (List.mem_of_getElem? (i := 35) rfl)) rfl
theorem wfX12_153 : Cond.fieldLink RX12 153 (TX12 17).1 (TX12 17).2.1 (TX12 17).2.2.1 ∈ gG := gG_in (tin4 (List.mem_of_getElem? (i := 59) rfl)) rfl
theorem wfX12_156 : Cond.fieldLink RX12 156 (TX12 19).1 (TX12 19).2.1 (TX12 19).2.2.1 ∈ gG := gG_in (tin4 (List.mem_of_getElem? (i := 61) rfl)) rfl
theorem wfX12_159 : Cond.fieldLink RX12 159 (TX12 20).1 (TX12 20).2.1 (TX12 20).2.2.1 ∈ gG := gG_in (tin4 (List.mem_of_getElem? (i := 62) rfl)) rfl
theorem wfX12_162 : Cond.fieldLink RX12 162 (TX12 18).1 (TX12 18).2.1 (TX12 18).2.2.1 ∈ gG := gG_in (tin4 (List.mem_of_getElem? (i := 60) rfl)) rfl
theorem wmX12_165 : Cond.methodLink RX12 165 yX12_readNote ∈ gG := gG_in (tin5 (List.mem_of_getElem? (i := 5) rfl)) rfl
theorem wcX12_readPad : Cond.code yX12_readPad cX12_readPad 4 (some .boolean) ∈ gG := gG_in (tin4 (List.mem_of_getElem? (i := 224) rfl)) rfl
theorem wnX12_readPad : Cond.instanceMethod yX12_readPad ∈ gG := gG_in (tin4 (List.mem_of_getElem? (i := 223) rfl)) rfl
theorem wsX12_readPad : Cond.selects RX12 yX12_readPad yX12_readPad ∈ gG := gG_in (tinp (List.mem_of_getElem? (i := 30) rfl)) rfl
theorem wmX12_168 : Cond.methodLink RX12 168 yX12_readPad ∈ gG := gG_in (tin4 (List.mem_of_getElem? (i := 221) rfl)) rfl
theorem wcX12_read : Cond.code yX12_read cX12_read 3 (some .int) ∈ gG := gG_in (tin4 (List.mem_of_getElem? (i := 220) rfl)) rfl
theorem wnX12_read : Cond.instanceMethod yX12_read ∈ gG := gG_in (tin4 (List.mem_of_getElem? (i := 218) rfl)) rfl
theorem wsX12_read : Cond.selects RX12 yX12_read yX12_read ∈ gG := gG_in (tin4 (List.mem_of_getElem? (i := 219) rfl)) rfl
theorem wcX12_writtenOn : Cond.code yX12_writtenOn cX12_writtenOn 4 (some .int) ∈ gG := gG_in (tin5 (List.mem_of_getElem? (i := 25) rfl)) rfl
theorem wnX12_writtenOn : Cond.instanceMethod yX12_writtenOn ∈ gG := gG_in (tin5 (List.mem_of_getElem? (i := 24) rfl)) rfl
theorem wsX12_writtenOn : Cond.selects RX12 yX12_writtenOn yX12_writtenOn ∈ gG := gG_in (tinp (List.mem_of_getElem? (i := 38) rfl)) rfl
theorem wmX12_172 : Cond.methodLink RX12 172 yX12_isSheet ∈ gG := gG_in (tin5 (List.mem_of_getElem? (i := 14) rfl)) rfl
theorem wmX12_178 : Cond.methodLink RX12 178 yX12_writtenOn ∈ gG := gG_in (tin5 (List.mem_of_getElem? (i := 22) rfl)) rfl
theorem wmX12_175 : Cond.methodLink RX12 175 yX12_badLess ∈ gG := gG_in (tin5 (List.mem_of_getElem? (i := 18) rfl)) rfl
theorem wcX12_of : Cond.code yX12_of cX12_of 3 (some .int) ∈ gG := gG_in (tin5 (List.mem_of_getElem? (i := 13) rfl)) rfl
theorem wnX12_of : Cond.instanceMethod yX12_of ∈ gG := gG_in (tin5 (List.mem_of_getElem? (i := 11) rfl)) rfl
theorem wsX12_of : Cond.selects RX12 yX12_of yX12_of ∈ gG := gG_in (tin5 (List.mem_of_getElem? (i := 12) rfl)) rfl
theorem wcX12_dentOf : Cond.code yX12_dentOf cX12_dentOf 3 (some .int) ∈ gG := gG_in (tin5 (List.mem_of_getElem? (i := 33) rfl)) rfl
theorem wnX12_dentOf : Cond.instanceMethod yX12_dentOf ∈ gG := gG_in (tin5 (List.mem_of_getElem? (i := 32) rfl)) rfl
theorem wsX12_dentOf : Cond.selects RX12 yX12_dentOf yX12_dentOf ∈ gG := gG_in (tinp (List.mem_of_getElem? (i := 39) rfl)) rfl
theorem wmX12_181 : Cond.methodLink RX12 181 yX12_dentOf ∈ gG := gG_in (tin5 (List.mem_of_getElem? (i := 30) rfl)) rfl
theorem wcX12_dent : Cond.code yX12_dent cX12_dent 3 (some .int) ∈ gG := gG_in (tin5 (List.mem_of_getElem? (i := 29) rfl)) rfl
theorem wnX12_dent : Cond.instanceMethod yX12_dent ∈ gG := gG_in (tin5 (List.mem_of_getElem? (i := 27) rfl)) rfl
theorem wsX12_dent : Cond.selects RX12 yX12_dent yX12_dent ∈ gG := gG_in (tin5 (List.mem_of_getElem? (i := 28) rfl)) rfl
theorem wcX12_about : Cond.code yX12_about cX12_about 4 (some .int) ∈ gG := gG_in (tin5 (List.mem_of_getElem? (i := 37) rfl)) rfl
theorem wnX12_about : Cond.instanceMethod yX12_about ∈ gG := gG_in (tin5 (List.mem_of_getElem? (i := 35) rfl)) rfl
theorem wsX12_about : Cond.selects RX12 yX12_about yX12_about ∈ gG := gG_in (tin5 (List.mem_of_getElem? (i := 36) rfl)) rfl
theorem wcX12_force : Cond.code yX12_force cX12_force 4 (some .int) ∈ gG := gG_in (tin5 (List.mem_of_getElem? (i := 41) rfl)) rfl
theorem wnX12_force : Cond.instanceMethod yX12_force ∈ gG := gG_in (tin5 (List.mem_of_getElem? (i := 39) rfl)) rfl
theorem wsX12_force : Cond.selects RX12 yX12_force yX12_force ∈ gG := gG_in (tin5 (List.mem_of_getElem? (i := 40) rfl)) rfl
theorem wcX12_forceIn : Cond.code yX12_forceIn cX12_forceIn 6 (some .int) ∈ gG := gG_in (tin5 (List.mem_of_getElem? (i := 53) rfl)) rfl
theorem wnX12_forceIn : Cond.instanceMethod yX12_forceIn ∈ gG := gG_in (tin5 (List.mem_of_getElem? (i := 52) rfl)) rfl
theorem wsX12_forceIn : Cond.selects RX12 yX12_forceIn yX12_forceIn ∈ gG := gG_in (tinp (List.mem_of_getElem? (i := 41) rfl)) rfl
theorem wmX12_184 : Cond.methodLink RX12 184 yX12_forceIn ∈ gG := gG_in (tin5 (List.mem_of_getElem? (i := 50) rfl)) rfl
theorem wcX12_whoseOf : Cond.code yX12_whoseOf cX12_whoseOf 4 (some .int) ∈ gG := gG_in (tin5 (List.mem_of_getElem? (i := 49) rfl)) rfl
theorem wnX12_whoseOf : Cond.instanceMethod yX12_whoseOf ∈ gG := gG_in (tin5 (List.mem_of_getElem? (i := 48) rfl)) rfl
theorem wsX12_whoseOf : Cond.selects RX12 yX12_whoseOf yX12_whoseOf ∈ gG := gG_in (tinp (List.mem_of_getElem? (i := 40) rfl)) rfl
theorem wmX12_187 : Cond.methodLink RX12 187 yX12_whoseOf ∈ gG := gG_in (tin5 (List.mem_of_getElem? (i := 46) rfl)) rfl
theorem wcX12_whose : Cond.code yX12_whose cX12_whose 2 (some .int) ∈ gG := gG_in (tin5 (List.mem_of_getElem? (i := 45) rfl)) rfl
theorem wnX12_whose : Cond.instanceMethod yX12_whose ∈ gG := gG_in (tin5 (List.mem_of_getElem? (i := 43) rfl)) rfl
theorem wsX12_whose : Cond.selects RX12 yX12_whose yX12_whose ∈ gG := gG_in (tin5 (List.mem_of_getElem? (i := 44) rfl)) rfl
theorem wcX12_own : Cond.code yX12_own cX12_own 7 (some .int) ∈ gG := gG_in (tin5 (List.mem_of_getElem? (i := 57) rfl)) rfl
theorem wnX12_own : Cond.instanceMethod yX12_own ∈ gG := gG_in (tin5 (List.mem_of_getElem? (i := 55) rfl)) rfl
theorem wsX12_own : Cond.selects RX12 yX12_own yX12_own ∈ gG := gG_in (tin5 (List.mem_of_getElem? (i := 56) rfl)) rfl
theorem wcX12_shown : Cond.code yX12_shown cX12_shown 5 (some .int) ∈ gG := gG_in (tin5 (List.mem_of_getElem? (i := 61) rfl)) rfl
theorem wnX12_shown : Cond.instanceMethod yX12_shown ∈ gG := gG_in (tin5 (List.mem_of_getElem? (i := 59) rfl)) rfl
theorem wsX12_shown : Cond.selects RX12 yX12_shown yX12_shown ∈ gG := gG_in (tin5 (List.mem_of_getElem? (i := 60) rfl)) rfl
theorem wcX12_explained : Cond.code yX12_explained cX12_explained 7 (some .int) ∈ gG := gG_in (tin5 (List.mem_of_getElem? (i := 78) rfl)) rfl
theorem wnX12_explained : Cond.instanceMethod yX12_explained ∈ gG := gG_in (tin5 (List.mem_of_getElem? (i := 77) rfl)) rfl
theorem wsX12_explained : Cond.selects RX12 yX12_explained yX12_explained ∈ gG := gG_in (tinp (List.mem_of_getElem? (i := 44) rfl)) rfl
theorem wfX12_190 : Cond.fieldLink RX12 190 (TX12 21).1 (TX12 21).2.1 (TX12 21).2.2.1 ∈ gG := gG_in (tin4 (List.mem_of_getElem? (i := 63) rfl)) rfl
theorem wfX12_193 : Cond.fieldLink RX12 193 (TX12 22).1 (TX12 22).2.1 (TX12 22).2.2.1 ∈ gG := gG_in (tin4 (List.mem_of_getElem? (i := 64) rfl)) rfl
theorem wmX12_196 : Cond.methodLink RX12 196 yX12_explained ∈ gG := gG_in (tin5 (List.mem_of_getElem? (i := 75) rfl)) rfl
theorem wcX12_isLost : Cond.code yX12_isLost cX12_isLost 8 (some .boolean) ∈ gG := gG_in (tin5 (List.mem_of_getElem? (i := 74) rfl)) rfl
theorem wnX12_isLost : Cond.instanceMethod yX12_isLost ∈ gG := gG_in (tin5 (List.mem_of_getElem? (i := 73) rfl)) rfl
theorem wsX12_isLost : Cond.selects RX12 yX12_isLost yX12_isLost ∈ gG := gG_in (tinp (List.mem_of_getElem? (i := 43) rfl)) rfl
theorem wcX12_fits : Cond.code yX12_fits cX12_fits 2 (some .boolean) ∈ gG := gG_in (tin5 (List.mem_of_getElem? (i := 82) rfl)) rfl
theorem wnX12_fits : Cond.instanceMethod yX12_fits ∈ gG := gG_in (tin5 (List.mem_of_getElem? (i := 81) rfl)) rfl
theorem wsX12_fits : Cond.selects RX12 yX12_fits yX12_fits ∈ gG := gG_in (tinp (List.mem_of_getElem? (i := 45) rfl)) rfl
theorem wmX12_199 : Cond.methodLink RX12 199 yX12_areNotes ∈ gG := gG_in (tin5 (List.mem_of_getElem? (i := 66) rfl)) rfl
theorem wlX12_202 : Cond.constantLong RX12 202 3 ∈ gG := gG_in (tin5 (List.mem_of_getElem? (i := 70) rfl)) rfl
theorem wmX12_204 : Cond.methodLink RX12 204 yX12_isLost ∈ gG := gG_in (tin5 (List.mem_of_getElem? (i := 71) rfl)) rfl
theorem wmX12_208 : Cond.methodLink RX12 208 yX12_fits ∈ gG := gG_in (tin5 (List.mem_of_getElem? (i := 79) rfl)) rfl
theorem wmX12_211 : Cond.methodLink RX12 211 yX12_ones ∈ gG := gG_in (tin5 (List.mem_of_getElem? (i := 83) rfl)) rfl
theorem wcX12_lost : Cond.code yX12_lost cX12_lost 10 (some .int) ∈ gG := gG_in (tin5 (List.mem_of_getElem? (i := 65) rfl)) rfl
theorem wnX12_lost : Cond.instanceMethod yX12_lost ∈ gG := gG_in (tin5 (List.mem_of_getElem? (i := 63) rfl)) rfl
theorem wsX12_lost : Cond.selects RX12 yX12_lost yX12_lost ∈ gG := gG_in (tin5 (List.mem_of_getElem? (i := 64) rfl)) rfl
theorem wcX12_pen : Cond.code yX12_pen cX12_pen 10 (some .int) ∈ gG := gG_in (tin5 (List.mem_of_getElem? (i := 89) rfl)) rfl
theorem wnX12_pen : Cond.instanceMethod yX12_pen ∈ gG := gG_in (tin5 (List.mem_of_getElem? (i := 87) rfl)) rfl
theorem wsX12_pen : Cond.selects RX12 yX12_pen yX12_pen ∈ gG := gG_in (tin5 (List.mem_of_getElem? (i := 88) rfl)) rfl
theorem wfX12_36 : Cond.fieldLink RX12 36 (TX12 23).1 (TX12 23).2.1 (TX12 23).2.2.1 ∈ gG := gG_in (tin4 (List.mem_of_getElem? (i := 65) rfl)) rfl
theorem wcX12_exchange : Cond.code yX12_exchange cX12_exchange 4 none ∈ gG := gG_in (tin5 (List.mem_of_getElem? (i := 109) rfl)) rfl
theorem wnX12_exchange : Cond.instanceMethod yX12_exchange ∈ gG := gG_in (tin5 (List.mem_of_getElem? (i := 108) rfl)) rfl
theorem wsX12_exchange : Cond.selects RX12 yX12_exchange yX12_exchange ∈ gG := gG_in (tinp (List.mem_of_getElem? (i := 49) rfl)) rfl
theorem wmX12_214 : Cond.methodLink RX12 214 yX12_exchange ∈ gG := gG_in (tin5 (List.mem_of_getElem? (i := 106) rfl)) rfl
theorem wcX12_nextRow : Cond.code yX12_nextRow cX12_nextRow 5 (some .boolean) ∈ gG := gG_in (tin5 (List.mem_of_getElem? (i := 105) rfl)) rfl
theorem wnX12_nextRow : Cond.instanceMethod yX12_nextRow ∈ gG := gG_in (tin5 (List.mem_of_getElem? (i := 104) rfl)) rfl
theorem wsX12_nextRow : Cond.selects RX12 yX12_nextRow yX12_nextRow ∈ gG := gG_in (tinp (List.mem_of_getElem? (i := 48) rfl)) rfl
theorem wcX12_placeOf : Cond.code yX12_placeOf cX12_placeOf 3 (some .int) ∈ gG := gG_in (tin5 (List.mem_of_getElem? (i := 101) rfl)) rfl
theorem wnX12_placeOf : Cond.instanceMethod yX12_placeOf ∈ gG := gG_in (tin5 (List.mem_of_getElem? (i := 100) rfl)) rfl
theorem wsX12_placeOf : Cond.selects RX12 yX12_placeOf yX12_placeOf ∈ gG := gG_in (tinp (List.mem_of_getElem? (i := 47) rfl)) rfl
theorem wmX12_218 : Cond.methodLink RX12 218 yX12_placeOf ∈ gG := gG_in (tin5 (List.mem_of_getElem? (i := 98) rfl)) rfl
theorem wcX12_isRow : Cond.code yX12_isRow cX12_isRow 8 (some .boolean) ∈ gG := gG_in (tin5 (List.mem_of_getElem? (i := 97) rfl)) rfl
theorem wnX12_isRow : Cond.instanceMethod yX12_isRow ∈ gG := gG_in (tin5 (List.mem_of_getElem? (i := 96) rfl)) rfl
theorem wsX12_isRow : Cond.selects RX12 yX12_isRow yX12_isRow ∈ gG := gG_in (tinp (List.mem_of_getElem? (i := 46) rfl)) rfl
theorem wmX12_221 : Cond.methodLink RX12 221 yX12_isRow ∈ gG := gG_in (tin5 (List.mem_of_getElem? (i := 94) rfl)) rfl
theorem wmX12_224 : Cond.methodLink RX12 224 yX12_nextRow ∈ gG := gG_in (tin5 (List.mem_of_getElem? (i := 102) rfl)) rfl
theorem wfX12_39 : Cond.fieldLink RX12 39 (TX12 24).1 (TX12 24).2.1 (TX12 24).2.2.1 ∈ gG := gG_in (tin4 (List.mem_of_getElem? (i := 66) rfl)) rfl
theorem wcX12_orders : Cond.code yX12_orders cX12_orders 5 (some .int) ∈ gG := gG_in (tin5 (List.mem_of_getElem? (i := 93) rfl)) rfl
theorem wnX12_orders : Cond.instanceMethod yX12_orders ∈ gG := gG_in (tin5 (List.mem_of_getElem? (i := 91) rfl)) rfl
theorem wsX12_orders : Cond.selects RX12 yX12_orders yX12_orders ∈ gG := gG_in (tin5 (List.mem_of_getElem? (i := 92) rfl)) rfl
theorem wcX12_press : Cond.code yX12_press cX12_press 4 (some .int) ∈ gG := gG_in (tin5 (List.mem_of_getElem? (i := 113) rfl)) rfl
theorem wnX12_press : Cond.instanceMethod yX12_press ∈ gG := gG_in (tin5 (List.mem_of_getElem? (i := 111) rfl)) rfl
theorem wsX12_press : Cond.selects RX12 yX12_press yX12_press ∈ gG := gG_in (tin5 (List.mem_of_getElem? (i := 112) rfl)) rfl
theorem wcX12_copies : Cond.code yX12_copies cX12_copies 9 (some .int) ∈ gG := gG_in (tin5 (List.mem_of_getElem? (i := 117) rfl)) rfl
theorem wnX12_copies : Cond.instanceMethod yX12_copies ∈ gG := gG_in (tin5 (List.mem_of_getElem? (i := 115) rfl)) rfl
theorem wsX12_copies : Cond.selects RX12 yX12_copies yX12_copies ∈ gG := gG_in (tin5 (List.mem_of_getElem? (i := 116) rfl)) rfl
theorem wcX12_common : Cond.code yX12_common cX12_common 10 (some .long) ∈ gG := gG_in (tin5 (List.mem_of_getElem? (i := 125) rfl)) rfl
theorem wtX12_common : Cond.static yX12_common ∈ gG := gG_in (tin5 (List.mem_of_getElem? (i := 124) rfl)) rfl
theorem wfX12_227 : Cond.fieldLink RX12 227 (TX12 7).1 (TX12 7).2.1 (TX12 7).2.2.1 ∈ gG := gG_in (tin4 (List.mem_of_getElem? (i := 49) rfl)) rfl
theorem wfX12_23 : Cond.fieldLink RX12 23 (TX12 8).1 (TX12 8).2.1 (TX12 8).2.2.1 ∈ gG := gG_in (tin4 (List.mem_of_getElem? (i := 50) rfl)) rfl
theorem wlX12_230 : Cond.constantLong RX12 230 10 ∈ gG := gG_in (tin5 (List.mem_of_getElem? (i := 122) rfl)) rfl
theorem wmX12_232 : Cond.methodLink RX12 232 yX12_common ∈ gG := gG_in (tin5 (List.mem_of_getElem? (i := 123) rfl)) rfl
theorem wcX12_rub : Cond.code yX12_rub cX12_rub 6 (some .int) ∈ gG := gG_in (tin5 (List.mem_of_getElem? (i := 121) rfl)) rfl
theorem wnX12_rub : Cond.instanceMethod yX12_rub ∈ gG := gG_in (tin5 (List.mem_of_getElem? (i := 119) rfl)) rfl
theorem wsX12_rub : Cond.selects RX12 yX12_rub yX12_rub ∈ gG := gG_in (tin5 (List.mem_of_getElem? (i := 120) rfl)) rfl
theorem wcX12_torn : Cond.code yX12_torn cX12_torn 3 (some .int) ∈ gG := gG_in (tin5 (List.mem_of_getElem? (i := 129) rfl)) rfl
theorem wnX12_torn : Cond.instanceMethod yX12_torn ∈ gG := gG_in (tin5 (List.mem_of_getElem? (i := 127) rfl)) rfl
theorem wsX12_torn : Cond.selects RX12 yX12_torn yX12_torn ∈ gG := gG_in (tin5 (List.mem_of_getElem? (i := 128) rfl)) rfl
theorem wfX12_236 : Cond.fieldLink RX12 236 (TX12 26).1 (TX12 26).2.1 (TX12 26).2.2.1 ∈ gG := gG_in (tin4 (List.mem_of_getElem? (i := 68) rfl)) rfl
theorem wlX12_239 : Cond.constantLong RX12 239 1103515245 ∈ gG := gG_in (tin5 (List.mem_of_getElem? (i := 140) rfl)) rfl
theorem wlX12_241 : Cond.constantLong RX12 241 12345 ∈ gG := gG_in (tin5 (List.mem_of_getElem? (i := 141) rfl)) rfl
theorem wlX12_243 : Cond.constantLong RX12 243 2147483648 ∈ gG := gG_in (tin5 (List.mem_of_getElem? (i := 142) rfl)) rfl
theorem wlX12_245 : Cond.constantLong RX12 245 65536 ∈ gG := gG_in (tin5 (List.mem_of_getElem? (i := 143) rfl)) rfl
theorem wcX12_draw : Cond.code yX12_draw cX12_draw 2 (some .int) ∈ gG := gG_in (tin5 (List.mem_of_getElem? (i := 139) rfl)) rfl
theorem wnX12_draw : Cond.instanceMethod yX12_draw ∈ gG := gG_in (tin5 (List.mem_of_getElem? (i := 138) rfl)) rfl
theorem wsX12_draw : Cond.selects RX12 yX12_draw yX12_draw ∈ gG := gG_in (tinp (List.mem_of_getElem? (i := 50) rfl)) rfl
theorem wlX12_247 : Cond.constantLong RX12 247 999999 ∈ gG := gG_in (tin5 (List.mem_of_getElem? (i := 134) rfl)) rfl
theorem wlX12_249 : Cond.constantLong RX12 249 20 ∈ gG := gG_in (tin5 (List.mem_of_getElem? (i := 135) rfl)) rfl
theorem wfX12_42 : Cond.fieldLink RX12 42 (TX12 25).1 (TX12 25).2.1 (TX12 25).2.2.1 ∈ gG := gG_in (tin4 (List.mem_of_getElem? (i := 67) rfl)) rfl
theorem wmX12_251 : Cond.methodLink RX12 251 yX12_draw ∈ gG := gG_in (tin5 (List.mem_of_getElem? (i := 136) rfl)) rfl
theorem wcX12_drawn : Cond.code yX12_drawn cX12_drawn 6 (some .int) ∈ gG := gG_in (tin5 (List.mem_of_getElem? (i := 133) rfl)) rfl
theorem wnX12_drawn : Cond.instanceMethod yX12_drawn ∈ gG := gG_in (tin5 (List.mem_of_getElem? (i := 131) rfl)) rfl
theorem wsX12_drawn : Cond.selects RX12 yX12_drawn yX12_drawn ∈ gG := gG_in (tin5 (List.mem_of_getElem? (i := 132) rfl)) rfl
theorem wcX12_part : Cond.code yX12_part cX12_part 2 (some .long) ∈ gG := gG_in (tin5 (List.mem_of_getElem? (i := 147) rfl)) rfl
theorem wnX12_part : Cond.instanceMethod yX12_part ∈ gG := gG_in (tin5 (List.mem_of_getElem? (i := 145) rfl)) rfl
theorem wsX12_part : Cond.selects RX12 yX12_part yX12_part ∈ gG := gG_in (tin5 (List.mem_of_getElem? (i := 146) rfl)) rfl
theorem wcX12_carry : Cond.code yX12_carry cX12_carry 7 none ∈ gG := gG_in (tin5 (List.mem_of_getElem? (i := 155) rfl)) rfl
theorem wnX12_carry : Cond.instanceMethod yX12_carry ∈ gG := gG_in (tin5 (List.mem_of_getElem? (i := 154) rfl)) rfl
theorem wsX12_carry : Cond.selects RX12 yX12_carry yX12_carry ∈ gG := gG_in (tinp (List.mem_of_getElem? (i := 51) rfl)) rfl
theorem wfX12_49 : Cond.fieldLink RX12 49 (TX12 28).1 (TX12 28).2.1 (TX12 28).2.2.1 ∈ gG := gG_in (tin4 (List.mem_of_getElem? (i := 70) rfl)) rfl
theorem wmX12_254 : Cond.methodLink RX12 254 yX12_carry ∈ gG := gG_in (tin5 (List.mem_of_getElem? (i := 152) rfl)) rfl
theorem wfX12_45 : Cond.fieldLink RX12 45 (TX12 27).1 (TX12 27).2.1 (TX12 27).2.2.1 ∈ gG := gG_in (tin4 (List.mem_of_getElem? (i := 69) rfl)) rfl
theorem wcX12_image : Cond.code yX12_image cX12_image 3 (some .int) ∈ gG := gG_in (tin5 (List.mem_of_getElem? (i := 151) rfl)) rfl
theorem wnX12_image : Cond.instanceMethod yX12_image ∈ gG := gG_in (tin5 (List.mem_of_getElem? (i := 149) rfl)) rfl
theorem wsX12_image : Cond.selects RX12 yX12_image yX12_image ∈ gG := gG_in (tin5 (List.mem_of_getElem? (i := 150) rfl)) rfl
theorem wcX12_from : Cond.code yX12_from cX12_from 3 (some .int) ∈ gG := gG_in (tin5 (List.mem_of_getElem? (i := 159) rfl)) rfl
theorem wnX12_from : Cond.instanceMethod yX12_from ∈ gG := gG_in (tin5 (List.mem_of_getElem? (i := 157) rfl)) rfl
theorem wsX12_from : Cond.selects RX12 yX12_from yX12_from ∈ gG := gG_in (tin5 (List.mem_of_getElem? (i := 158) rfl)) rfl
theorem wlX12_258 : Cond.constantLong RX12 258 2 ∈ gG := gG_in (tin5 (List.mem_of_getElem? (i := 164) rfl)) rfl
theorem wcX12_status : Cond.code yX12_status cX12_status 2 (some .int) ∈ gG := gG_in (tin5 (List.mem_of_getElem? (i := 163) rfl)) rfl
theorem wnX12_status : Cond.instanceMethod yX12_status ∈ gG := gG_in (tin5 (List.mem_of_getElem? (i := 161) rfl)) rfl
theorem wsX12_status : Cond.selects RX12 yX12_status yX12_status ∈ gG := gG_in (tin5 (List.mem_of_getElem? (i := 162) rfl)) rfl
theorem wcX12_countOf : Cond.code yX12_countOf cX12_countOf 2 (some .int) ∈ gG := gG_in (tin5 (List.mem_of_getElem? (i := 172) rfl)) rfl
theorem wnX12_countOf : Cond.instanceMethod yX12_countOf ∈ gG := gG_in (tin5 (List.mem_of_getElem? (i := 171) rfl)) rfl
theorem wsX12_countOf : Cond.selects RX12 yX12_countOf yX12_countOf ∈ gG := gG_in (tinp (List.mem_of_getElem? (i := 52) rfl)) rfl
theorem wmX12_260 : Cond.methodLink RX12 260 yX12_countOf ∈ gG := gG_in (tin5 (List.mem_of_getElem? (i := 169) rfl)) rfl
theorem wcX12_count : Cond.code yX12_count cX12_count 2 (some .int) ∈ gG := gG_in (tin5 (List.mem_of_getElem? (i := 168) rfl)) rfl
theorem wnX12_count : Cond.instanceMethod yX12_count ∈ gG := gG_in (tin5 (List.mem_of_getElem? (i := 166) rfl)) rfl
theorem wsX12_count : Cond.selects RX12 yX12_count yX12_count ∈ gG := gG_in (tin5 (List.mem_of_getElem? (i := 167) rfl)) rfl
theorem wlX12_263 : Cond.constantLong RX12 263 31 ∈ gG := gG_in (tin5 (List.mem_of_getElem? (i := 182) rfl)) rfl
theorem wfX12_265 : Cond.fieldLink RX12 265 (TX12 29).1 (TX12 29).2.1 (TX12 29).2.2.1 ∈ gG := gG_in (tin4 (List.mem_of_getElem? (i := 71) rfl)) rfl
theorem wcX12_mix : Cond.code yX12_mix cX12_mix 3 none ∈ gG := gG_in (tin5 (List.mem_of_getElem? (i := 181) rfl)) rfl
theorem wnX12_mix : Cond.instanceMethod yX12_mix ∈ gG := gG_in (tin5 (List.mem_of_getElem? (i := 180) rfl)) rfl
theorem wsX12_mix : Cond.selects RX12 yX12_mix yX12_mix ∈ gG := gG_in (tinp (List.mem_of_getElem? (i := 53) rfl)) rfl
theorem wlX12_268 : Cond.constantLong RX12 268 919 ∈ gG := gG_in (tin5 (List.mem_of_getElem? (i := 177) rfl)) rfl
theorem wmX12_270 : Cond.methodLink RX12 270 yX12_mix ∈ gG := gG_in (tin5 (List.mem_of_getElem? (i := 178) rfl)) rfl
theorem wcX12_digest : Cond.code yX12_digest cX12_digest 3 (some .long) ∈ gG := gG_in (tin5 (List.mem_of_getElem? (i := 176) rfl)) rfl
theorem wnX12_digest : Cond.instanceMethod yX12_digest ∈ gG := gG_in (tin5 (List.mem_of_getElem? (i := 174) rfl)) rfl
theorem wsX12_digest : Cond.selects RX12 yX12_digest yX12_digest ∈ gG := gG_in (tin5 (List.mem_of_getElem? (i := 175) rfl)) rfl
theorem wyX11_0 : Cond.laysFinal "PressedPad" "PressedPad" "box" "LPressedPad$PenBox;" ∈ gG := gG_in (tin1 (List.mem_of_getElem? (i := 231) rfl)) rfl
theorem wyX11_1 : Cond.laysFinal "PressedPad" "PressedPad" "now" "LPressedPad$Pad;" ∈ gG := gG_in (tin1 (List.mem_of_getElem? (i := 233) rfl)) rfl
theorem wyX11_2 : Cond.laysFinal "PressedPad" "PressedPad" "draft" "LPressedPad$Pad;" ∈ gG := gG_in (tin1 (List.mem_of_getElem? (i := 235) rfl)) rfl
theorem wyX11_3 : Cond.laysFinal "PressedPad" "PressedPad" "firstImage" "LPressedPad$Pad;" ∈ gG := gG_in (tin1 (List.mem_of_getElem? (i := 237) rfl)) rfl
theorem wyX11_4 : Cond.laysFinal "PressedPad" "PressedPad" "secondImage" "LPressedPad$Pad;" ∈ gG := gG_in (tin1 (List.mem_of_getElem? (i := 239) rfl)) rfl
theorem wyX11_5 : Cond.laysFinal "PressedPad" "PressedPad" "trace" "LPressedPad$Lost;" ∈ gG := gG_in (tin2 (List.mem_of_getElem? (i := 1) rfl)) rfl
theorem wyX11_6 : Cond.laysFinal "PressedPad" "PressedPad" "rows" "LPressedPad$Rows;" ∈ gG := gG_in (tin2 (List.mem_of_getElem? (i := 3) rfl)) rfl
theorem wyX11_7 : Cond.laysFinal "PressedPad" "PressedPad" "reader" "LPressedPad$Reader;" ∈ gG := gG_in (tin2 (List.mem_of_getElem? (i := 5) rfl)) rfl
theorem wyX11_8 : Cond.laysFinal "PressedPad" "PressedPad" "lastDents" "[I" ∈ gG := gG_in (tin2 (List.mem_of_getElem? (i := 7) rfl)) rfl
theorem wyX11_9 : Cond.lays "PressedPad" "PressedPad" "keptImages" "I" ∈ gG := gG_in (tin2 (List.mem_of_getElem? (i := 9) rfl)) rfl
theorem wyX11_10 : Cond.lays "PressedPad" "PressedPad" "above" "J" ∈ gG := gG_in (tin2 (List.mem_of_getElem? (i := 11) rfl)) rfl
theorem wyX11_11 : Cond.lays "PressedPad" "PressedPad" "below" "J" ∈ gG := gG_in (tin2 (List.mem_of_getElem? (i := 13) rfl)) rfl
theorem wyX11_12 : Cond.lays "PressedPad" "PressedPad" "badCalls" "I" ∈ gG := gG_in (tin2 (List.mem_of_getElem? (i := 15) rfl)) rfl
theorem wyX11_13 : Cond.lays "PressedPad" "PressedPad" "noCalls" "I" ∈ gG := gG_in (tin2 (List.mem_of_getElem? (i := 17) rfl)) rfl
theorem wyX11_14 : Cond.lays "PressedPad" "PressedPad" "fullCalls" "I" ∈ gG := gG_in (tin2 (List.mem_of_getElem? (i := 19) rfl)) rfl
theorem wyX12_0 : Cond.lays "PressedPadModel" "PressedPadModel" "sheets" "I" ∈ gG := gG_in (tin4 (List.mem_of_getElem? (i := 72) rfl)) rfl
theorem wyX12_1 : Cond.lays "PressedPadModel" "PressedPadModel" "carbons" "I" ∈ gG := gG_in (tin4 (List.mem_of_getElem? (i := 74) rfl)) rfl
theorem wyX12_2 : Cond.laysFinal "PressedPadModel" "PressedPadModel" "words" "[I" ∈ gG := gG_in (tin4 (List.mem_of_getElem? (i := 76) rfl)) rfl
theorem wyX12_3 : Cond.lays "PressedPadModel" "PressedPadModel" "wordMany" "I" ∈ gG := gG_in (tin4 (List.mem_of_getElem? (i := 78) rfl)) rfl
theorem wyX12_4 : Cond.laysFinal "PressedPadModel" "PressedPadModel" "st" "[I" ∈ gG := gG_in (tin4 (List.mem_of_getElem? (i := 80) rfl)) rfl
theorem wyX12_5 : Cond.laysFinal "PressedPadModel" "PressedPadModel" "ahead" "[I" ∈ gG := gG_in (tin4 (List.mem_of_getElem? (i := 82) rfl)) rfl
theorem wyX12_6 : Cond.lays "PressedPadModel" "PressedPadModel" "undoMany" "I" ∈ gG := gG_in (tin4 (List.mem_of_getElem? (i := 84) rfl)) rfl
theorem wyX12_7 : Cond.lays "PressedPadModel" "PressedPadModel" "above" "J" ∈ gG := gG_in (tin4 (List.mem_of_getElem? (i := 86) rfl)) rfl
theorem wyX12_8 : Cond.lays "PressedPadModel" "PressedPadModel" "below" "J" ∈ gG := gG_in (tin4 (List.mem_of_getElem? (i := 88) rfl)) rfl
theorem wyX12_9 : Cond.laysFinal "PressedPadModel" "PressedPadModel" "refused" "[I" ∈ gG := gG_in (tin4 (List.mem_of_getElem? (i := 90) rfl)) rfl
theorem wyX12_10 : Cond.laysFinal "PressedPadModel" "PressedPadModel" "text" "[I" ∈ gG := gG_in (tin4 (List.mem_of_getElem? (i := 92) rfl)) rfl
theorem wyX12_11 : Cond.lays "PressedPadModel" "PressedPadModel" "bytes" "I" ∈ gG := gG_in (tin4 (List.mem_of_getElem? (i := 94) rfl)) rfl
theorem wyX12_12 : Cond.lays "PressedPadModel" "PressedPadModel" "place" "I" ∈ gG := gG_in (tin4 (List.mem_of_getElem? (i := 96) rfl)) rfl
theorem wyX12_13 : Cond.lays "PressedPadModel" "PressedPadModel" "token" "I" ∈ gG := gG_in (tin4 (List.mem_of_getElem? (i := 98) rfl)) rfl
theorem wyX12_14 : Cond.lays "PressedPadModel" "PressedPadModel" "value" "I" ∈ gG := gG_in (tin4 (List.mem_of_getElem? (i := 100) rfl)) rfl
theorem wyX12_15 : Cond.lays "PressedPadModel" "PressedPadModel" "begins" "I" ∈ gG := gG_in (tin4 (List.mem_of_getElem? (i := 102) rfl)) rfl
theorem wyX12_16 : Cond.laysFinal "PressedPadModel" "PressedPadModel" "read" "[I" ∈ gG := gG_in (tin4 (List.mem_of_getElem? (i := 104) rfl)) rfl
theorem wyX12_17 : Cond.lays "PressedPadModel" "PressedPadModel" "items" "I" ∈ gG := gG_in (tin4 (List.mem_of_getElem? (i := 106) rfl)) rfl
theorem wyX12_18 : Cond.lays "PressedPadModel" "PressedPadModel" "readSheets" "I" ∈ gG := gG_in (tin4 (List.mem_of_getElem? (i := 108) rfl)) rfl
theorem wyX12_19 : Cond.lays "PressedPadModel" "PressedPadModel" "readTorn" "I" ∈ gG := gG_in (tin4 (List.mem_of_getElem? (i := 110) rfl)) rfl
theorem wyX12_20 : Cond.lays "PressedPadModel" "PressedPadModel" "readNotes" "I" ∈ gG := gG_in (tin4 (List.mem_of_getElem? (i := 112) rfl)) rfl
theorem wyX12_21 : Cond.lays "PressedPadModel" "PressedPadModel" "must" "I" ∈ gG := gG_in (tin4 (List.mem_of_getElem? (i := 114) rfl)) rfl
theorem wyX12_22 : Cond.lays "PressedPadModel" "PressedPadModel" "may" "I" ∈ gG := gG_in (tin4 (List.mem_of_getElem? (i := 116) rfl)) rfl
theorem wyX12_23 : Cond.laysFinal "PressedPadModel" "PressedPadModel" "row" "[I" ∈ gG := gG_in (tin4 (List.mem_of_getElem? (i := 118) rfl)) rfl
theorem wyX12_24 : Cond.laysFinal "PressedPadModel" "PressedPadModel" "firstRow" "[I" ∈ gG := gG_in (tin4 (List.mem_of_getElem? (i := 120) rfl)) rfl
theorem wyX12_25 : Cond.laysFinal "PressedPadModel" "PressedPadModel" "aside" "[I" ∈ gG := gG_in (tin4 (List.mem_of_getElem? (i := 122) rfl)) rfl
theorem wyX12_26 : Cond.lays "PressedPadModel" "PressedPadModel" "drawn" "J" ∈ gG := gG_in (tin4 (List.mem_of_getElem? (i := 124) rfl)) rfl
theorem wyX12_27 : Cond.laysFinal "PressedPadModel" "PressedPadModel" "isKept" "[Z" ∈ gG := gG_in (tin4 (List.mem_of_getElem? (i := 126) rfl)) rfl
theorem wyX12_28 : Cond.laysFinal "PressedPadModel" "PressedPadModel" "kept" "[I" ∈ gG := gG_in (tin4 (List.mem_of_getElem? (i := 128) rfl)) rfl
theorem wyX12_29 : Cond.lays "PressedPadModel" "PressedPadModel" "sum" "J" ∈ gG := gG_in (tin4 (List.mem_of_getElem? (i := 130) rfl)) rfl
theorem wyX2_0 : Cond.laysFinal "PressedPad$Lost" "PressedPad$Lost" "seen" "[I" ∈ gG := gG_in (tin1 (List.mem_of_getElem? (i := 152) rfl)) rfl
theorem wyX2_1 : Cond.laysFinal "PressedPad$Lost" "PressedPad$Lost" "explained" "[I" ∈ gG := gG_in (tin1 (List.mem_of_getElem? (i := 154) rfl)) rfl
theorem wyX2_2 : Cond.lays "PressedPad$Lost" "PressedPad$Lost" "must" "I" ∈ gG := gG_in (tin1 (List.mem_of_getElem? (i := 156) rfl)) rfl
theorem wyX2_3 : Cond.lays "PressedPad$Lost" "PressedPad$Lost" "may" "I" ∈ gG := gG_in (tin1 (List.mem_of_getElem? (i := 158) rfl)) rfl
theorem wyX4_0 : Cond.laysFinal "PressedPad$Pad" "PressedPad$Pad" "page" "[I" ∈ gG := gG_in (tin1 (List.mem_of_getElem? (i := 114) rfl)) rfl
theorem wyX4_1 : Cond.laysFinal "PressedPad$Pad" "PressedPad$Pad" "earlier" "[I" ∈ gG := gG_in (tin1 (List.mem_of_getElem? (i := 116) rfl)) rfl
theorem wyX4_2 : Cond.lays "PressedPad$Pad" "PressedPad$Pad" "undoable" "I" ∈ gG := gG_in (tin1 (List.mem_of_getElem? (i := 118) rfl)) rfl
theorem wyX4_3 : Cond.lays "PressedPad$Pad" "PressedPad$Pad" "sheets" "I" ∈ gG := gG_in (tin1 (List.mem_of_getElem? (i := 120) rfl)) rfl
theorem wyX4_4 : Cond.lays "PressedPad$Pad" "PressedPad$Pad" "carbonBits" "I" ∈ gG := gG_in (tin1 (List.mem_of_getElem? (i := 122) rfl)) rfl
theorem wyX4_5 : Cond.laysFinal "PressedPad$Pad" "PressedPad$Pad" "noteKind" "[I" ∈ gG := gG_in (tin1 (List.mem_of_getElem? (i := 124) rfl)) rfl
theorem wyX4_6 : Cond.laysFinal "PressedPad$Pad" "PressedPad$Pad" "notePress" "[I" ∈ gG := gG_in (tin1 (List.mem_of_getElem? (i := 126) rfl)) rfl
theorem wyX4_7 : Cond.laysFinal "PressedPad$Pad" "PressedPad$Pad" "noteCells" "[I" ∈ gG := gG_in (tin1 (List.mem_of_getElem? (i := 128) rfl)) rfl
theorem wyX4_8 : Cond.laysFinal "PressedPad$Pad" "PressedPad$Pad" "noteSheet" "[I" ∈ gG := gG_in (tin1 (List.mem_of_getElem? (i := 130) rfl)) rfl
theorem wyX4_9 : Cond.laysFinal "PressedPad$Pad" "PressedPad$Pad" "noteForces" "[I" ∈ gG := gG_in (tin1 (List.mem_of_getElem? (i := 132) rfl)) rfl
theorem wyX4_10 : Cond.laysFinal "PressedPad$Pad" "PressedPad$Pad" "words" "[I" ∈ gG := gG_in (tin1 (List.mem_of_getElem? (i := 134) rfl)) rfl
theorem wyX4_11 : Cond.lays "PressedPad$Pad" "PressedPad$Pad" "wordCount" "I" ∈ gG := gG_in (tin1 (List.mem_of_getElem? (i := 136) rfl)) rfl
theorem wyX7_0 : Cond.laysFinal "PressedPad$Reader" "PressedPad$Reader" "text" "[I" ∈ gG := gG_in (tin1 (List.mem_of_getElem? (i := 199) rfl)) rfl
theorem wyX7_1 : Cond.lays "PressedPad$Reader" "PressedPad$Reader" "length" "I" ∈ gG := gG_in (tin1 (List.mem_of_getElem? (i := 201) rfl)) rfl
theorem wyX7_2 : Cond.lays "PressedPad$Reader" "PressedPad$Reader" "next" "I" ∈ gG := gG_in (tin1 (List.mem_of_getElem? (i := 203) rfl)) rfl
theorem wyX7_3 : Cond.lays "PressedPad$Reader" "PressedPad$Reader" "token" "I" ∈ gG := gG_in (tin1 (List.mem_of_getElem? (i := 205) rfl)) rfl
theorem wyX7_4 : Cond.lays "PressedPad$Reader" "PressedPad$Reader" "start" "I" ∈ gG := gG_in (tin1 (List.mem_of_getElem? (i := 207) rfl)) rfl
theorem wyX7_5 : Cond.lays "PressedPad$Reader" "PressedPad$Reader" "value" "I" ∈ gG := gG_in (tin1 (List.mem_of_getElem? (i := 209) rfl)) rfl
theorem wyX7_6 : Cond.lays "PressedPad$Reader" "PressedPad$Reader" "kind" "I" ∈ gG := gG_in (tin1 (List.mem_of_getElem? (i := 211) rfl)) rfl
theorem wyX7_7 : Cond.lays "PressedPad$Reader" "PressedPad$Reader" "press" "I" ∈ gG := gG_in (tin1 (List.mem_of_getElem? (i := 213) rfl)) rfl
theorem wyX8_0 : Cond.laysFinal "PressedPad$Rows" "PressedPad$Rows" "row" "[I" ∈ gG := gG_in (tin1 (List.mem_of_getElem? (i := 172) rfl)) rfl
theorem wyX8_1 : Cond.laysFinal "PressedPad$Rows" "PressedPad$Rows" "placeOf" "[I" ∈ gG := gG_in (tin1 (List.mem_of_getElem? (i := 174) rfl)) rfl
theorem wyX8_2 : Cond.laysFinal "PressedPad$Rows" "PressedPad$Rows" "shownAt" "[I" ∈ gG := gG_in (tin1 (List.mem_of_getElem? (i := 176) rfl)) rfl
theorem wyX8_3 : Cond.laysFinal "PressedPad$Rows" "PressedPad$Rows" "pressed" "[I" ∈ gG := gG_in (tin1 (List.mem_of_getElem? (i := 178) rfl)) rfl
theorem wyX8_4 : Cond.lays "PressedPad$Rows" "PressedPad$Rows" "found" "I" ∈ gG := gG_in (tin1 (List.mem_of_getElem? (i := 180) rfl)) rfl
theorem cuX11 : ∀ w ∈ u_ws RX11 TX11 15, w ∈ gG := List.forall_mem_cons.mpr ⟨wyX11_0, List.forall_mem_cons.mpr ⟨wyX11_1, List.forall_mem_cons.mpr ⟨wyX11_2, List.forall_mem_cons.mpr ⟨wyX11_3, List.forall_mem_cons.mpr ⟨wyX11_4, List.forall_mem_cons.mpr ⟨wyX11_5, List.forall_mem_cons.mpr ⟨wyX11_6, List.forall_mem_cons.mpr ⟨wyX11_7, List.forall_mem_cons.mpr ⟨wyX11_8, List.forall_mem_cons.mpr ⟨wyX11_9, List.forall_mem_cons.mpr ⟨wyX11_10, List.forall_mem_cons.mpr ⟨wyX11_11, List.forall_mem_cons.mpr ⟨wyX11_12, List.forall_mem_cons.mpr ⟨wyX11_13, List.forall_mem_cons.mpr ⟨wyX11_14, fun _ h => absurd h List.not_mem_nil⟩⟩⟩⟩⟩⟩⟩⟩⟩⟩⟩⟩⟩⟩⟩
theorem cuX12 : ∀ w ∈ u_ws RX12 TX12 30, w ∈ gG := List.forall_mem_cons.mpr ⟨wyX12_0, List.forall_mem_cons.mpr ⟨wyX12_1, List.forall_mem_cons.mpr ⟨wyX12_2, List.forall_mem_cons.mpr ⟨wyX12_3, List.forall_mem_cons.mpr ⟨wyX12_4, List.forall_mem_cons.mpr ⟨wyX12_5, List.forall_mem_cons.mpr ⟨wyX12_6, List.forall_mem_cons.mpr ⟨wyX12_7, List.forall_mem_cons.mpr ⟨wyX12_8, List.forall_mem_cons.mpr ⟨wyX12_9, List.forall_mem_cons.mpr ⟨wyX12_10, List.forall_mem_cons.mpr ⟨wyX12_11, List.forall_mem_cons.mpr ⟨wyX12_12, List.forall_mem_cons.mpr ⟨wyX12_13, List.forall_mem_cons.mpr ⟨wyX12_14, List.forall_mem_cons.mpr ⟨wyX12_15, List.forall_mem_cons.mpr ⟨wyX12_16, List.forall_mem_cons.mpr ⟨wyX12_17, List.forall_mem_cons.mpr ⟨wyX12_18, List.forall_mem_cons.mpr ⟨wyX12_19, List.forall_mem_cons.mpr ⟨wyX12_20, List.forall_mem_cons.mpr ⟨wyX12_21, List.forall_mem_cons.mpr ⟨wyX12_22, List.forall_mem_cons.mpr ⟨wyX12_23, List.forall_mem_cons.mpr ⟨wyX12_24, List.forall_mem_cons.mpr ⟨wyX12_25, List.forall_mem_cons.mpr ⟨wyX12_26, List.forall_mem_cons.mpr ⟨wyX12_27, List.forall_mem_cons.mpr ⟨wyX12_28, List.forall_mem_cons.mpr ⟨wyX12_29, fun _ h => absurd h List.not_mem_nil⟩⟩⟩⟩⟩⟩⟩⟩⟩⟩⟩⟩⟩⟩⟩⟩⟩⟩⟩⟩⟩⟩⟩⟩⟩⟩⟩⟩⟩⟩
theorem cuX2 : ∀ w ∈ u_ws RX2 TX2 4, w ∈ gG := List.forall_mem_cons.mpr ⟨wyX2_0, List.forall_mem_cons.mpr ⟨wyX2_1, List.forall_mem_cons.mpr ⟨wyX2_2, List.forall_mem_cons.mpr ⟨wyX2_3, fun _ h => absurd h List.not_mem_nil⟩⟩⟩⟩
theorem cuX4 : ∀ w ∈ u_ws RX4 TX4 12, w ∈ gG := List.forall_mem_cons.mpr ⟨wyX4_0, List.forall_mem_cons.mpr ⟨wyX4_1, List.forall_mem_cons.mpr ⟨wyX4_2, List.forall_mem_cons.mpr ⟨wyX4_3, List.forall_mem_cons.mpr ⟨wyX4_4, List.forall_mem_cons.mpr ⟨wyX4_5, List.forall_mem_cons.mpr ⟨wyX4_6, List.forall_mem_cons.mpr ⟨wyX4_7, List.forall_mem_cons.mpr ⟨wyX4_8, List.forall_mem_cons.mpr ⟨wyX4_9, List.forall_mem_cons.mpr ⟨wyX4_10, List.forall_mem_cons.mpr ⟨wyX4_11, fun _ h => absurd h List.not_mem_nil⟩⟩⟩⟩⟩⟩⟩⟩⟩⟩⟩⟩
theorem cuX7 : ∀ w ∈ u_ws RX7 TX7 8, w ∈ gG := List.forall_mem_cons.mpr ⟨wyX7_0, List.forall_mem_cons.mpr ⟨wyX7_1, List.forall_mem_cons.mpr ⟨wyX7_2, List.forall_mem_cons.mpr ⟨wyX7_3, List.forall_mem_cons.mpr ⟨wyX7_4, List.forall_mem_cons.mpr ⟨wyX7_5, List.forall_mem_cons.mpr ⟨wyX7_6, List.forall_mem_cons.mpr ⟨wyX7_7, fun _ h => absurd h List.not_mem_nil⟩⟩⟩⟩⟩⟩⟩⟩
theorem cuX8 : ∀ w ∈ u_ws RX8 TX8 5, w ∈ gG := List.forall_mem_cons.mpr ⟨wyX8_0, List.forall_mem_cons.mpr ⟨wyX8_1, List.forall_mem_cons.mpr ⟨wyX8_2, List.forall_mem_cons.mpr ⟨wyX8_3, List.forall_mem_cons.mpr ⟨wyX8_4, fun _ h => absurd h List.not_mem_nil⟩⟩⟩⟩⟩
theorem cfX11 : CF RX11 TX11 15 tyX11 := ⟨cuX11, tyX11_ok, nmX11⟩
theorem cfX12 : CF RX12 TX12 30 tyX12 := ⟨cuX12, tyX12_ok, nmX12⟩
theorem cfX2 : CF RX2 TX2 4 tyX2 := ⟨cuX2, tyX2_ok, nmX2⟩
theorem cfX4 : CF RX4 TX4 12 tyX4 := ⟨cuX4, tyX4_ok, nmX4⟩
theorem cfX7 : CF RX7 TX7 8 tyX7 := ⟨cuX7, tyX7_ok, nmX7⟩
theorem cfX8 : CF RX8 TX8 5 tyX8 := ⟨cuX8, tyX8_ok, nmX8⟩
theorem mfX5_forceOf : MF yX5_forceOf cX5_forceOf 5 (some .int) 3 := ⟨wcX5_forceOf, wiX5, by decide +kernel⟩
theorem mvX5_forceOf : MFv yX5_forceOf RX5 := ⟨wnX5_forceOf, wsX5_forceOf⟩
theorem mfX5_hasInk : MF yX5_hasInk cX5_hasInk 3 (some .boolean) 1 := ⟨wcX5_hasInk, wiX5, by decide +kernel⟩
theorem mvX5_hasInk : MFv yX5_hasInk RX5 := ⟨wnX5_hasInk, wsX5_hasInk⟩
theorem mfX4_placeOf : MF yX4_placeOf cX4_placeOf 2 (some .int) 2 := ⟨wcX4_placeOf, wiX4, by decide +kernel⟩
theorem msX4_placeOf : Cond.static yX4_placeOf ∈ gG := wtX4_placeOf
theorem mfX4_dentOf : MF yX4_dentOf cX4_dentOf 3 (some .int) 2 := ⟨wcX4_dentOf, wiX4, by decide +kernel⟩
theorem mvX4_dentOf : MFv yX4_dentOf RX4 := ⟨wnX4_dentOf, wsX4_dentOf⟩
theorem mfX4_noteCount : MF yX4_noteCount cX4_noteCount 1 (some .int) 0 := ⟨wcX4_noteCount, wiX4, by decide +kernel⟩
theorem mvX4_noteCount : MFv yX4_noteCount RX4 := ⟨wnX4_noteCount, wsX4_noteCount⟩
theorem mfX4_forceDown : MF yX4_forceDown cX4_forceDown 3 (some .int) 2 := ⟨wcX4_forceDown, wiX4, by decide +kernel⟩
theorem mvX4_forceDown : MFv yX4_forceDown RX4 := ⟨wnX4_forceDown, wsX4_forceDown⟩
theorem mfX4_forceOn : MF yX4_forceOn cX4_forceOn 3 (some .int) 2 := ⟨wcX4_forceOn, wiX4, by decide +kernel⟩
theorem mvX4_forceOn : MFv yX4_forceOn RX4 := ⟨wnX4_forceOn, wsX4_forceOn⟩
theorem mfX11_dentInto : MF yX11_dentInto cX11_dentInto 6 none 4 := ⟨wcX11_dentInto, wiX11, by decide +kernel⟩
theorem msX11_dentInto : Cond.static yX11_dentInto ∈ gG := wtX11_dentInto
theorem mfX2_look : MF yX2_look cX2_look 5 none 3 := ⟨wcX2_look, wiX2, by decide +kernel⟩
theorem mvX2_look : MFv yX2_look RX2 := ⟨wnX2_look, wsX2_look⟩
theorem mfX2_guess : MF yX2_guess cX2_guess 4 (some .boolean) 1 := ⟨wcX2_guess, wiX2, by decide +kernel⟩
theorem mvX2_guess : MFv yX2_guess RX2 := ⟨wnX2_guess, wsX2_guess⟩
theorem mfX2_isFit : MF yX2_isFit cX2_isFit 2 (some .boolean) 1 := ⟨wcX2_isFit, wiX2, by decide +kernel⟩
theorem mvX2_isFit : MFv yX2_isFit RX2 := ⟨wnX2_isFit, wsX2_isFit⟩
theorem mfX4_beginAnew : MF yX4_beginAnew cX4_beginAnew 3 none 1 := ⟨wcX4_beginAnew, wiX4, by decide +kernel⟩
theorem mvX4_beginAnew : MFv yX4_beginAnew RX4 := ⟨wnX4_beginAnew, wsX4_beginAnew⟩
theorem mfX4_copyFrom : MF yX4_copyFrom cX4_copyFrom 2 none 1 := ⟨wcX4_copyFrom, wiX4, by decide +kernel⟩
theorem mvX4_copyFrom : MFv yX4_copyFrom RX4 := ⟨wnX4_copyFrom, wsX4_copyFrom⟩
theorem mfX4_keepForUndo : MF yX4_keepForUndo cX4_keepForUndo 1 none 0 := ⟨wcX4_keepForUndo, wiX4, by decide +kernel⟩
theorem mvX4_keepForUndo : MFv yX4_keepForUndo RX4 := ⟨wnX4_keepForUndo, wsX4_keepForUndo⟩
theorem mfX4_goBack : MF yX4_goBack cX4_goBack 1 none 0 := ⟨wcX4_goBack, wiX4, by decide +kernel⟩
theorem mvX4_goBack : MFv yX4_goBack RX4 := ⟨wnX4_goBack, wsX4_goBack⟩
theorem mfX4_top : MF yX4_top cX4_top 1 (some .int) 0 := ⟨wcX4_top, wiX4, by decide +kernel⟩
theorem mvX4_top : MFv yX4_top RX4 := ⟨wnX4_top, wsX4_top⟩
theorem mfX4_isUsedUp : MF yX4_isUsedUp cX4_isUsedUp 1 (some .boolean) 0 := ⟨wcX4_isUsedUp, wiX4, by decide +kernel⟩
theorem mvX4_isUsedUp : MFv yX4_isUsedUp RX4 := ⟨wnX4_isUsedUp, wsX4_isUsedUp⟩
theorem mfX4_hasSheet : MF yX4_hasSheet cX4_hasSheet 2 (some .boolean) 1 := ⟨wcX4_hasSheet, wiX4, by decide +kernel⟩
theorem mvX4_hasSheet : MFv yX4_hasSheet RX4 := ⟨wnX4_hasSheet, wsX4_hasSheet⟩
theorem mfX4_hasSheets : MF yX4_hasSheets cX4_hasSheets 2 (some .boolean) 1 := ⟨wcX4_hasSheets, wiX4, by decide +kernel⟩
theorem mvX4_hasSheets : MFv yX4_hasSheets RX4 := ⟨wnX4_hasSheets, wsX4_hasSheets⟩
theorem mfX4_hasNote : MF yX4_hasNote cX4_hasNote 2 (some .boolean) 1 := ⟨wcX4_hasNote, wiX4, by decide +kernel⟩
theorem mvX4_hasNote : MFv yX4_hasNote RX4 := ⟨wnX4_hasNote, wsX4_hasNote⟩
theorem mfX4_hasNotes : MF yX4_hasNotes cX4_hasNotes 2 (some .boolean) 1 := ⟨wcX4_hasNotes, wiX4, by decide +kernel⟩
theorem mvX4_hasNotes : MFv yX4_hasNotes RX4 := ⟨wnX4_hasNotes, wsX4_hasNotes⟩
theorem mfX4_inkOf : MF yX4_inkOf cX4_inkOf 2 (some .int) 1 := ⟨wcX4_inkOf, wiX4, by decide +kernel⟩
theorem mvX4_inkOf : MFv yX4_inkOf RX4 := ⟨wnX4_inkOf, wsX4_inkOf⟩
theorem mfX4_copyOf : MF yX4_copyOf cX4_copyOf 2 (some .int) 1 := ⟨wcX4_copyOf, wiX4, by decide +kernel⟩
theorem mvX4_copyOf : MFv yX4_copyOf RX4 := ⟨wnX4_copyOf, wsX4_copyOf⟩
theorem mfX4_tearTop : MF yX4_tearTop cX4_tearTop 1 (some .int) 0 := ⟨wcX4_tearTop, wiX4, by decide +kernel⟩
theorem mvX4_tearTop : MFv yX4_tearTop RX4 := ⟨wnX4_tearTop, wsX4_tearTop⟩
theorem mfX4_pressInto : MF yX4_pressInto cX4_pressInto 5 none 3 := ⟨wcX4_pressInto, wiX4, by decide +kernel⟩
theorem mvX4_pressInto : MFv yX4_pressInto RX4 := ⟨wnX4_pressInto, wsX4_pressInto⟩
theorem mfX4_putNote : MF yX4_putNote cX4_putNote 8 (some .int) 4 := ⟨wcX4_putNote, wiX4, by decide +kernel⟩
theorem mvX4_putNote : MFv yX4_putNote RX4 := ⟨wnX4_putNote, wsX4_putNote⟩
theorem mfX4_writtenOn : MF yX4_writtenOn cX4_writtenOn 4 (some .int) 1 := ⟨wcX4_writtenOn, wiX4, by decide +kernel⟩
theorem mvX4_writtenOn : MFv yX4_writtenOn RX4 := ⟨wnX4_writtenOn, wsX4_writtenOn⟩
theorem mfX4_cellsDented : MF yX4_cellsDented cX4_cellsDented 3 (some .int) 2 := ⟨wcX4_cellsDented, wiX4, by decide +kernel⟩
theorem mvX4_cellsDented : MFv yX4_cellsDented RX4 := ⟨wnX4_cellsDented, wsX4_cellsDented⟩
theorem mfX4_dentedBy : MF yX4_dentedBy cX4_dentedBy 4 (some .int) 1 := ⟨wcX4_dentedBy, wiX4, by decide +kernel⟩
theorem mvX4_dentedBy : MFv yX4_dentedBy RX4 := ⟨wnX4_dentedBy, wsX4_dentedBy⟩
theorem mfX4_dentedAtLeast : MF yX4_dentedAtLeast cX4_dentedAtLeast 5 (some .int) 2 := ⟨wcX4_dentedAtLeast, wiX4, by decide +kernel⟩
theorem mvX4_dentedAtLeast : MFv yX4_dentedAtLeast RX4 := ⟨wnX4_dentedAtLeast, wsX4_dentedAtLeast⟩
theorem mfX4_digestFrom : MF yX4_digestFrom cX4_digestFrom 7 (some .long) 1 := ⟨wcX4_digestFrom, wiX4, by decide +kernel⟩
theorem mvX4_digestFrom : MFv yX4_digestFrom RX4 := ⟨wnX4_digestFrom, wsX4_digestFrom⟩
theorem mfX7_fault : MF yX7_fault cX7_fault 1 (some .int) 0 := ⟨wcX7_fault, wiX7, by decide +kernel⟩
theorem mvX7_fault : MFv yX7_fault RX7 := ⟨wnX7_fault, wsX7_fault⟩
theorem mfX7_isWithin : MF yX7_isWithin cX7_isWithin 4 (some .boolean) 3 := ⟨wcX7_isWithin, wiX7, by decide +kernel⟩
theorem mvX7_isWithin : MFv yX7_isWithin RX7 := ⟨wnX7_isWithin, wsX7_isWithin⟩
theorem mfX7_passWord : MF yX7_passWord cX7_passWord 1 none 0 := ⟨wcX7_passWord, wiX7, by decide +kernel⟩
theorem mvX7_passWord : MFv yX7_passWord RX7 := ⟨wnX7_passWord, wsX7_passWord⟩
theorem mfX7_passFigures : MF yX7_passFigures cX7_passFigures 1 none 0 := ⟨wcX7_passFigures, wiX7, by decide +kernel⟩
theorem mvX7_passFigures : MFv yX7_passFigures RX7 := ⟨wnX7_passFigures, wsX7_passFigures⟩
theorem mfX7_step : MF yX7_step cX7_step 1 none 0 := ⟨wcX7_step, wiX7, by decide +kernel⟩
theorem mvX7_step : MFv yX7_step RX7 := ⟨wnX7_step, wsX7_step⟩
theorem mfX7_isWord : MF yX7_isWord cX7_isWord 3 (some .boolean) 1 := ⟨wcX7_isWord, wiX7, by decide +kernel⟩
theorem mvX7_isWord : MFv yX7_isWord RX7 := ⟨wnX7_isWord, wsX7_isWord⟩
theorem mfX7_isNumber : MF yX7_isNumber cX7_isNumber 3 (some .boolean) 2 := ⟨wcX7_isNumber, wiX7, by decide +kernel⟩
theorem mvX7_isNumber : MFv yX7_isNumber RX7 := ⟨wnX7_isNumber, wsX7_isNumber⟩
theorem mfX7_passStop : MF yX7_passStop cX7_passStop 1 (some .boolean) 0 := ⟨wcX7_passStop, wiX7, by decide +kernel⟩
theorem mvX7_passStop : MFv yX7_passStop RX7 := ⟨wnX7_passStop, wsX7_passStop⟩
theorem mfX7_readFirst : MF yX7_readFirst cX7_readFirst 2 (some .boolean) 1 := ⟨wcX7_readFirst, wiX7, by decide +kernel⟩
theorem mvX7_readFirst : MFv yX7_readFirst RX7 := ⟨wnX7_readFirst, wsX7_readFirst⟩
theorem mfX7_readCarbon : MF yX7_readCarbon cX7_readCarbon 2 (some .boolean) 1 := ⟨wcX7_readCarbon, wiX7, by decide +kernel⟩
theorem mvX7_readCarbon : MFv yX7_readCarbon RX7 := ⟨wnX7_readCarbon, wsX7_readCarbon⟩
theorem mfX7_readPen : MF yX7_readPen cX7_readPen 1 (some .boolean) 0 := ⟨wcX7_readPen, wiX7, by decide +kernel⟩
theorem mvX7_readPen : MFv yX7_readPen RX7 := ⟨wnX7_readPen, wsX7_readPen⟩
theorem mfX7_readCells : MF yX7_readCells cX7_readCells 4 (some .int) 0 := ⟨wcX7_readCells, wiX7, by decide +kernel⟩
theorem mvX7_readCells : MFv yX7_readCells RX7 := ⟨wnX7_readCells, wsX7_readCells⟩
theorem mfX7_readItem : MF yX7_readItem cX7_readItem 6 (some .boolean) 2 := ⟨wcX7_readItem, wiX7, by decide +kernel⟩
theorem mvX7_readItem : MFv yX7_readItem RX7 := ⟨wnX7_readItem, wsX7_readItem⟩
theorem mfX7_readInto : MF yX7_readInto cX7_readInto 5 (some .int) 2 := ⟨wcX7_readInto, wiX7, by decide +kernel⟩
theorem mvX7_readInto : MFv yX7_readInto RX7 := ⟨wnX7_readInto, wsX7_readInto⟩
theorem mfX8_sheetAt : MF yX8_sheetAt cX8_sheetAt 2 (some .int) 1 := ⟨wcX8_sheetAt, wiX8, by decide +kernel⟩
theorem mvX8_sheetAt : MFv yX8_sheetAt RX8 := ⟨wnX8_sheetAt, wsX8_sheetAt⟩
theorem mfX8_mayLie : MF yX8_mayLie cX8_mayLie 7 (some .boolean) 4 := ⟨wcX8_mayLie, wiX8, by decide +kernel⟩
theorem mvX8_mayLie : MFv yX8_mayLie RX8 := ⟨wnX8_mayLie, wsX8_mayLie⟩
theorem mfX8_layFrom : MF yX8_layFrom cX8_layFrom 6 none 4 := ⟨wcX8_layFrom, wiX8, by decide +kernel⟩
theorem mvX8_layFrom : MFv yX8_layFrom RX8 := ⟨wnX8_layFrom, wsX8_layFrom⟩
theorem mfX8_search : MF yX8_search cX8_search 5 (some .int) 2 := ⟨wcX8_search, wiX8, by decide +kernel⟩
theorem mvX8_search : MFv yX8_search RX8 := ⟨wnX8_search, wsX8_search⟩
theorem mfX11_bad : MF yX11_bad cX11_bad 2 (some .int) 1 := ⟨wcX11_bad, wiX11, by decide +kernel⟩
theorem mvX11_bad : MFv yX11_bad RX11 := ⟨wnX11_bad, wsX11_bad⟩
theorem mfX11_pad : MF yX11_pad cX11_pad 3 (some .int) 1 := ⟨wcX11_pad, wiX11, by decide +kernel⟩
theorem mvX11_pad : MFv yX11_pad RX11 := ⟨wnX11_pad, wsX11_pad⟩
theorem mfX11_carbons : MF yX11_carbons cX11_carbons 3 (some .int) 1 := ⟨wcX11_carbons, wiX11, by decide +kernel⟩
theorem mvX11_carbons : MFv yX11_carbons RX11 := ⟨wnX11_carbons, wsX11_carbons⟩
theorem mfX11_isPen : MF yX11_isPen cX11_isPen 2 (some .boolean) 2 := ⟨wcX11_isPen, wiX11, by decide +kernel⟩
theorem msX11_isPen : Cond.static yX11_isPen ∈ gG := wtX11_isPen
theorem mfX11_isCells : MF yX11_isCells cX11_isCells 1 (some .boolean) 1 := ⟨wcX11_isCells, wiX11, by decide +kernel⟩
theorem msX11_isCells : Cond.static yX11_isCells ∈ gG := wtX11_isCells
theorem mfX11_no : MF yX11_no cX11_no 1 (some .int) 0 := ⟨wcX11_no, wiX11, by decide +kernel⟩
theorem mvX11_no : MFv yX11_no RX11 := ⟨wnX11_no, wsX11_no⟩
theorem mfX11_full : MF yX11_full cX11_full 1 (some .int) 0 := ⟨wcX11_full, wiX11, by decide +kernel⟩
theorem mvX11_full : MFv yX11_full RX11 := ⟨wnX11_full, wsX11_full⟩
theorem mfX11_write : MF yX11_write cX11_write 4 (some .int) 3 := ⟨wcX11_write, wiX11, by decide +kernel⟩
theorem mvX11_write : MFv yX11_write RX11 := ⟨wnX11_write, wsX11_write⟩
theorem mfX11_tear : MF yX11_tear cX11_tear 1 (some .int) 0 := ⟨wcX11_tear, wiX11, by decide +kernel⟩
theorem mvX11_tear : MFv yX11_tear RX11 := ⟨wnX11_tear, wsX11_tear⟩
theorem mfX11_undo : MF yX11_undo cX11_undo 1 (some .int) 0 := ⟨wcX11_undo, wiX11, by decide +kernel⟩
theorem mvX11_undo : MFv yX11_undo RX11 := ⟨wnX11_undo, wsX11_undo⟩
theorem mfX11_word : MF yX11_word cX11_word 2 (some .int) 1 := ⟨wcX11_word, wiX11, by decide +kernel⟩
theorem mvX11_word : MFv yX11_word RX11 := ⟨wnX11_word, wsX11_word⟩
theorem mfX11_forget : MF yX11_forget cX11_forget 2 (some .int) 0 := ⟨wcX11_forget, wiX11, by decide +kernel⟩
theorem mvX11_forget : MFv yX11_forget RX11 := ⟨wnX11_forget, wsX11_forget⟩
theorem mfX11_type : MF yX11_type cX11_type 2 (some .int) 1 := ⟨wcX11_type, wiX11, by decide +kernel⟩
theorem mvX11_type : MFv yX11_type RX11 := ⟨wnX11_type, wsX11_type⟩
theorem mfX11_clear : MF yX11_clear cX11_clear 2 (some .int) 0 := ⟨wcX11_clear, wiX11, by decide +kernel⟩
theorem mvX11_clear : MFv yX11_clear RX11 := ⟨wnX11_clear, wsX11_clear⟩
theorem mfX11_read : MF yX11_read cX11_read 2 (some .int) 0 := ⟨wcX11_read, wiX11, by decide +kernel⟩
theorem mvX11_read : MFv yX11_read RX11 := ⟨wnX11_read, wsX11_read⟩
theorem mfX11_of : MF yX11_of cX11_of 3 (some .int) 2 := ⟨wcX11_of, wiX11, by decide +kernel⟩
theorem mvX11_of : MFv yX11_of RX11 := ⟨wnX11_of, wsX11_of⟩
theorem mfX11_dent : MF yX11_dent cX11_dent 3 (some .int) 2 := ⟨wcX11_dent, wiX11, by decide +kernel⟩
theorem mvX11_dent : MFv yX11_dent RX11 := ⟨wnX11_dent, wsX11_dent⟩
theorem mfX11_about : MF yX11_about cX11_about 3 (some .int) 2 := ⟨wcX11_about, wiX11, by decide +kernel⟩
theorem mvX11_about : MFv yX11_about RX11 := ⟨wnX11_about, wsX11_about⟩
theorem mfX11_isDepth : MF yX11_isDepth cX11_isDepth 1 (some .boolean) 1 := ⟨wcX11_isDepth, wiX11, by decide +kernel⟩
theorem msX11_isDepth : Cond.static yX11_isDepth ∈ gG := wtX11_isDepth
theorem mfX11_force : MF yX11_force cX11_force 4 (some .int) 3 := ⟨wcX11_force, wiX11, by decide +kernel⟩
theorem mvX11_force : MFv yX11_force RX11 := ⟨wnX11_force, wsX11_force⟩
theorem mfX11_whose : MF yX11_whose cX11_whose 2 (some .int) 1 := ⟨wcX11_whose, wiX11, by decide +kernel⟩
theorem mvX11_whose : MFv yX11_whose RX11 := ⟨wnX11_whose, wsX11_whose⟩
theorem mfX11_own : MF yX11_own cX11_own 5 (some .int) 2 := ⟨wcX11_own, wiX11, by decide +kernel⟩
theorem mvX11_own : MFv yX11_own RX11 := ⟨wnX11_own, wsX11_own⟩
theorem mfX11_shown : MF yX11_shown cX11_shown 3 (some .int) 2 := ⟨wcX11_shown, wiX11, by decide +kernel⟩
theorem mvX11_shown : MFv yX11_shown RX11 := ⟨wnX11_shown, wsX11_shown⟩
theorem mfJ6_bitCount_0f7a4 : MF yJ6_bitCount_0f7a4 cJ6_bitCount_0f7a4 1 (some .int) 1 := ⟨wcJ6_bitCount_0f7a4, wiJ6, by decide +kernel⟩
theorem msJ6_bitCount_0f7a4 : Cond.static yJ6_bitCount_0f7a4 ∈ gG := wtJ6_bitCount_0f7a4
theorem mfX11_wordsThatFit : MF yX11_wordsThatFit cX11_wordsThatFit 3 (some .int) 0 := ⟨wcX11_wordsThatFit, wiX11, by decide +kernel⟩
theorem mvX11_wordsThatFit : MFv yX11_wordsThatFit RX11 := ⟨wnX11_wordsThatFit, wsX11_wordsThatFit⟩
theorem mfX11_lost : MF yX11_lost cX11_lost 9 (some .int) 6 := ⟨wcX11_lost, wiX11, by decide +kernel⟩
theorem mvX11_lost : MFv yX11_lost RX11 := ⟨wnX11_lost, wsX11_lost⟩
theorem mfX11_pen : MF yX11_pen cX11_pen 11 (some .int) 5 := ⟨wcX11_pen, wiX11, by decide +kernel⟩
theorem mvX11_pen : MFv yX11_pen RX11 := ⟨wnX11_pen, wsX11_pen⟩
theorem mfX11_orders : MF yX11_orders cX11_orders 2 (some .int) 1 := ⟨wcX11_orders, wiX11, by decide +kernel⟩
theorem mvX11_orders : MFv yX11_orders RX11 := ⟨wnX11_orders, wsX11_orders⟩
theorem mfX11_press : MF yX11_press cX11_press 4 (some .int) 2 := ⟨wcX11_press, wiX11, by decide +kernel⟩
theorem mvX11_press : MFv yX11_press RX11 := ⟨wnX11_press, wsX11_press⟩
theorem mfX11_copies : MF yX11_copies cX11_copies 10 (some .int) 4 := ⟨wcX11_copies, wiX11, by decide +kernel⟩
theorem mvX11_copies : MFv yX11_copies RX11 := ⟨wnX11_copies, wsX11_copies⟩
theorem mfX11_keepFraction : MF yX11_keepFraction cX11_keepFraction 12 none 2 := ⟨wcX11_keepFraction, wiX11, by decide +kernel⟩
theorem mvX11_keepFraction : MFv yX11_keepFraction RX11 := ⟨wnX11_keepFraction, wsX11_keepFraction⟩
theorem mfX11_rub : MF yX11_rub cX11_rub 11 (some .int) 3 := ⟨wcX11_rub, wiX11, by decide +kernel⟩
theorem mvX11_rub : MFv yX11_rub RX11 := ⟨wnX11_rub, wsX11_rub⟩
theorem mfX11_torn : MF yX11_torn cX11_torn 3 (some .int) 1 := ⟨wcX11_torn, wiX11, by decide +kernel⟩
theorem mvX11_torn : MFv yX11_torn RX11 := ⟨wnX11_torn, wsX11_torn⟩
theorem mfX11_nextDraw : MF yX11_nextDraw cX11_nextDraw 2 (some .long) 1 := ⟨wcX11_nextDraw, wiX11, by decide +kernel⟩
theorem msX11_nextDraw : Cond.static yX11_nextDraw ∈ gG := wtX11_nextDraw
theorem mfX11_drawOf : MF yX11_drawOf cX11_drawOf 3 (some .int) 2 := ⟨wcX11_drawOf, wiX11, by decide +kernel⟩
theorem msX11_drawOf : Cond.static yX11_drawOf ∈ gG := wtX11_drawOf
theorem mfX11_sumOfLast : MF yX11_sumOfLast cX11_sumOfLast 3 (some .int) 0 := ⟨wcX11_sumOfLast, wiX11, by decide +kernel⟩
theorem mvX11_sumOfLast : MFv yX11_sumOfLast RX11 := ⟨wnX11_sumOfLast, wsX11_sumOfLast⟩
theorem mfX11_drawn : MF yX11_drawn cX11_drawn 10 (some .int) 2 := ⟨wcX11_drawn, wiX11, by decide +kernel⟩
theorem mvX11_drawn : MFv yX11_drawn RX11 := ⟨wnX11_drawn, wsX11_drawn⟩
theorem mfX11_part : MF yX11_part cX11_part 2 (some .long) 1 := ⟨wcX11_part, wiX11, by decide +kernel⟩
theorem mvX11_part : MFv yX11_part RX11 := ⟨wnX11_part, wsX11_part⟩
theorem mfX11_image : MF yX11_image cX11_image 2 (some .int) 1 := ⟨wcX11_image, wiX11, by decide +kernel⟩
theorem mvX11_image : MFv yX11_image RX11 := ⟨wnX11_image, wsX11_image⟩
theorem mfX11_from : MF yX11_from cX11_from 2 (some .int) 1 := ⟨wcX11_from, wiX11, by decide +kernel⟩
theorem mvX11_from : MFv yX11_from RX11 := ⟨wnX11_from, wsX11_from⟩
theorem mfX11_status : MF yX11_status cX11_status 2 (some .int) 1 := ⟨wcX11_status, wiX11, by decide +kernel⟩
theorem mvX11_status : MFv yX11_status RX11 := ⟨wnX11_status, wsX11_status⟩
theorem mfX11_amountOf : MF yX11_amountOf cX11_amountOf 2 (some .int) 1 := ⟨wcX11_amountOf, wiX11, by decide +kernel⟩
theorem mvX11_amountOf : MFv yX11_amountOf RX11 := ⟨wnX11_amountOf, wsX11_amountOf⟩
theorem mfX11_count : MF yX11_count cX11_count 2 (some .int) 1 := ⟨wcX11_count, wiX11, by decide +kernel⟩
theorem mvX11_count : MFv yX11_count RX11 := ⟨wnX11_count, wsX11_count⟩
theorem mfX11_digest : MF yX11_digest cX11_digest 4 (some .long) 0 := ⟨wcX11_digest, wiX11, by decide +kernel⟩
theorem mvX11_digest : MFv yX11_digest RX11 := ⟨wnX11_digest, wsX11_digest⟩
theorem mfX12_in : MF yX12_in cX12_in 6 (some .boolean) 3 := ⟨wcX12_in, wiX12, by decide +kernel⟩
theorem msX12_in : Cond.static yX12_in ∈ gG := wtX12_in
theorem mfX12_has : MF yX12_has cX12_has 2 (some .boolean) 2 := ⟨wcX12_has, wiX12, by decide +kernel⟩
theorem msX12_has : Cond.static yX12_has ∈ gG := wtX12_has
theorem mfX12_ones : MF yX12_ones cX12_ones 3 (some .int) 1 := ⟨wcX12_ones, wiX12, by decide +kernel⟩
theorem msX12_ones : Cond.static yX12_ones ∈ gG := wtX12_ones
theorem mfX12_refuse : MF yX12_refuse cX12_refuse 3 (some .int) 2 := ⟨wcX12_refuse, wiX12, by decide +kernel⟩
theorem mvX12_refuse : MFv yX12_refuse RX12 := ⟨wnX12_refuse, wsX12_refuse⟩
theorem mfX12_bad : MF yX12_bad cX12_bad 1 (some .int) 0 := ⟨wcX12_bad, wiX12, by decide +kernel⟩
theorem mvX12_bad : MFv yX12_bad RX12 := ⟨wnX12_bad, wsX12_bad⟩
theorem mfX12_badLess : MF yX12_badLess cX12_badLess 1 (some .int) 0 := ⟨wcX12_badLess, wiX12, by decide +kernel⟩
theorem mvX12_badLess : MFv yX12_badLess RX12 := ⟨wnX12_badLess, wsX12_badLess⟩
theorem mfX12_isSheet : MF yX12_isSheet cX12_isSheet 2 (some .boolean) 1 := ⟨wcX12_isSheet, wiX12, by decide +kernel⟩
theorem mvX12_isSheet : MFv yX12_isSheet RX12 := ⟨wnX12_isSheet, wsX12_isSheet⟩
theorem mfX12_areNotes : MF yX12_areNotes cX12_areNotes 2 (some .boolean) 1 := ⟨wcX12_areNotes, wiX12, by decide +kernel⟩
theorem mvX12_areNotes : MFv yX12_areNotes RX12 := ⟨wnX12_areNotes, wsX12_areNotes⟩
theorem mfX12_isPen : MF yX12_isPen cX12_isPen 2 (some .boolean) 2 := ⟨wcX12_isPen, wiX12, by decide +kernel⟩
theorem msX12_isPen : Cond.static yX12_isPen ∈ gG := wtX12_isPen
theorem mfX12_pencil : MF yX12_pencil cX12_pencil 3 (some .int) 2 := ⟨wcX12_pencil, wiX12, by decide +kernel⟩
theorem msX12_pencil : Cond.static yX12_pencil ∈ gG := wtX12_pencil
theorem mfX12_forceOf : MF yX12_forceOf cX12_forceOf 3 (some .int) 3 := ⟨wcX12_forceOf, wiX12, by decide +kernel⟩
theorem msX12_forceOf : Cond.static yX12_forceOf ∈ gG := wtX12_forceOf
theorem mfX12_hasInk : MF yX12_hasInk cX12_hasInk 1 (some .boolean) 1 := ⟨wcX12_hasInk, wiX12, by decide +kernel⟩
theorem msX12_hasInk : Cond.static yX12_hasInk ∈ gG := wtX12_hasInk
theorem mfX12_empty : MF yX12_empty cX12_empty 2 none 0 := ⟨wcX12_empty, wiX12, by decide +kernel⟩
theorem mvX12_empty : MFv yX12_empty RX12 := ⟨wnX12_empty, wsX12_empty⟩
theorem mfX12_pad : MF yX12_pad cX12_pad 3 (some .int) 1 := ⟨wcX12_pad, wiX12, by decide +kernel⟩
theorem mvX12_pad : MFv yX12_pad RX12 := ⟨wnX12_pad, wsX12_pad⟩
theorem mfX12_carbons : MF yX12_carbons cX12_carbons 3 (some .int) 1 := ⟨wcX12_carbons, wiX12, by decide +kernel⟩
theorem mvX12_carbons : MFv yX12_carbons RX12 := ⟨wnX12_carbons, wsX12_carbons⟩
theorem mfX12_note : MF yX12_note cX12_note 2 none 0 := ⟨wcX12_note, wiX12, by decide +kernel⟩
theorem mvX12_note : MFv yX12_note RX12 := ⟨wnX12_note, wsX12_note⟩
theorem mfX12_dentAll : MF yX12_dentAll cX12_dentAll 9 none 3 := ⟨wcX12_dentAll, wiX12, by decide +kernel⟩
theorem mvX12_dentAll : MFv yX12_dentAll RX12 := ⟨wnX12_dentAll, wsX12_dentAll⟩
theorem mfX12_writeNow : MF yX12_writeNow cX12_writeNow 5 none 3 := ⟨wcX12_writeNow, wiX12, by decide +kernel⟩
theorem mvX12_writeNow : MFv yX12_writeNow RX12 := ⟨wnX12_writeNow, wsX12_writeNow⟩
theorem mfX12_write : MF yX12_write cX12_write 4 (some .int) 3 := ⟨wcX12_write, wiX12, by decide +kernel⟩
theorem mvX12_write : MFv yX12_write RX12 := ⟨wnX12_write, wsX12_write⟩
theorem mfX12_tear : MF yX12_tear cX12_tear 1 (some .int) 0 := ⟨wcX12_tear, wiX12, by decide +kernel⟩
theorem mvX12_tear : MFv yX12_tear RX12 := ⟨wnX12_tear, wsX12_tear⟩
theorem mfX12_undo : MF yX12_undo cX12_undo 2 (some .int) 0 := ⟨wcX12_undo, wiX12, by decide +kernel⟩
theorem mvX12_undo : MFv yX12_undo RX12 := ⟨wnX12_undo, wsX12_undo⟩
theorem mfX12_word : MF yX12_word cX12_word 2 (some .int) 1 := ⟨wcX12_word, wiX12, by decide +kernel⟩
theorem mvX12_word : MFv yX12_word RX12 := ⟨wnX12_word, wsX12_word⟩
theorem mfX12_forget : MF yX12_forget cX12_forget 2 (some .int) 0 := ⟨wcX12_forget, wiX12, by decide +kernel⟩
theorem mvX12_forget : MFv yX12_forget RX12 := ⟨wnX12_forget, wsX12_forget⟩
theorem mfX12_type : MF yX12_type cX12_type 2 (some .int) 1 := ⟨wcX12_type, wiX12, by decide +kernel⟩
theorem mvX12_type : MFv yX12_type RX12 := ⟨wnX12_type, wsX12_type⟩
theorem mfX12_clear : MF yX12_clear cX12_clear 2 (some .int) 0 := ⟨wcX12_clear, wiX12, by decide +kernel⟩
theorem mvX12_clear : MFv yX12_clear RX12 := ⟨wnX12_clear, wsX12_clear⟩
theorem mfX12_byteAt : MF yX12_byteAt cX12_byteAt 2 (some .int) 1 := ⟨wcX12_byteAt, wiX12, by decide +kernel⟩
theorem mvX12_byteAt : MFv yX12_byteAt RX12 := ⟨wnX12_byteAt, wsX12_byteAt⟩
theorem mfX12_isWord : MF yX12_isWord cX12_isWord 9 (some .boolean) 6 := ⟨wcX12_isWord, wiX12, by decide +kernel⟩
theorem mvX12_isWord : MFv yX12_isWord RX12 := ⟨wnX12_isWord, wsX12_isWord⟩
theorem mfX12_nextToken : MF yX12_nextToken cX12_nextToken 1 none 0 := ⟨wcX12_nextToken, wiX12, by decide +kernel⟩
theorem mvX12_nextToken : MFv yX12_nextToken RX12 := ⟨wnX12_nextToken, wsX12_nextToken⟩
theorem mfX12_number : MF yX12_number cX12_number 3 (some .boolean) 2 := ⟨wcX12_number, wiX12, by decide +kernel⟩
theorem mvX12_number : MFv yX12_number RX12 := ⟨wnX12_number, wsX12_number⟩
theorem mfX12_readNote : MF yX12_readNote cX12_readNote 4 (some .boolean) 1 := ⟨wcX12_readNote, wiX12, by decide +kernel⟩
theorem mvX12_readNote : MFv yX12_readNote RX12 := ⟨wnX12_readNote, wsX12_readNote⟩
theorem mfX12_readPad : MF yX12_readPad cX12_readPad 4 (some .boolean) 0 := ⟨wcX12_readPad, wiX12, by decide +kernel⟩
theorem mvX12_readPad : MFv yX12_readPad RX12 := ⟨wnX12_readPad, wsX12_readPad⟩
theorem mfX12_read : MF yX12_read cX12_read 3 (some .int) 0 := ⟨wcX12_read, wiX12, by decide +kernel⟩
theorem mvX12_read : MFv yX12_read RX12 := ⟨wnX12_read, wsX12_read⟩
theorem mfX12_writtenOn : MF yX12_writtenOn cX12_writtenOn 4 (some .int) 1 := ⟨wcX12_writtenOn, wiX12, by decide +kernel⟩
theorem mvX12_writtenOn : MFv yX12_writtenOn RX12 := ⟨wnX12_writtenOn, wsX12_writtenOn⟩
theorem mfX12_of : MF yX12_of cX12_of 3 (some .int) 2 := ⟨wcX12_of, wiX12, by decide +kernel⟩
theorem mvX12_of : MFv yX12_of RX12 := ⟨wnX12_of, wsX12_of⟩
theorem mfX12_dentOf : MF yX12_dentOf cX12_dentOf 3 (some .int) 2 := ⟨wcX12_dentOf, wiX12, by decide +kernel⟩
theorem mvX12_dentOf : MFv yX12_dentOf RX12 := ⟨wnX12_dentOf, wsX12_dentOf⟩
theorem mfX12_dent : MF yX12_dent cX12_dent 3 (some .int) 2 := ⟨wcX12_dent, wiX12, by decide +kernel⟩
theorem mvX12_dent : MFv yX12_dent RX12 := ⟨wnX12_dent, wsX12_dent⟩
theorem mfX12_about : MF yX12_about cX12_about 4 (some .int) 2 := ⟨wcX12_about, wiX12, by decide +kernel⟩
theorem mvX12_about : MFv yX12_about RX12 := ⟨wnX12_about, wsX12_about⟩
theorem mfX12_force : MF yX12_force cX12_force 4 (some .int) 3 := ⟨wcX12_force, wiX12, by decide +kernel⟩
theorem mvX12_force : MFv yX12_force RX12 := ⟨wnX12_force, wsX12_force⟩
theorem mfX12_forceIn : MF yX12_forceIn cX12_forceIn 6 (some .int) 3 := ⟨wcX12_forceIn, wiX12, by decide +kernel⟩
theorem mvX12_forceIn : MFv yX12_forceIn RX12 := ⟨wnX12_forceIn, wsX12_forceIn⟩
theorem mfX12_whoseOf : MF yX12_whoseOf cX12_whoseOf 4 (some .int) 1 := ⟨wcX12_whoseOf, wiX12, by decide +kernel⟩
theorem mvX12_whoseOf : MFv yX12_whoseOf RX12 := ⟨wnX12_whoseOf, wsX12_whoseOf⟩
theorem mfX12_whose : MF yX12_whose cX12_whose 2 (some .int) 1 := ⟨wcX12_whose, wiX12, by decide +kernel⟩
theorem mvX12_whose : MFv yX12_whose RX12 := ⟨wnX12_whose, wsX12_whose⟩
theorem mfX12_own : MF yX12_own cX12_own 7 (some .int) 2 := ⟨wcX12_own, wiX12, by decide +kernel⟩
theorem mvX12_own : MFv yX12_own RX12 := ⟨wnX12_own, wsX12_own⟩
theorem mfX12_shown : MF yX12_shown cX12_shown 5 (some .int) 2 := ⟨wcX12_shown, wiX12, by decide +kernel⟩
theorem mvX12_shown : MFv yX12_shown RX12 := ⟨wnX12_shown, wsX12_shown⟩
theorem mfX12_explained : MF yX12_explained cX12_explained 7 (some .int) 3 := ⟨wcX12_explained, wiX12, by decide +kernel⟩
theorem mvX12_explained : MFv yX12_explained RX12 := ⟨wnX12_explained, wsX12_explained⟩
theorem mfX12_isLost : MF yX12_isLost cX12_isLost 8 (some .boolean) 3 := ⟨wcX12_isLost, wiX12, by decide +kernel⟩
theorem mvX12_isLost : MFv yX12_isLost RX12 := ⟨wnX12_isLost, wsX12_isLost⟩
theorem mfX12_fits : MF yX12_fits cX12_fits 2 (some .boolean) 1 := ⟨wcX12_fits, wiX12, by decide +kernel⟩
theorem mvX12_fits : MFv yX12_fits RX12 := ⟨wnX12_fits, wsX12_fits⟩
theorem mfX12_lost : MF yX12_lost cX12_lost 10 (some .int) 6 := ⟨wcX12_lost, wiX12, by decide +kernel⟩
theorem mvX12_lost : MFv yX12_lost RX12 := ⟨wnX12_lost, wsX12_lost⟩
theorem mfX12_pen : MF yX12_pen cX12_pen 10 (some .int) 5 := ⟨wcX12_pen, wiX12, by decide +kernel⟩
theorem mvX12_pen : MFv yX12_pen RX12 := ⟨wnX12_pen, wsX12_pen⟩
theorem mfX12_exchange : MF yX12_exchange cX12_exchange 4 none 2 := ⟨wcX12_exchange, wiX12, by decide +kernel⟩
theorem mvX12_exchange : MFv yX12_exchange RX12 := ⟨wnX12_exchange, wsX12_exchange⟩
theorem mfX12_nextRow : MF yX12_nextRow cX12_nextRow 5 (some .boolean) 0 := ⟨wcX12_nextRow, wiX12, by decide +kernel⟩
theorem mvX12_nextRow : MFv yX12_nextRow RX12 := ⟨wnX12_nextRow, wsX12_nextRow⟩
theorem mfX12_placeOf : MF yX12_placeOf cX12_placeOf 3 (some .int) 1 := ⟨wcX12_placeOf, wiX12, by decide +kernel⟩
theorem mvX12_placeOf : MFv yX12_placeOf RX12 := ⟨wnX12_placeOf, wsX12_placeOf⟩
theorem mfX12_isRow : MF yX12_isRow cX12_isRow 8 (some .boolean) 0 := ⟨wcX12_isRow, wiX12, by decide +kernel⟩
theorem mvX12_isRow : MFv yX12_isRow RX12 := ⟨wnX12_isRow, wsX12_isRow⟩
theorem mfX12_orders : MF yX12_orders cX12_orders 5 (some .int) 1 := ⟨wcX12_orders, wiX12, by decide +kernel⟩
theorem mvX12_orders : MFv yX12_orders RX12 := ⟨wnX12_orders, wsX12_orders⟩
theorem mfX12_press : MF yX12_press cX12_press 4 (some .int) 2 := ⟨wcX12_press, wiX12, by decide +kernel⟩
theorem mvX12_press : MFv yX12_press RX12 := ⟨wnX12_press, wsX12_press⟩
theorem mfX12_copies : MF yX12_copies cX12_copies 9 (some .int) 4 := ⟨wcX12_copies, wiX12, by decide +kernel⟩
theorem mvX12_copies : MFv yX12_copies RX12 := ⟨wnX12_copies, wsX12_copies⟩
theorem mfX12_common : MF yX12_common cX12_common 10 (some .long) 2 := ⟨wcX12_common, wiX12, by decide +kernel⟩
theorem msX12_common : Cond.static yX12_common ∈ gG := wtX12_common
theorem mfX12_rub : MF yX12_rub cX12_rub 6 (some .int) 3 := ⟨wcX12_rub, wiX12, by decide +kernel⟩
theorem mvX12_rub : MFv yX12_rub RX12 := ⟨wnX12_rub, wsX12_rub⟩
theorem mfX12_torn : MF yX12_torn cX12_torn 3 (some .int) 1 := ⟨wcX12_torn, wiX12, by decide +kernel⟩
theorem mvX12_torn : MFv yX12_torn RX12 := ⟨wnX12_torn, wsX12_torn⟩
theorem mfX12_draw : MF yX12_draw cX12_draw 2 (some .int) 1 := ⟨wcX12_draw, wiX12, by decide +kernel⟩
theorem mvX12_draw : MFv yX12_draw RX12 := ⟨wnX12_draw, wsX12_draw⟩
theorem mfX12_drawn : MF yX12_drawn cX12_drawn 6 (some .int) 2 := ⟨wcX12_drawn, wiX12, by decide +kernel⟩
theorem mvX12_drawn : MFv yX12_drawn RX12 := ⟨wnX12_drawn, wsX12_drawn⟩
theorem mfX12_part : MF yX12_part cX12_part 2 (some .long) 1 := ⟨wcX12_part, wiX12, by decide +kernel⟩
theorem mvX12_part : MFv yX12_part RX12 := ⟨wnX12_part, wsX12_part⟩
theorem mfX12_carry : MF yX12_carry cX12_carry 7 none 5 := ⟨wcX12_carry, wiX12, by decide +kernel⟩
theorem mvX12_carry : MFv yX12_carry RX12 := ⟨wnX12_carry, wsX12_carry⟩
theorem mfX12_image : MF yX12_image cX12_image 3 (some .int) 1 := ⟨wcX12_image, wiX12, by decide +kernel⟩
theorem mvX12_image : MFv yX12_image RX12 := ⟨wnX12_image, wsX12_image⟩
theorem mfX12_from : MF yX12_from cX12_from 3 (some .int) 1 := ⟨wcX12_from, wiX12, by decide +kernel⟩
theorem mvX12_from : MFv yX12_from RX12 := ⟨wnX12_from, wsX12_from⟩
theorem mfX12_status : MF yX12_status cX12_status 2 (some .int) 1 := ⟨wcX12_status, wiX12, by decide +kernel⟩
theorem mvX12_status : MFv yX12_status RX12 := ⟨wnX12_status, wsX12_status⟩
theorem mfX12_countOf : MF yX12_countOf cX12_countOf 2 (some .int) 1 := ⟨wcX12_countOf, wiX12, by decide +kernel⟩
theorem mvX12_countOf : MFv yX12_countOf RX12 := ⟨wnX12_countOf, wsX12_countOf⟩
theorem mfX12_count : MF yX12_count cX12_count 2 (some .int) 1 := ⟨wcX12_count, wiX12, by decide +kernel⟩
theorem mvX12_count : MFv yX12_count RX12 := ⟨wnX12_count, wsX12_count⟩
theorem mfX12_mix : MF yX12_mix cX12_mix 3 none 1 := ⟨wcX12_mix, wiX12, by decide +kernel⟩
theorem mvX12_mix : MFv yX12_mix RX12 := ⟨wnX12_mix, wsX12_mix⟩
theorem mfX12_digest : MF yX12_digest cX12_digest 3 (some .long) 0 := ⟨wcX12_digest, wiX12, by decide +kernel⟩
theorem mvX12_digest : MFv yX12_digest RX12 := ⟨wnX12_digest, wsX12_digest⟩

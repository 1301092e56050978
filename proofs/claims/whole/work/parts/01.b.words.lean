theorem W_0 : Cond.selects RX4 yX4_bad yX4_bad ∈ WALL := mw0 (List.mem_append_left _ (mem_i 0 rfl)) rfl
theorem W_1 : Cond.selects RX4 yX4_full yX4_full ∈ WALL := mw0 (List.mem_append_left _ (mem_i 1 rfl)) rfl
theorem W_2 : Cond.selects RX2 yX2_step yX2_step ∈ WALL := mw0 (List.mem_append_left _ (mem_i 2 rfl)) rfl
theorem W_3 : Cond.selects RX2 yX2_takeWord yX2_takeWord ∈ WALL := mw0 (List.mem_append_left _ (mem_i 3 rfl)) rfl
theorem W_4 : Cond.selects RX2 yX2_takeNumber yX2_takeNumber ∈ WALL := mw0 (List.mem_append_left _ (mem_i 4 rfl)) rfl
theorem W_5 : Cond.selects RX2 yX2_takeSign yX2_takeSign ∈ WALL := mw0 (List.mem_append_left _ (mem_i 5 rfl)) rfl
theorem W_6 : Cond.selects RX2 yX2_mainItem yX2_mainItem ∈ WALL := mw0 (List.mem_append_left _ (mem_i 6 rfl)) rfl
theorem W_7 : Cond.selects RX2 yX2_isNumber yX2_isNumber ∈ WALL := mw0 (List.mem_append_left _ (mem_i 7 rfl)) rfl
theorem W_8 : Cond.selects RX2 yX2_semicolon yX2_semicolon ∈ WALL := mw0 (List.mem_append_left _ (mem_i 8 rfl)) rfl
theorem W_9 : Cond.selects RX2 yX2_wellItem yX2_wellItem ∈ WALL := mw0 (List.mem_append_left _ (mem_i 9 rfl)) rfl
theorem W_10 : Cond.selects RX2 yX2_readHours yX2_readHours ∈ WALL := mw0 (List.mem_append_left _ (mem_i 10 rfl)) rfl
theorem W_11 : Cond.selects RX2 yX2_turnItem yX2_turnItem ∈ WALL := mw0 (List.mem_append_left _ (mem_i 11 rfl)) rfl
theorem W_12 : Cond.selects RX2 yX2_dayItem yX2_dayItem ∈ WALL := mw0 (List.mem_append_left _ (mem_i 12 rfl)) rfl
theorem W_13 : Cond.selects RX4 yX4_no yX4_no ∈ WALL := mw0 (List.mem_append_left _ (mem_i 13 rfl)) rfl
theorem W_14 : Cond.selects RX4 yX4_dailyOfOne yX4_dailyOfOne ∈ WALL := mw0 (List.mem_append_left _ (mem_i 14 rfl)) rfl
theorem W_15 : Cond.selects RX4 yX4_badHere yX4_badHere ∈ WALL := mw0 (List.mem_append_left _ (mem_i 15 rfl)) rfl
theorem W_16 : Cond.selects RX3 yX3_start yX3_start ∈ WALL := mw0 (List.mem_append_left _ (mem_i 16 rfl)) rfl
theorem W_17 : Cond.selects RX3 yX3_keepIfBetter yX3_keepIfBetter ∈ WALL := mw0 (List.mem_append_left _ (mem_i 17 rfl)) rfl
theorem W_18 : Cond.selects RX3 yX3_isLikeAnEarlierOne yX3_isLikeAnEarlierOne ∈ WALL := mw0 (List.mem_append_left _ (mem_i 18 rfl)) rfl
theorem W_19 : Cond.selects RX4 yX4_isAmple yX4_isAmple ∈ WALL := mw0 (List.mem_append_left _ (mem_i 19 rfl)) rfl
theorem W_20 : Cond.selects RX4 yX4_fitsLefts yX4_fitsLefts ∈ WALL := mw0 (List.mem_append_left _ (mem_i 20 rfl)) rfl
theorem W_21 : Cond.selects RX4 yX4_kindsOf yX4_kindsOf ∈ WALL := mw0 (List.mem_append_left _ (mem_i 21 rfl)) rfl
theorem W_22 : Cond.selects RX4 yX4_fitsNotes yX4_fitsNotes ∈ WALL := mw0 (List.mem_append_left _ (mem_i 22 rfl)) rfl
theorem W_23 : Cond.selects RX4 yX4_fitsNote yX4_fitsNote ∈ WALL := mw0 (List.mem_append_left _ (mem_i 23 rfl)) rfl
theorem W_24 : Cond.selects RX4 yX4_bothWouldSwap yX4_bothWouldSwap ∈ WALL := mw0 (List.mem_append_left _ (mem_i 24 rfl)) rfl
theorem W_25 : Cond.selects RX4 yX4_setFraction yX4_setFraction ∈ WALL := mw0 (List.mem_append_left _ (mem_i 25 rfl)) rfl
theorem W_26 : Cond.selects RX4 yX4_howMany yX4_howMany ∈ WALL := mw0 (List.mem_append_left _ (mem_i 26 rfl)) rfl
theorem W_27 : Cond.selects RX5 yX5_bad yX5_bad ∈ WALL := mw0 (List.mem_append_left _ (mem_i 27 rfl)) rfl
theorem W_28 : Cond.selects RX5 yX5_many yX5_many ∈ WALL := mw0 (List.mem_append_left _ (mem_i 28 rfl)) rfl
theorem W_29 : Cond.selects RX5 yX5_full yX5_full ∈ WALL := mw0 (List.mem_append_left _ (mem_i 29 rfl)) rfl
theorem W_30 : Cond.selects RX5 yX5_keep yX5_keep ∈ WALL := mw0 (List.mem_append_left _ (mem_i 30 rfl)) rfl
theorem W_31 : Cond.selects RX5 yX5_passDay yX5_passDay ∈ WALL := mw0 (List.mem_append_left _ (mem_i 31 rfl)) rfl
theorem W_32 : Cond.selects RX5 yX5_layDay yX5_layDay ∈ WALL := mw0 (List.mem_append_left _ (mem_i 32 rfl)) rfl
theorem W_33 : Cond.selects RX5 yX5_goHour yX5_goHour ∈ WALL := mw0 (List.mem_append_left _ (mem_i 33 rfl)) rfl
theorem W_34 : Cond.selects RX5 yX5_isWell yX5_isWell ∈ WALL := mw0 (List.mem_append_left _ (mem_i 34 rfl)) rfl
theorem W_35 : Cond.selects RX5 yX5_no yX5_no ∈ WALL := mw0 (List.mem_append_left _ (mem_i 35 rfl)) rfl
theorem W_36 : Cond.selects RX5 yX5_sumOf yX5_sumOf ∈ WALL := mw0 (List.mem_append_left _ (mem_i 36 rfl)) rfl
theorem W_37 : Cond.selects RX5 yX5_layOwn yX5_layOwn ∈ WALL := mw0 (List.mem_append_left _ (mem_i 37 rfl)) rfl
theorem W_38 : Cond.selects RX5 yX5_bestAlone yX5_bestAlone ∈ WALL := mw0 (List.mem_append_left _ (mem_i 38 rfl)) rfl
theorem W_39 : Cond.selects RX5 yX5_dueIfFair yX5_dueIfFair ∈ WALL := mw0 (List.mem_append_left _ (mem_i 39 rfl)) rfl
theorem W_40 : Cond.selects RX5 yX5_mayHaveDrawn yX5_mayHaveDrawn ∈ WALL := mw0 (List.mem_append_left _ (mem_i 40 rfl)) rfl
theorem W_41 : Cond.selects RX5 yX5_kindsOf yX5_kindsOf ∈ WALL := mw0 (List.mem_append_left _ (mem_i 41 rfl)) rfl
theorem W_42 : Cond.selects RX5 yX5_wouldBoth yX5_wouldBoth ∈ WALL := mw0 (List.mem_append_left _ (mem_i 42 rfl)) rfl
theorem W_43 : Cond.selects RX5 yX5_fraction yX5_fraction ∈ WALL := mw0 (List.mem_append_left _ (mem_i 43 rfl)) rfl
theorem W_44 : Cond.selects RX5 yX5_lookAt yX5_lookAt ∈ WALL := mw0 (List.mem_append_left _ (mem_i 44 rfl)) rfl
theorem W_45 : Cond.selects RX5 yX5_takesMain yX5_takesMain ∈ WALL := mw0 (List.mem_append_left _ (mem_i 45 rfl)) rfl
theorem W_46 : Cond.selects RX5 yX5_spells yX5_spells ∈ WALL := mw0 (List.mem_append_left _ (mem_i 46 rfl)) rfl
theorem W_47 : Cond.selects RX5 yX5_goBehind yX5_goBehind ∈ WALL := mw0 (List.mem_append_left _ (mem_i 47 rfl)) rfl
theorem W_48 : Cond.selects RX5 yX5_takes yX5_takes ∈ WALL := mw0 (List.mem_append_left _ (mem_i 48 rfl)) rfl
theorem W_49 : Cond.selects RX5 yX5_takesItem yX5_takesItem ∈ WALL := mw0 (List.mem_append_left _ (mem_i 49 rfl)) rfl
theorem W_50 : Cond.selects RX5 yX5_takesWell yX5_takesWell ∈ WALL := mw0 (List.mem_append_left _ (mem_i 50 rfl)) rfl
theorem W_51 : Cond.selects RX5 yX5_takesHours yX5_takesHours ∈ WALL := mw0 (List.mem_append_left _ (mem_i 51 rfl)) rfl
theorem W_52 : Cond.selects RX5 yX5_takesTurn yX5_takesTurn ∈ WALL := mw0 (List.mem_append_left _ (mem_i 52 rfl)) rfl
theorem W_53 : Cond.selects RX5 yX5_takesDay yX5_takesDay ∈ WALL := mw0 (List.mem_append_left _ (mem_i 53 rfl)) rfl
theorem W_54 : Cond.selects RX5 yX5_counted yX5_counted ∈ WALL := mw0 (List.mem_append_left _ (mem_i 54 rfl)) rfl
theorem W_55 : Cond.selects RX5 yX5_allOf yX5_allOf ∈ WALL := mw0 (List.mem_append_left _ (mem_i 55 rfl)) rfl
theorem W_56 : Cond.selects RX5 yX5_sums yX5_sums ∈ WALL := mw0 (List.mem_append_left _ (mem_i 56 rfl)) rfl
theorem W_58 : Cond.initialized RX4 ∈ WALL := mw0 (List.mem_append_right _ (List.mem_append_left _ (mem_i 1 rfl))) rfl
theorem W_59 : Cond.initialized RX1 ∈ WALL := mw0 (List.mem_append_right _ (List.mem_append_left _ (mem_i 2 rfl))) rfl
theorem W_60 : Cond.initialized RX3 ∈ WALL := mw0 (List.mem_append_right _ (List.mem_append_left _ (mem_i 3 rfl))) rfl
theorem W_61 : Cond.initialized RX2 ∈ WALL := mw0 (List.mem_append_right _ (List.mem_append_left _ (mem_i 4 rfl))) rfl
theorem W_62 : Cond.initialized RX5 ∈ WALL := mw0 (List.mem_append_right _ (List.mem_append_left _ (mem_i 5 rfl))) rfl
theorem W_63 : Cond.initialized RX0 ∈ WALL := mw0 (List.mem_append_right _ (List.mem_append_left _ (mem_i 6 rfl))) rfl
theorem W_64 : Cond.initialized "java/lang/Math" ∈ WALL := mw0 (List.mem_append_right _ (List.mem_append_left _ (mem_i 7 rfl))) rfl
theorem W_65 : Cond.initialized "java/lang/System" ∈ WALL := mw0 (List.mem_append_right _ (List.mem_append_left _ (mem_i 8 rfl))) rfl
theorem W_71 : Cond.methodLink RX4 3 objectInit ∈ WALL := mw0 (List.mem_append_right _ (List.mem_append_left _ (mem_i 14 rfl))) rfl
theorem W_72 : Cond.instanceMethod objectInit ∈ WALL := mw0 (List.mem_append_right _ (List.mem_append_left _ (mem_i 15 rfl))) rfl
theorem W_73 : Cond.code objectInit ⟨#[0xb1]⟩ 1 none ∈ WALL := mw0 (List.mem_append_right _ (List.mem_append_left _ (mem_i 16 rfl))) rfl
theorem W_74 : Cond.classLink RX4 9 RX1 ∈ WALL := mw0 (List.mem_append_right _ (List.mem_append_left _ (mem_i 17 rfl))) rfl
theorem W_75 : Cond.instantiable RX1 18 ∈ WALL := mw0 (List.mem_append_right _ (List.mem_append_left _ (mem_i 18 rfl))) rfl
theorem W_77 : Cond.instanceMethod yX1_init ∈ WALL := mw0 (List.mem_append_right _ (List.mem_append_left _ (mem_i 20 rfl))) rfl
theorem W_78 : Cond.code yX1_init cX1_init 1 none ∈ WALL := mw0 (List.mem_append_right _ (List.mem_append_left _ (mem_i 21 rfl))) rfl
theorem W_79 : Cond.methodLink RX1 3 objectInit ∈ WALL := mw0 (List.mem_append_right _ (List.mem_append_left _ (mem_i 22 rfl))) rfl
theorem W_80 : Cond.fieldLink RX1 9 "WishMeter$Pipe" "pressure" "I" ∈ WALL := mw0 (List.mem_append_right _ (List.mem_append_left _ (mem_i 23 rfl))) rfl
theorem W_81 : Cond.fieldLink RX3 48 "WishMeter$Pipe" "pressure" "I" ∈ WALL := mw0 (List.mem_append_right _ (List.mem_append_left _ (mem_i 24 rfl))) rfl
theorem W_82 : Cond.fieldLink RX2 62 "WishMeter$Pipe" "pressure" "I" ∈ WALL := mw0 (List.mem_append_right _ (List.mem_append_left _ (mem_i 25 rfl))) rfl
theorem W_83 : Cond.fieldLink RX4 115 "WishMeter$Pipe" "pressure" "I" ∈ WALL := mw0 (List.mem_append_right _ (List.mem_append_left _ (mem_i 26 rfl))) rfl
theorem W_84 : Cond.fieldLink RX1 15 "WishMeter$Pipe" "day" "I" ∈ WALL := mw0 (List.mem_append_right _ (List.mem_append_left _ (mem_i 27 rfl))) rfl
theorem W_85 : Cond.fieldLink RX4 127 "WishMeter$Pipe" "day" "I" ∈ WALL := mw0 (List.mem_append_right _ (List.mem_append_left _ (mem_i 28 rfl))) rfl
theorem W_86 : Cond.fieldLink RX1 18 "WishMeter$Pipe" "wells" "I" ∈ WALL := mw0 (List.mem_append_right _ (List.mem_append_left _ (mem_i 29 rfl))) rfl
theorem W_87 : Cond.fieldLink RX3 35 "WishMeter$Pipe" "wells" "I" ∈ WALL := mw0 (List.mem_append_right _ (List.mem_append_left _ (mem_i 30 rfl))) rfl
theorem W_88 : Cond.fieldLink RX4 58 "WishMeter$Pipe" "wells" "I" ∈ WALL := mw0 (List.mem_append_right _ (List.mem_append_left _ (mem_i 31 rfl))) rfl
theorem W_89 : Cond.fieldLink RX2 68 "WishMeter$Pipe" "wells" "I" ∈ WALL := mw0 (List.mem_append_right _ (List.mem_append_left _ (mem_i 32 rfl))) rfl
theorem W_90 : Cond.fieldLink RX1 21 "WishMeter$Pipe" "lefts" "I" ∈ WALL := mw0 (List.mem_append_right _ (List.mem_append_left _ (mem_i 33 rfl))) rfl
theorem W_91 : Cond.fieldLink RX4 190 "WishMeter$Pipe" "lefts" "I" ∈ WALL := mw0 (List.mem_append_right _ (List.mem_append_left _ (mem_i 34 rfl))) rfl
theorem W_92 : Cond.fieldLink RX1 24 "WishMeter$Pipe" "notes" "I" ∈ WALL := mw0 (List.mem_append_right _ (List.mem_append_left _ (mem_i 35 rfl))) rfl
theorem W_93 : Cond.fieldLink RX4 199 "WishMeter$Pipe" "notes" "I" ∈ WALL := mw0 (List.mem_append_right _ (List.mem_append_left _ (mem_i 36 rfl))) rfl
theorem W_94 : Cond.fieldLink RX1 27 "WishMeter$Pipe" "undos" "I" ∈ WALL := mw0 (List.mem_append_right _ (List.mem_append_left _ (mem_i 37 rfl))) rfl
theorem W_95 : Cond.fieldLink RX4 118 "WishMeter$Pipe" "undos" "I" ∈ WALL := mw0 (List.mem_append_right _ (List.mem_append_left _ (mem_i 38 rfl))) rfl
theorem W_96 : Cond.fieldLink RX1 30 "WishMeter$Pipe" "kind" "[I" ∈ WALL := mw0 (List.mem_append_right _ (List.mem_append_left _ (mem_i 39 rfl))) rfl
theorem W_97 : Cond.fieldLink RX3 55 "WishMeter$Pipe" "kind" "[I" ∈ WALL := mw0 (List.mem_append_right _ (List.mem_append_left _ (mem_i 40 rfl))) rfl
theorem W_98 : Cond.fieldLink RX4 130 "WishMeter$Pipe" "kind" "[I" ∈ WALL := mw0 (List.mem_append_right _ (List.mem_append_left _ (mem_i 41 rfl))) rfl
theorem W_99 : Cond.fieldLink RX1 34 "WishMeter$Pipe" "wanted" "[I" ∈ WALL := mw0 (List.mem_append_right _ (List.mem_append_left _ (mem_i 42 rfl))) rfl
theorem W_100 : Cond.fieldLink RX3 58 "WishMeter$Pipe" "wanted" "[I" ∈ WALL := mw0 (List.mem_append_right _ (List.mem_append_left _ (mem_i 43 rfl))) rfl
theorem W_101 : Cond.fieldLink RX4 112 "WishMeter$Pipe" "wanted" "[I" ∈ WALL := mw0 (List.mem_append_right _ (List.mem_append_left _ (mem_i 44 rfl))) rfl
theorem W_102 : Cond.fieldLink RX1 37 "WishMeter$Pipe" "hours" "[I" ∈ WALL := mw0 (List.mem_append_right _ (List.mem_append_left _ (mem_i 45 rfl))) rfl
theorem W_103 : Cond.fieldLink RX2 79 "WishMeter$Pipe" "hours" "[I" ∈ WALL := mw0 (List.mem_append_right _ (List.mem_append_left _ (mem_i 46 rfl))) rfl
theorem W_104 : Cond.fieldLink RX4 108 "WishMeter$Pipe" "hours" "[I" ∈ WALL := mw0 (List.mem_append_right _ (List.mem_append_left _ (mem_i 47 rfl))) rfl
theorem W_105 : Cond.fieldLink RX1 40 "WishMeter$Pipe" "had" "[I" ∈ WALL := mw0 (List.mem_append_right _ (List.mem_append_left _ (mem_i 48 rfl))) rfl
theorem W_106 : Cond.fieldLink RX4 133 "WishMeter$Pipe" "had" "[I" ∈ WALL := mw0 (List.mem_append_right _ (List.mem_append_left _ (mem_i 49 rfl))) rfl
theorem W_107 : Cond.fieldLink RX1 43 "WishMeter$Pipe" "due" "[I" ∈ WALL := mw0 (List.mem_append_right _ (List.mem_append_left _ (mem_i 50 rfl))) rfl
theorem W_108 : Cond.fieldLink RX4 136 "WishMeter$Pipe" "due" "[I" ∈ WALL := mw0 (List.mem_append_right _ (List.mem_append_left _ (mem_i 51 rfl))) rfl
theorem W_109 : Cond.fieldLink RX1 46 "WishMeter$Pipe" "leftHour" "[I" ∈ WALL := mw0 (List.mem_append_right _ (List.mem_append_left _ (mem_i 52 rfl))) rfl
theorem W_110 : Cond.fieldLink RX4 252 "WishMeter$Pipe" "leftHour" "[I" ∈ WALL := mw0 (List.mem_append_right _ (List.mem_append_left _ (mem_i 53 rfl))) rfl
theorem W_111 : Cond.fieldLink RX1 49 "WishMeter$Pipe" "leftPressure" "[I" ∈ WALL := mw0 (List.mem_append_right _ (List.mem_append_left _ (mem_i 54 rfl))) rfl
theorem W_112 : Cond.fieldLink RX4 255 "WishMeter$Pipe" "leftPressure" "[I" ∈ WALL := mw0 (List.mem_append_right _ (List.mem_append_left _ (mem_i 55 rfl))) rfl
theorem W_113 : Cond.fieldLink RX1 52 "WishMeter$Pipe" "note" "[I" ∈ WALL := mw0 (List.mem_append_right _ (List.mem_append_left _ (mem_i 56 rfl))) rfl
theorem W_114 : Cond.fieldLink RX4 258 "WishMeter$Pipe" "note" "[I" ∈ WALL := mw0 (List.mem_append_right _ (List.mem_append_left _ (mem_i 57 rfl))) rfl
theorem W_115 : Cond.fieldLink RX1 55 "WishMeter$Pipe" "past" "[I" ∈ WALL := mw0 (List.mem_append_right _ (List.mem_append_left _ (mem_i 58 rfl))) rfl
theorem W_116 : Cond.fieldLink RX1 58 "WishMeter$Pipe" "ahead" "[I" ∈ WALL := mw0 (List.mem_append_right _ (List.mem_append_left _ (mem_i 59 rfl))) rfl
theorem W_117 : Cond.fieldLink RX4 152 "WishMeter$Pipe" "ahead" "[I" ∈ WALL := mw0 (List.mem_append_right _ (List.mem_append_left _ (mem_i 60 rfl))) rfl
theorem W_118 : Cond.fieldLink RX1 61 "WishMeter$Pipe" "gets" "[I" ∈ WALL := mw0 (List.mem_append_right _ (List.mem_append_left _ (mem_i 61 rfl))) rfl
theorem W_119 : Cond.fieldLink RX4 149 "WishMeter$Pipe" "gets" "[I" ∈ WALL := mw0 (List.mem_append_right _ (List.mem_append_left _ (mem_i 62 rfl))) rfl
theorem W_120 : Cond.fieldLink RX1 64 "WishMeter$Pipe" "leftOver" "I" ∈ WALL := mw0 (List.mem_append_right _ (List.mem_append_left _ (mem_i 63 rfl))) rfl
theorem W_121 : Cond.fieldLink RX4 155 "WishMeter$Pipe" "leftOver" "I" ∈ WALL := mw0 (List.mem_append_right _ (List.mem_append_left _ (mem_i 64 rfl))) rfl
theorem W_159 : Cond.arrayClass .int ∈ WALL := mw0 (List.mem_append_right _ (List.mem_append_left _ (mem_i 102 rfl))) rfl
theorem W_161 : Cond.classLink RX4 20 RX3 ∈ WALL := mw0 (List.mem_append_right _ (List.mem_append_left _ (mem_i 104 rfl))) rfl
theorem W_162 : Cond.instantiable RX3 7 ∈ WALL := mw0 (List.mem_append_right _ (List.mem_append_left _ (mem_i 105 rfl))) rfl
theorem W_164 : Cond.instanceMethod yX3_init ∈ WALL := mw0 (List.mem_append_right _ (List.mem_append_left _ (mem_i 107 rfl))) rfl
theorem W_165 : Cond.code yX3_init cX3_init 1 none ∈ WALL := mw0 (List.mem_append_right _ (List.mem_append_left _ (mem_i 108 rfl))) rfl
theorem W_166 : Cond.methodLink RX3 3 objectInit ∈ WALL := mw0 (List.mem_append_right _ (List.mem_append_left _ (mem_i 109 rfl))) rfl
theorem W_167 : Cond.fieldLink RX3 9 "WishMeter$Search" "found" "Z" ∈ WALL := mw0 (List.mem_append_right _ (List.mem_append_left _ (mem_i 110 rfl))) rfl
theorem W_168 : Cond.fieldLink RX4 177 "WishMeter$Search" "found" "Z" ∈ WALL := mw0 (List.mem_append_right _ (List.mem_append_left _ (mem_i 111 rfl))) rfl
theorem W_169 : Cond.fieldLink RX3 15 "WishMeter$Search" "bestWorth" "I" ∈ WALL := mw0 (List.mem_append_right _ (List.mem_append_left _ (mem_i 112 rfl))) rfl
theorem W_170 : Cond.fieldLink RX4 168 "WishMeter$Search" "bestWorth" "I" ∈ WALL := mw0 (List.mem_append_right _ (List.mem_append_left _ (mem_i 113 rfl))) rfl
theorem W_171 : Cond.fieldLink RX3 19 "WishMeter$Search" "bestWay" "[I" ∈ WALL := mw0 (List.mem_append_right _ (List.mem_append_left _ (mem_i 114 rfl))) rfl
theorem W_172 : Cond.fieldLink RX4 171 "WishMeter$Search" "bestWay" "[I" ∈ WALL := mw0 (List.mem_append_right _ (List.mem_append_left _ (mem_i 115 rfl))) rfl
theorem W_173 : Cond.fieldLink RX3 23 "WishMeter$Search" "way" "[I" ∈ WALL := mw0 (List.mem_append_right _ (List.mem_append_left _ (mem_i 116 rfl))) rfl
theorem W_174 : Cond.fieldLink RX3 26 "WishMeter$Search" "rest" "[I" ∈ WALL := mw0 (List.mem_append_right _ (List.mem_append_left _ (mem_i 117 rfl))) rfl
theorem W_175 : Cond.fieldLink RX3 29 "WishMeter$Search" "mustGet" "[I" ∈ WALL := mw0 (List.mem_append_right _ (List.mem_append_left _ (mem_i 118 rfl))) rfl
theorem W_176 : Cond.fieldLink RX3 32 "WishMeter$Search" "byDue" "Z" ∈ WALL := mw0 (List.mem_append_right _ (List.mem_append_left _ (mem_i 119 rfl))) rfl
theorem W_192 : Cond.classLink RX4 27 RX2 ∈ WALL := mw0 (List.mem_append_right _ (List.mem_append_left _ (mem_i 135 rfl))) rfl
theorem W_193 : Cond.instantiable RX2 7 ∈ WALL := mw0 (List.mem_append_right _ (List.mem_append_left _ (mem_i 136 rfl))) rfl
theorem W_195 : Cond.instanceMethod yX2_init ∈ WALL := mw0 (List.mem_append_right _ (List.mem_append_left _ (mem_i 138 rfl))) rfl
theorem W_196 : Cond.code yX2_init cX2_init 1 none ∈ WALL := mw0 (List.mem_append_right _ (List.mem_append_left _ (mem_i 139 rfl))) rfl
theorem W_197 : Cond.methodLink RX2 3 objectInit ∈ WALL := mw0 (List.mem_append_right _ (List.mem_append_left _ (mem_i 140 rfl))) rfl
theorem W_198 : Cond.classLink RX2 9 RX1 ∈ WALL := mw0 (List.mem_append_right _ (List.mem_append_left _ (mem_i 141 rfl))) rfl
theorem W_200 : Cond.fieldLink RX2 12 "WishMeter$Reader" "draft" "LWishMeter$Pipe;" ∈ WALL := mw0 (List.mem_append_right _ (List.mem_append_left _ (mem_i 143 rfl))) rfl
theorem W_201 : Cond.fieldLink RX4 92 "WishMeter$Reader" "draft" "LWishMeter$Pipe;" ∈ WALL := mw0 (List.mem_append_right _ (List.mem_append_left _ (mem_i 144 rfl))) rfl
theorem W_202 : Cond.fieldLink RX2 18 "WishMeter$Reader" "start" "I" ∈ WALL := mw0 (List.mem_append_right _ (List.mem_append_left _ (mem_i 145 rfl))) rfl
theorem W_203 : Cond.fieldLink RX4 89 "WishMeter$Reader" "start" "I" ∈ WALL := mw0 (List.mem_append_right _ (List.mem_append_left _ (mem_i 146 rfl))) rfl
theorem W_204 : Cond.fieldLink RX2 22 "WishMeter$Reader" "length" "I" ∈ WALL := mw0 (List.mem_append_right _ (List.mem_append_left _ (mem_i 147 rfl))) rfl
theorem W_205 : Cond.fieldLink RX4 79 "WishMeter$Reader" "length" "I" ∈ WALL := mw0 (List.mem_append_right _ (List.mem_append_left _ (mem_i 148 rfl))) rfl
theorem W_206 : Cond.fieldLink RX2 25 "WishMeter$Reader" "text" "[B" ∈ WALL := mw0 (List.mem_append_right _ (List.mem_append_left _ (mem_i 149 rfl))) rfl
theorem W_207 : Cond.fieldLink RX2 29 "WishMeter$Reader" "next" "I" ∈ WALL := mw0 (List.mem_append_right _ (List.mem_append_left _ (mem_i 150 rfl))) rfl
theorem W_208 : Cond.fieldLink RX2 32 "WishMeter$Reader" "token" "I" ∈ WALL := mw0 (List.mem_append_right _ (List.mem_append_left _ (mem_i 151 rfl))) rfl
theorem W_209 : Cond.fieldLink RX2 35 "WishMeter$Reader" "value" "I" ∈ WALL := mw0 (List.mem_append_right _ (List.mem_append_left _ (mem_i 152 rfl))) rfl
theorem W_225 : Cond.arrayClass .byte ∈ WALL := mw0 (List.mem_append_right _ (List.mem_append_left _ (mem_i 168 rfl))) rfl
theorem W_226 : Cond.fieldLink RX4 12 "WishMeter" "now" "LWishMeter$Pipe;" ∈ WALL := mw0 (List.mem_append_right _ (List.mem_append_left _ (mem_i 169 rfl))) rfl
theorem W_227 : Cond.fieldLink RX4 16 "WishMeter" "images" "[LWishMeter$Pipe;" ∈ WALL := mw0 (List.mem_append_right _ (List.mem_append_left _ (mem_i 170 rfl))) rfl
theorem W_228 : Cond.fieldLink RX4 23 "WishMeter" "search" "LWishMeter$Search;" ∈ WALL := mw0 (List.mem_append_right _ (List.mem_append_left _ (mem_i 171 rfl))) rfl
theorem W_229 : Cond.fieldLink RX4 30 "WishMeter" "reader" "LWishMeter$Reader;" ∈ WALL := mw0 (List.mem_append_right _ (List.mem_append_left _ (mem_i 172 rfl))) rfl
theorem W_230 : Cond.fieldLink RX4 34 "WishMeter" "above" "I" ∈ WALL := mw0 (List.mem_append_right _ (List.mem_append_left _ (mem_i 173 rfl))) rfl
theorem W_231 : Cond.fieldLink RX4 38 "WishMeter" "below" "I" ∈ WALL := mw0 (List.mem_append_right _ (List.mem_append_left _ (mem_i 174 rfl))) rfl
theorem W_232 : Cond.fieldLink RX4 41 "WishMeter" "bads" "I" ∈ WALL := mw0 (List.mem_append_right _ (List.mem_append_left _ (mem_i 175 rfl))) rfl
theorem W_233 : Cond.fieldLink RX4 44 "WishMeter" "nos" "I" ∈ WALL := mw0 (List.mem_append_right _ (List.mem_append_left _ (mem_i 176 rfl))) rfl
theorem W_234 : Cond.fieldLink RX4 47 "WishMeter" "fulls" "I" ∈ WALL := mw0 (List.mem_append_right _ (List.mem_append_left _ (mem_i 177 rfl))) rfl
theorem W_258 : Cond.methodLink RX4 50 yX4_isPressure ∈ WALL := mw0 (List.mem_append_right _ (List.mem_append_left _ (mem_i 201 rfl))) rfl
theorem W_259 : Cond.static yX4_isPressure ∈ WALL := mw0 (List.mem_append_right _ (List.mem_append_left _ (mem_i 202 rfl))) rfl
theorem W_260 : Cond.code yX4_isPressure cX4_isPressure 1 (some .boolean) ∈ WALL := mw0 (List.mem_append_right _ (List.mem_append_left _ (mem_i 203 rfl))) rfl
theorem W_261 : Cond.methodLink RX4 65 yX4_within ∈ WALL := mw0 (List.mem_append_right _ (List.mem_append_left _ (mem_i 204 rfl))) rfl
theorem W_262 : Cond.static yX4_within ∈ WALL := mw0 (List.mem_append_right _ (List.mem_append_left _ (mem_i 205 rfl))) rfl
theorem W_263 : Cond.code yX4_within cX4_within 3 (some .boolean) ∈ WALL := mw0 (List.mem_append_right _ (List.mem_append_left _ (mem_i 206 rfl))) rfl
theorem W_264 : Cond.methodLink RX4 54 yX4_bad ∈ WALL := mw0 (List.mem_append_right _ (List.mem_append_left _ (mem_i 207 rfl))) rfl
theorem W_266 : Cond.instanceMethod yX4_bad ∈ WALL := mw0 (List.mem_append_right _ (List.mem_append_left _ (mem_i 209 rfl))) rfl
theorem W_267 : Cond.code yX4_bad cX4_bad 1 (some .int) ∈ WALL := mw0 (List.mem_append_right _ (List.mem_append_left _ (mem_i 210 rfl))) rfl
theorem W_268 : Cond.methodLink RX4 61 yX1_restart ∈ WALL := mw0 (List.mem_append_right _ (List.mem_append_left _ (mem_i 211 rfl))) rfl
theorem W_269 : Cond.instanceMethod yX1_restart ∈ WALL := mw0 (List.mem_append_right _ (List.mem_append_left _ (mem_i 212 rfl))) rfl
theorem W_270 : Cond.selects RX1 yX1_restart yX1_restart ∈ WALL := mw0 (List.mem_append_right _ (List.mem_append_left _ (mem_i 213 rfl))) rfl
theorem W_271 : Cond.code yX1_restart cX1_restart 2 none ∈ WALL := mw0 (List.mem_append_right _ (List.mem_append_left _ (mem_i 214 rfl))) rfl
theorem W_276 : Cond.methodLink RX4 69 yX4_isWanted ∈ WALL := mw0 (List.mem_append_right _ (List.mem_append_left _ (mem_i 219 rfl))) rfl
theorem W_277 : Cond.static yX4_isWanted ∈ WALL := mw0 (List.mem_append_right _ (List.mem_append_left _ (mem_i 220 rfl))) rfl
theorem W_278 : Cond.code yX4_isWanted cX4_isWanted 1 (some .boolean) ∈ WALL := mw0 (List.mem_append_right _ (List.mem_append_left _ (mem_i 221 rfl))) rfl
theorem W_279 : Cond.methodLink RX4 72 yX4_full ∈ WALL := mw0 (List.mem_append_right _ (List.mem_append_left _ (mem_i 222 rfl))) rfl
theorem W_281 : Cond.instanceMethod yX4_full ∈ WALL := mw0 (List.mem_append_right _ (List.mem_append_left _ (mem_i 224 rfl))) rfl
theorem W_282 : Cond.code yX4_full cX4_full 1 (some .int) ∈ WALL := mw0 (List.mem_append_right _ (List.mem_append_left _ (mem_i 225 rfl))) rfl
theorem W_283 : Cond.methodLink RX4 75 yX1_addWell ∈ WALL := mw0 (List.mem_append_right _ (List.mem_append_left _ (mem_i 226 rfl))) rfl
theorem W_284 : Cond.instanceMethod yX1_addWell ∈ WALL := mw0 (List.mem_append_right _ (List.mem_append_left _ (mem_i 227 rfl))) rfl
theorem W_285 : Cond.selects RX1 yX1_addWell yX1_addWell ∈ WALL := mw0 (List.mem_append_right _ (List.mem_append_left _ (mem_i 228 rfl))) rfl
theorem W_286 : Cond.code yX1_addWell cX1_addWell 4 (some .int) ∈ WALL := mw0 (List.mem_append_right _ (List.mem_append_left _ (mem_i 229 rfl))) rfl
theorem W_291 : Cond.methodLink RX4 82 yX2_add ∈ WALL := mw0 (List.mem_append_right _ (List.mem_append_left _ (mem_i 234 rfl))) rfl
theorem W_292 : Cond.instanceMethod yX2_add ∈ WALL := mw0 (List.mem_append_right _ (List.mem_append_left _ (mem_i 235 rfl))) rfl
theorem W_293 : Cond.selects RX2 yX2_add yX2_add ∈ WALL := mw0 (List.mem_append_right _ (List.mem_append_left _ (mem_i 236 rfl))) rfl
theorem W_294 : Cond.code yX2_add cX2_add 2 (some .int) ∈ WALL := mw0 (List.mem_append_right _ (List.mem_append_left _ (mem_i 237 rfl))) rfl
theorem W_303 : Cond.methodLink RX4 86 yX2_parse ∈ WALL := mw0 (List.mem_append_right _ (List.mem_append_right _ (List.mem_append_left _ (mem_i 6 rfl)))) rfl
theorem W_304 : Cond.instanceMethod yX2_parse ∈ WALL := mw0 (List.mem_append_right _ (List.mem_append_right _ (List.mem_append_left _ (mem_i 7 rfl)))) rfl
theorem W_305 : Cond.selects RX2 yX2_parse yX2_parse ∈ WALL := mw0 (List.mem_append_right _ (List.mem_append_right _ (List.mem_append_left _ (mem_i 8 rfl)))) rfl
theorem W_306 : Cond.code yX2_parse cX2_parse 3 (some .int) ∈ WALL := mw0 (List.mem_append_right _ (List.mem_append_right _ (List.mem_append_left _ (mem_i 9 rfl)))) rfl
theorem W_307 : Cond.methodLink RX2 38 yX1_restart ∈ WALL := mw0 (List.mem_append_right _ (List.mem_append_right _ (List.mem_append_left _ (mem_i 10 rfl)))) rfl
theorem W_308 : Cond.methodLink RX2 42 yX2_step ∈ WALL := mw0 (List.mem_append_right _ (List.mem_append_right _ (List.mem_append_left _ (mem_i 11 rfl)))) rfl
theorem W_310 : Cond.instanceMethod yX2_step ∈ WALL := mw0 (List.mem_append_right _ (List.mem_append_right _ (List.mem_append_left _ (mem_i 13 rfl)))) rfl
theorem W_311 : Cond.code yX2_step cX2_step 1 none ∈ WALL := mw0 (List.mem_append_right _ (List.mem_append_right _ (List.mem_append_left _ (mem_i 14 rfl)))) rfl
theorem W_312 : Cond.methodLink RX2 86 yX2_isLetter ∈ WALL := mw0 (List.mem_append_right _ (List.mem_append_right _ (List.mem_append_left _ (mem_i 15 rfl)))) rfl
theorem W_313 : Cond.static yX2_isLetter ∈ WALL := mw0 (List.mem_append_right _ (List.mem_append_right _ (List.mem_append_left _ (mem_i 16 rfl)))) rfl
theorem W_314 : Cond.code yX2_isLetter cX2_isLetter 1 (some .boolean) ∈ WALL := mw0 (List.mem_append_right _ (List.mem_append_right _ (List.mem_append_left _ (mem_i 17 rfl)))) rfl
theorem W_315 : Cond.methodLink RX2 90 yX2_takeWord ∈ WALL := mw0 (List.mem_append_right _ (List.mem_append_right _ (List.mem_append_left _ (mem_i 18 rfl)))) rfl
theorem W_317 : Cond.instanceMethod yX2_takeWord ∈ WALL := mw0 (List.mem_append_right _ (List.mem_append_right _ (List.mem_append_left _ (mem_i 20 rfl)))) rfl
theorem W_318 : Cond.code yX2_takeWord cX2_takeWord 2 none ∈ WALL := mw0 (List.mem_append_right _ (List.mem_append_right _ (List.mem_append_left _ (mem_i 21 rfl)))) rfl
theorem W_319 : Cond.methodLink RX2 93 yX2_isFigure ∈ WALL := mw0 (List.mem_append_right _ (List.mem_append_right _ (List.mem_append_left _ (mem_i 22 rfl)))) rfl
theorem W_320 : Cond.static yX2_isFigure ∈ WALL := mw0 (List.mem_append_right _ (List.mem_append_right _ (List.mem_append_left _ (mem_i 23 rfl)))) rfl
theorem W_321 : Cond.code yX2_isFigure cX2_isFigure 1 (some .boolean) ∈ WALL := mw0 (List.mem_append_right _ (List.mem_append_right _ (List.mem_append_left _ (mem_i 24 rfl)))) rfl
theorem W_322 : Cond.methodLink RX2 96 yX2_takeNumber ∈ WALL := mw0 (List.mem_append_right _ (List.mem_append_right _ (List.mem_append_left _ (mem_i 25 rfl)))) rfl
theorem W_324 : Cond.instanceMethod yX2_takeNumber ∈ WALL := mw0 (List.mem_append_right _ (List.mem_append_right _ (List.mem_append_left _ (mem_i 27 rfl)))) rfl
theorem W_325 : Cond.code yX2_takeNumber cX2_takeNumber 1 none ∈ WALL := mw0 (List.mem_append_right _ (List.mem_append_right _ (List.mem_append_left _ (mem_i 28 rfl)))) rfl
theorem W_326 : Cond.methodLink RX2 99 yX2_takeSign ∈ WALL := mw0 (List.mem_append_right _ (List.mem_append_right _ (List.mem_append_left _ (mem_i 29 rfl)))) rfl
theorem W_328 : Cond.instanceMethod yX2_takeSign ∈ WALL := mw0 (List.mem_append_right _ (List.mem_append_right _ (List.mem_append_left _ (mem_i 31 rfl)))) rfl
theorem W_329 : Cond.code yX2_takeSign cX2_takeSign 1 none ∈ WALL := mw0 (List.mem_append_right _ (List.mem_append_right _ (List.mem_append_left _ (mem_i 32 rfl)))) rfl
theorem W_330 : Cond.methodLink RX2 45 yX2_mainItem ∈ WALL := mw0 (List.mem_append_right _ (List.mem_append_right _ (List.mem_append_left _ (mem_i 33 rfl)))) rfl
theorem W_332 : Cond.instanceMethod yX2_mainItem ∈ WALL := mw0 (List.mem_append_right _ (List.mem_append_right _ (List.mem_append_left _ (mem_i 35 rfl)))) rfl
theorem W_333 : Cond.code yX2_mainItem cX2_mainItem 1 (some .boolean) ∈ WALL := mw0 (List.mem_append_right _ (List.mem_append_right _ (List.mem_append_left _ (mem_i 36 rfl)))) rfl
theorem W_334 : Cond.methodLink RX2 58 yX2_isNumber ∈ WALL := mw0 (List.mem_append_right _ (List.mem_append_right _ (List.mem_append_left _ (mem_i 37 rfl)))) rfl
theorem W_336 : Cond.instanceMethod yX2_isNumber ∈ WALL := mw0 (List.mem_append_right _ (List.mem_append_right _ (List.mem_append_left _ (mem_i 39 rfl)))) rfl
theorem W_337 : Cond.code yX2_isNumber cX2_isNumber 3 (some .boolean) ∈ WALL := mw0 (List.mem_append_right _ (List.mem_append_right _ (List.mem_append_left _ (mem_i 40 rfl)))) rfl
theorem W_338 : Cond.methodLink RX2 65 yX2_semicolon ∈ WALL := mw0 (List.mem_append_right _ (List.mem_append_right _ (List.mem_append_left _ (mem_i 41 rfl)))) rfl
theorem W_340 : Cond.instanceMethod yX2_semicolon ∈ WALL := mw0 (List.mem_append_right _ (List.mem_append_right _ (List.mem_append_left _ (mem_i 43 rfl)))) rfl
theorem W_341 : Cond.code yX2_semicolon cX2_semicolon 1 (some .boolean) ∈ WALL := mw0 (List.mem_append_right _ (List.mem_append_right _ (List.mem_append_left _ (mem_i 44 rfl)))) rfl
theorem W_342 : Cond.methodLink RX2 49 yX2_wellItem ∈ WALL := mw0 (List.mem_append_right _ (List.mem_append_right _ (List.mem_append_left _ (mem_i 45 rfl)))) rfl
theorem W_344 : Cond.instanceMethod yX2_wellItem ∈ WALL := mw0 (List.mem_append_right _ (List.mem_append_right _ (List.mem_append_left _ (mem_i 47 rfl)))) rfl
theorem W_345 : Cond.code yX2_wellItem cX2_wellItem 4 (some .boolean) ∈ WALL := mw0 (List.mem_append_right _ (List.mem_append_right _ (List.mem_append_left _ (mem_i 48 rfl)))) rfl
theorem W_346 : Cond.methodLink RX2 71 yX2_readHours ∈ WALL := mw0 (List.mem_append_right _ (List.mem_append_right _ (List.mem_append_left _ (mem_i 49 rfl)))) rfl
theorem W_348 : Cond.instanceMethod yX2_readHours ∈ WALL := mw0 (List.mem_append_right _ (List.mem_append_right _ (List.mem_append_left _ (mem_i 51 rfl)))) rfl
theorem W_349 : Cond.code yX2_readHours cX2_readHours 3 (some .int) ∈ WALL := mw0 (List.mem_append_right _ (List.mem_append_right _ (List.mem_append_left _ (mem_i 52 rfl)))) rfl
theorem W_350 : Cond.methodLink RX2 75 yX1_addWell ∈ WALL := mw0 (List.mem_append_right _ (List.mem_append_right _ (List.mem_append_left _ (mem_i 53 rfl)))) rfl
theorem W_351 : Cond.methodLink RX2 52 yX2_turnItem ∈ WALL := mw0 (List.mem_append_right _ (List.mem_append_right _ (List.mem_append_left _ (mem_i 54 rfl)))) rfl
theorem W_353 : Cond.instanceMethod yX2_turnItem ∈ WALL := mw0 (List.mem_append_right _ (List.mem_append_right _ (List.mem_append_left _ (mem_i 56 rfl)))) rfl
theorem W_354 : Cond.code yX2_turnItem cX2_turnItem 3 (some .boolean) ∈ WALL := mw0 (List.mem_append_right _ (List.mem_append_right _ (List.mem_append_left _ (mem_i 57 rfl)))) rfl
theorem W_355 : Cond.methodLink RX2 55 yX2_dayItem ∈ WALL := mw0 (List.mem_append_right _ (List.mem_append_right _ (List.mem_append_left _ (mem_i 58 rfl)))) rfl
theorem W_357 : Cond.instanceMethod yX2_dayItem ∈ WALL := mw0 (List.mem_append_right _ (List.mem_append_right _ (List.mem_append_left _ (mem_i 60 rfl)))) rfl
theorem W_358 : Cond.code yX2_dayItem cX2_dayItem 1 (some .boolean) ∈ WALL := mw0 (List.mem_append_right _ (List.mem_append_right _ (List.mem_append_left _ (mem_i 61 rfl)))) rfl
theorem W_359 : Cond.methodLink RX2 83 yX1_passDay ∈ WALL := mw0 (List.mem_append_right _ (List.mem_append_right _ (List.mem_append_left _ (mem_i 62 rfl)))) rfl
theorem W_360 : Cond.instanceMethod yX1_passDay ∈ WALL := mw0 (List.mem_append_right _ (List.mem_append_right _ (List.mem_append_left _ (mem_i 63 rfl)))) rfl
theorem W_361 : Cond.selects RX1 yX1_passDay yX1_passDay ∈ WALL := mw0 (List.mem_append_right _ (List.mem_append_right _ (List.mem_append_left _ (mem_i 64 rfl)))) rfl
theorem W_362 : Cond.code yX1_passDay cX1_passDay 4 (some .int) ∈ WALL := mw0 (List.mem_append_right _ (List.mem_append_right _ (List.mem_append_left _ (mem_i 65 rfl)))) rfl
theorem W_363 : Cond.methodLink RX1 73 yX1_openIn ∈ WALL := mw0 (List.mem_append_right _ (List.mem_append_right _ (List.mem_append_left _ (mem_i 66 rfl)))) rfl
theorem W_364 : Cond.instanceMethod yX1_openIn ∈ WALL := mw0 (List.mem_append_right _ (List.mem_append_right _ (List.mem_append_left _ (mem_i 67 rfl)))) rfl
theorem W_365 : Cond.selects RX1 yX1_openIn yX1_openIn ∈ WALL := mw0 (List.mem_append_right _ (List.mem_append_right _ (List.mem_append_left _ (mem_i 68 rfl)))) rfl
theorem W_366 : Cond.code yX1_openIn cX1_openIn 4 (some .int) ∈ WALL := mw0 (List.mem_append_right _ (List.mem_append_right _ (List.mem_append_left _ (mem_i 69 rfl)))) rfl
theorem W_367 : Cond.methodLink RX1 86 yX1_isOpen ∈ WALL := mw0 (List.mem_append_right _ (List.mem_append_right _ (List.mem_append_left _ (mem_i 70 rfl)))) rfl
theorem W_368 : Cond.instanceMethod yX1_isOpen ∈ WALL := mw0 (List.mem_append_right _ (List.mem_append_right _ (List.mem_append_left _ (mem_i 71 rfl)))) rfl
theorem W_369 : Cond.selects RX1 yX1_isOpen yX1_isOpen ∈ WALL := mw0 (List.mem_append_right _ (List.mem_append_right _ (List.mem_append_left _ (mem_i 72 rfl)))) rfl
theorem W_370 : Cond.code yX1_isOpen cX1_isOpen 3 (some .boolean) ∈ WALL := mw0 (List.mem_append_right _ (List.mem_append_right _ (List.mem_append_left _ (mem_i 73 rfl)))) rfl
theorem W_371 : Cond.methodLink RX1 77 yX1_runHour ∈ WALL := mw0 (List.mem_append_right _ (List.mem_append_right _ (List.mem_append_left _ (mem_i 74 rfl)))) rfl
theorem W_372 : Cond.instanceMethod yX1_runHour ∈ WALL := mw0 (List.mem_append_right _ (List.mem_append_right _ (List.mem_append_left _ (mem_i 75 rfl)))) rfl
theorem W_373 : Cond.selects RX1 yX1_runHour yX1_runHour ∈ WALL := mw0 (List.mem_append_right _ (List.mem_append_right _ (List.mem_append_left _ (mem_i 76 rfl)))) rfl
theorem W_374 : Cond.code yX1_runHour cX1_runHour 5 none ∈ WALL := mw0 (List.mem_append_right _ (List.mem_append_right _ (List.mem_append_left _ (mem_i 77 rfl)))) rfl
theorem W_375 : Cond.methodLink RX1 90 yX0_gets ∈ WALL := mw0 (List.mem_append_right _ (List.mem_append_right _ (List.mem_append_left _ (mem_i 78 rfl)))) rfl
theorem W_376 : Cond.static yX0_gets ∈ WALL := mw0 (List.mem_append_right _ (List.mem_append_right _ (List.mem_append_left _ (mem_i 79 rfl)))) rfl
theorem W_377 : Cond.code yX0_gets cX0_gets 6 (some .int) ∈ WALL := mw0 (List.mem_append_right _ (List.mem_append_right _ (List.mem_append_left _ (mem_i 80 rfl)))) rfl
theorem W_378 : Cond.methodLink RX0 9 Lib.Math.min.name ∈ WALL := mw0 (List.mem_append_right _ (List.mem_append_right _ (List.mem_append_left _ (mem_i 81 rfl)))) rfl
theorem W_379 : Cond.static Lib.Math.min.name ∈ WALL := mw0 (List.mem_append_right _ (List.mem_append_right _ (List.mem_append_left _ (mem_i 82 rfl)))) rfl
theorem W_380 : Cond.code Lib.Math.min.name Lib.Math.min.code 2 (some .int) ∈ WALL := mw0 (List.mem_append_right _ (List.mem_append_right _ (List.mem_append_left _ (mem_i 83 rfl)))) rfl
theorem W_381 : Cond.methodLink RX1 81 yX0_due ∈ WALL := mw0 (List.mem_append_right _ (List.mem_append_right _ (List.mem_append_left _ (mem_i 84 rfl)))) rfl
theorem W_382 : Cond.static yX0_due ∈ WALL := mw0 (List.mem_append_right _ (List.mem_append_right _ (List.mem_append_left _ (mem_i 85 rfl)))) rfl
theorem W_383 : Cond.code yX0_due cX0_due 2 (some .int) ∈ WALL := mw0 (List.mem_append_right _ (List.mem_append_right _ (List.mem_append_left _ (mem_i 86 rfl)))) rfl
theorem W_384 : Cond.methodLink RX4 95 yX1_copyFrom ∈ WALL := mw0 (List.mem_append_right _ (List.mem_append_right _ (List.mem_append_left _ (mem_i 87 rfl)))) rfl
theorem W_385 : Cond.instanceMethod yX1_copyFrom ∈ WALL := mw0 (List.mem_append_right _ (List.mem_append_right _ (List.mem_append_left _ (mem_i 88 rfl)))) rfl
theorem W_386 : Cond.selects RX1 yX1_copyFrom yX1_copyFrom ∈ WALL := mw0 (List.mem_append_right _ (List.mem_append_right _ (List.mem_append_left _ (mem_i 89 rfl)))) rfl
theorem W_387 : Cond.code yX1_copyFrom cX1_copyFrom 2 none ∈ WALL := mw0 (List.mem_append_right _ (List.mem_append_right _ (List.mem_append_left _ (mem_i 90 rfl)))) rfl
theorem W_388 : Cond.methodLink RX1 67 arraycopyName ∈ WALL := mw0 (List.mem_append_right _ (List.mem_append_right _ (List.mem_append_left _ (mem_i 91 rfl)))) rfl
theorem W_389 : Cond.static arraycopyName ∈ WALL := mw0 (List.mem_append_right _ (List.mem_append_right _ (List.mem_append_left _ (mem_i 92 rfl)))) rfl
theorem W_390 : Cond.native arraycopyName ∈ WALL := mw0 (List.mem_append_right _ (List.mem_append_right _ (List.mem_append_left _ (mem_i 93 rfl)))) rfl
theorem W_395 : Cond.methodLink RX4 99 yX1_remember ∈ WALL := mw0 (List.mem_append_right _ (List.mem_append_right _ (List.mem_append_left _ (mem_i 98 rfl)))) rfl
theorem W_396 : Cond.instanceMethod yX1_remember ∈ WALL := mw0 (List.mem_append_right _ (List.mem_append_right _ (List.mem_append_left _ (mem_i 99 rfl)))) rfl
theorem W_397 : Cond.selects RX1 yX1_remember yX1_remember ∈ WALL := mw0 (List.mem_append_right _ (List.mem_append_right _ (List.mem_append_left _ (mem_i 100 rfl)))) rfl
theorem W_398 : Cond.code yX1_remember cX1_remember 2 none ∈ WALL := mw0 (List.mem_append_right _ (List.mem_append_right _ (List.mem_append_left _ (mem_i 101 rfl)))) rfl
theorem W_399 : Cond.methodLink RX4 102 yX1_passDay ∈ WALL := mw0 (List.mem_append_right _ (List.mem_append_right _ (List.mem_append_left _ (mem_i 102 rfl)))) rfl
theorem W_404 : Cond.methodLink RX4 105 yX1_has ∈ WALL := mw0 (List.mem_append_right _ (List.mem_append_right _ (List.mem_append_left _ (mem_i 107 rfl)))) rfl
theorem W_405 : Cond.instanceMethod yX1_has ∈ WALL := mw0 (List.mem_append_right _ (List.mem_append_right _ (List.mem_append_left _ (mem_i 108 rfl)))) rfl
theorem W_406 : Cond.selects RX1 yX1_has yX1_has ∈ WALL := mw0 (List.mem_append_right _ (List.mem_append_right _ (List.mem_append_left _ (mem_i 109 rfl)))) rfl
theorem W_407 : Cond.code yX1_has cX1_has 2 (some .boolean) ∈ WALL := mw0 (List.mem_append_right _ (List.mem_append_right _ (List.mem_append_left _ (mem_i 110 rfl)))) rfl
theorem W_420 : Cond.methodLink RX4 121 yX4_no ∈ WALL := mw0 (List.mem_append_right _ (List.mem_append_right _ (List.mem_append_left _ (mem_i 123 rfl)))) rfl
theorem W_422 : Cond.instanceMethod yX4_no ∈ WALL := mw0 (List.mem_append_right _ (List.mem_append_right _ (List.mem_append_left _ (mem_i 125 rfl)))) rfl
theorem W_423 : Cond.code yX4_no cX4_no 1 (some .int) ∈ WALL := mw0 (List.mem_append_right _ (List.mem_append_right _ (List.mem_append_left _ (mem_i 126 rfl)))) rfl
theorem W_424 : Cond.methodLink RX4 124 yX1_goBack ∈ WALL := mw0 (List.mem_append_right _ (List.mem_append_right _ (List.mem_append_left _ (mem_i 127 rfl)))) rfl
theorem W_425 : Cond.instanceMethod yX1_goBack ∈ WALL := mw0 (List.mem_append_right _ (List.mem_append_right _ (List.mem_append_left _ (mem_i 128 rfl)))) rfl
theorem W_426 : Cond.selects RX1 yX1_goBack yX1_goBack ∈ WALL := mw0 (List.mem_append_right _ (List.mem_append_right _ (List.mem_append_left _ (mem_i 129 rfl)))) rfl
theorem W_427 : Cond.code yX1_goBack cX1_goBack 2 none ∈ WALL := mw0 (List.mem_append_right _ (List.mem_append_right _ (List.mem_append_left _ (mem_i 130 rfl)))) rfl
theorem W_436 : Cond.methodLink RX4 139 yX4_isHour ∈ WALL := mw0 (List.mem_append_right _ (List.mem_append_right _ (List.mem_append_left _ (mem_i 139 rfl)))) rfl
theorem W_437 : Cond.static yX4_isHour ∈ WALL := mw0 (List.mem_append_right _ (List.mem_append_right _ (List.mem_append_left _ (mem_i 140 rfl)))) rfl
theorem W_438 : Cond.code yX4_isHour cX4_isHour 1 (some .boolean) ∈ WALL := mw0 (List.mem_append_right _ (List.mem_append_right _ (List.mem_append_left _ (mem_i 141 rfl)))) rfl
theorem W_439 : Cond.methodLink RX4 142 yX1_openIn ∈ WALL := mw0 (List.mem_append_right _ (List.mem_append_right _ (List.mem_append_left _ (mem_i 142 rfl)))) rfl
theorem W_440 : Cond.methodLink RX4 145 yX1_runHour ∈ WALL := mw0 (List.mem_append_right _ (List.mem_append_right _ (List.mem_append_left _ (mem_i 143 rfl)))) rfl
theorem W_445 : Cond.methodLink RX4 158 yX4_dailyOfOne ∈ WALL := mw0 (List.mem_append_right _ (List.mem_append_right _ (List.mem_append_left _ (mem_i 148 rfl)))) rfl
theorem W_447 : Cond.instanceMethod yX4_dailyOfOne ∈ WALL := mw0 (List.mem_append_right _ (List.mem_append_right _ (List.mem_append_left _ (mem_i 150 rfl)))) rfl
theorem W_448 : Cond.code yX4_dailyOfOne cX4_dailyOfOne 3 (some .int) ∈ WALL := mw0 (List.mem_append_right _ (List.mem_append_right _ (List.mem_append_left _ (mem_i 151 rfl)))) rfl
theorem W_449 : Cond.methodLink RX4 184 yX1_everyWell ∈ WALL := mw0 (List.mem_append_right _ (List.mem_append_right _ (List.mem_append_left _ (mem_i 152 rfl)))) rfl
theorem W_450 : Cond.instanceMethod yX1_everyWell ∈ WALL := mw0 (List.mem_append_right _ (List.mem_append_right _ (List.mem_append_left _ (mem_i 153 rfl)))) rfl
theorem W_451 : Cond.selects RX1 yX1_everyWell yX1_everyWell ∈ WALL := mw0 (List.mem_append_right _ (List.mem_append_right _ (List.mem_append_left _ (mem_i 154 rfl)))) rfl
theorem W_452 : Cond.code yX1_everyWell cX1_everyWell 1 (some .int) ∈ WALL := mw0 (List.mem_append_right _ (List.mem_append_right _ (List.mem_append_left _ (mem_i 155 rfl)))) rfl
theorem W_453 : Cond.methodLink RX4 187 yX1_dailyGets ∈ WALL := mw0 (List.mem_append_right _ (List.mem_append_right _ (List.mem_append_left _ (mem_i 156 rfl)))) rfl
theorem W_454 : Cond.instanceMethod yX1_dailyGets ∈ WALL := mw0 (List.mem_append_right _ (List.mem_append_right _ (List.mem_append_left _ (mem_i 157 rfl)))) rfl
theorem W_455 : Cond.selects RX1 yX1_dailyGets yX1_dailyGets ∈ WALL := mw0 (List.mem_append_right _ (List.mem_append_right _ (List.mem_append_left _ (mem_i 158 rfl)))) rfl
theorem W_456 : Cond.code yX1_dailyGets cX1_dailyGets 5 (some .int) ∈ WALL := mw0 (List.mem_append_right _ (List.mem_append_right _ (List.mem_append_left _ (mem_i 159 rfl)))) rfl
theorem W_457 : Cond.methodLink RX4 261 yX1_dailyDue ∈ WALL := mw0 (List.mem_append_right _ (List.mem_append_right _ (List.mem_append_left _ (mem_i 160 rfl)))) rfl
theorem W_458 : Cond.instanceMethod yX1_dailyDue ∈ WALL := mw0 (List.mem_append_right _ (List.mem_append_right _ (List.mem_append_left _ (mem_i 161 rfl)))) rfl
theorem W_459 : Cond.selects RX1 yX1_dailyDue yX1_dailyDue ∈ WALL := mw0 (List.mem_append_right _ (List.mem_append_right _ (List.mem_append_left _ (mem_i 162 rfl)))) rfl
theorem W_460 : Cond.code yX1_dailyDue cX1_dailyDue 4 (some .int) ∈ WALL := mw0 (List.mem_append_right _ (List.mem_append_right _ (List.mem_append_left _ (mem_i 163 rfl)))) rfl
theorem W_461 : Cond.methodLink RX1 93 yX1_getsAt ∈ WALL := mw0 (List.mem_append_right _ (List.mem_append_right _ (List.mem_append_left _ (mem_i 164 rfl)))) rfl
theorem W_462 : Cond.instanceMethod yX1_getsAt ∈ WALL := mw0 (List.mem_append_right _ (List.mem_append_right _ (List.mem_append_left _ (mem_i 165 rfl)))) rfl
theorem W_463 : Cond.selects RX1 yX1_getsAt yX1_getsAt ∈ WALL := mw0 (List.mem_append_right _ (List.mem_append_right _ (List.mem_append_left _ (mem_i 166 rfl)))) rfl
theorem W_464 : Cond.code yX1_getsAt cX1_getsAt 4 (some .int) ∈ WALL := mw0 (List.mem_append_right _ (List.mem_append_right _ (List.mem_append_left _ (mem_i 167 rfl)))) rfl
theorem W_469 : Cond.methodLink RX4 162 yX4_badHere ∈ WALL := mw0 (List.mem_append_right _ (List.mem_append_right _ (List.mem_append_left _ (mem_i 172 rfl)))) rfl
theorem W_471 : Cond.instanceMethod yX4_badHere ∈ WALL := mw0 (List.mem_append_right _ (List.mem_append_right _ (List.mem_append_left _ (mem_i 174 rfl)))) rfl
theorem W_472 : Cond.code yX4_badHere cX4_badHere 1 (some .int) ∈ WALL := mw0 (List.mem_append_right _ (List.mem_append_right _ (List.mem_append_left _ (mem_i 175 rfl)))) rfl
theorem W_473 : Cond.methodLink RX4 165 yX3_mostHad ∈ WALL := mw0 (List.mem_append_right _ (List.mem_append_right _ (List.mem_append_left _ (mem_i 176 rfl)))) rfl
theorem W_474 : Cond.instanceMethod yX3_mostHad ∈ WALL := mw0 (List.mem_append_right _ (List.mem_append_right _ (List.mem_append_left _ (mem_i 177 rfl)))) rfl
theorem W_475 : Cond.selects RX3 yX3_mostHad yX3_mostHad ∈ WALL := mw0 (List.mem_append_right _ (List.mem_append_right _ (List.mem_append_left _ (mem_i 178 rfl)))) rfl
theorem W_476 : Cond.code yX3_mostHad cX3_mostHad 3 none ∈ WALL := mw0 (List.mem_append_right _ (List.mem_append_right _ (List.mem_append_left _ (mem_i 179 rfl)))) rfl
theorem W_477 : Cond.methodLink RX3 40 yX3_start ∈ WALL := mw0 (List.mem_append_right _ (List.mem_append_right _ (List.mem_append_left _ (mem_i 180 rfl)))) rfl
theorem W_479 : Cond.instanceMethod yX3_start ∈ WALL := mw0 (List.mem_append_right _ (List.mem_append_right _ (List.mem_append_left _ (mem_i 182 rfl)))) rfl
theorem W_480 : Cond.code yX3_start cX3_start 3 none ∈ WALL := mw0 (List.mem_append_right _ (List.mem_append_right _ (List.mem_append_left _ (mem_i 183 rfl)))) rfl
theorem W_481 : Cond.methodLink RX3 51 yX3_choose ∈ WALL := mw0 (List.mem_append_right _ (List.mem_append_right _ (List.mem_append_left _ (mem_i 184 rfl)))) rfl
theorem W_482 : Cond.static yX3_choose ∈ WALL := mw0 (List.mem_append_right _ (List.mem_append_right _ (List.mem_append_left _ (mem_i 185 rfl)))) rfl
theorem W_483 : Cond.code yX3_choose cX3_choose 6 none ∈ WALL := mw0 (List.mem_append_right _ (List.mem_append_right _ (List.mem_append_left _ (mem_i 186 rfl)))) rfl
theorem W_484 : Cond.methodLink RX3 73 yX3_keepIfBetter ∈ WALL := mw0 (List.mem_append_right _ (List.mem_append_right _ (List.mem_append_left _ (mem_i 187 rfl)))) rfl
theorem W_486 : Cond.instanceMethod yX3_keepIfBetter ∈ WALL := mw0 (List.mem_append_right _ (List.mem_append_right _ (List.mem_append_left _ (mem_i 189 rfl)))) rfl
theorem W_487 : Cond.code yX3_keepIfBetter cX3_keepIfBetter 2 none ∈ WALL := mw0 (List.mem_append_right _ (List.mem_append_right _ (List.mem_append_left _ (mem_i 190 rfl)))) rfl
theorem W_488 : Cond.methodLink RX3 84 arraycopyName ∈ WALL := mw0 (List.mem_append_right _ (List.mem_append_right _ (List.mem_append_left _ (mem_i 191 rfl)))) rfl
theorem W_489 : Cond.methodLink RX3 61 yX0_gets ∈ WALL := mw0 (List.mem_append_right _ (List.mem_append_right _ (List.mem_append_left _ (mem_i 192 rfl)))) rfl
theorem W_490 : Cond.methodLink RX3 77 yX3_isLikeAnEarlierOne ∈ WALL := mw0 (List.mem_append_right _ (List.mem_append_right _ (List.mem_append_left _ (mem_i 193 rfl)))) rfl
theorem W_492 : Cond.instanceMethod yX3_isLikeAnEarlierOne ∈ WALL := mw0 (List.mem_append_right _ (List.mem_append_right _ (List.mem_append_left _ (mem_i 195 rfl)))) rfl
theorem W_493 : Cond.code yX3_isLikeAnEarlierOne cX3_isLikeAnEarlierOne 3 (some .boolean) ∈ WALL := mw0 (List.mem_append_right _ (List.mem_append_right _ (List.mem_append_left _ (mem_i 196 rfl)))) rfl
theorem W_494 : Cond.methodLink RX3 81 yX0_due ∈ WALL := mw0 (List.mem_append_right _ (List.mem_append_right _ (List.mem_append_left _ (mem_i 197 rfl)))) rfl
theorem W_499 : Cond.methodLink RX4 174 yX3_leastDue ∈ WALL := mw0 (List.mem_append_right _ (List.mem_append_right _ (List.mem_append_left _ (mem_i 202 rfl)))) rfl
theorem W_500 : Cond.instanceMethod yX3_leastDue ∈ WALL := mw0 (List.mem_append_right _ (List.mem_append_right _ (List.mem_append_left _ (mem_i 203 rfl)))) rfl
theorem W_501 : Cond.selects RX3 yX3_leastDue yX3_leastDue ∈ WALL := mw0 (List.mem_append_right _ (List.mem_append_right _ (List.mem_append_left _ (mem_i 204 rfl)))) rfl
theorem W_502 : Cond.code yX3_leastDue cX3_leastDue 3 none ∈ WALL := mw0 (List.mem_append_right _ (List.mem_append_right _ (List.mem_append_left _ (mem_i 205 rfl)))) rfl
theorem W_503 : Cond.methodLink RX3 44 yX3_bestAlone ∈ WALL := mw0 (List.mem_append_right _ (List.mem_append_right _ (List.mem_append_left _ (mem_i 206 rfl)))) rfl
theorem W_504 : Cond.static yX3_bestAlone ∈ WALL := mw0 (List.mem_append_right _ (List.mem_append_right _ (List.mem_append_left _ (mem_i 207 rfl)))) rfl
theorem W_505 : Cond.code yX3_bestAlone cX3_bestAlone 4 (some .int) ∈ WALL := mw0 (List.mem_append_right _ (List.mem_append_right _ (List.mem_append_left _ (mem_i 208 rfl)))) rfl
theorem W_506 : Cond.methodLink RX3 67 Lib.Math.max.name ∈ WALL := mw0 (List.mem_append_right _ (List.mem_append_right _ (List.mem_append_left _ (mem_i 209 rfl)))) rfl
theorem W_507 : Cond.static Lib.Math.max.name ∈ WALL := mw0 (List.mem_append_right _ (List.mem_append_right _ (List.mem_append_left _ (mem_i 210 rfl)))) rfl
theorem W_508 : Cond.code Lib.Math.max.name Lib.Math.max.code 2 (some .int) ∈ WALL := mw0 (List.mem_append_right _ (List.mem_append_right _ (List.mem_append_left _ (mem_i 211 rfl)))) rfl
theorem W_513 : Cond.methodLink RX4 181 yX4_isAmple ∈ WALL := mw0 (List.mem_append_right _ (List.mem_append_right _ (List.mem_append_left _ (mem_i 216 rfl)))) rfl
theorem W_515 : Cond.instanceMethod yX4_isAmple ∈ WALL := mw0 (List.mem_append_right _ (List.mem_append_right _ (List.mem_append_left _ (mem_i 218 rfl)))) rfl
theorem W_516 : Cond.code yX4_isAmple cX4_isAmple 4 (some .boolean) ∈ WALL := mw0 (List.mem_append_right _ (List.mem_append_right _ (List.mem_append_left _ (mem_i 219 rfl)))) rfl
theorem W_517 : Cond.methodLink RX4 220 yX1_getsAt ∈ WALL := mw0 (List.mem_append_right _ (List.mem_append_right _ (List.mem_append_left _ (mem_i 220 rfl)))) rfl
theorem W_526 : Cond.methodLink RX4 193 yX1_addLeft ∈ WALL := mw0 (List.mem_append_right _ (List.mem_append_right _ (List.mem_append_left _ (mem_i 229 rfl)))) rfl
theorem W_527 : Cond.instanceMethod yX1_addLeft ∈ WALL := mw0 (List.mem_append_right _ (List.mem_append_right _ (List.mem_append_left _ (mem_i 230 rfl)))) rfl
theorem W_528 : Cond.selects RX1 yX1_addLeft yX1_addLeft ∈ WALL := mw0 (List.mem_append_right _ (List.mem_append_right _ (List.mem_append_left _ (mem_i 231 rfl)))) rfl
theorem W_529 : Cond.code yX1_addLeft cX1_addLeft 3 (some .int) ∈ WALL := mw0 (List.mem_append_right _ (List.mem_append_right _ (List.mem_append_left _ (mem_i 232 rfl)))) rfl
theorem W_534 : Cond.methodLink RX4 196 yX4_fitsLefts ∈ WALL := mw0 (List.mem_append_right _ (List.mem_append_right _ (List.mem_append_left _ (mem_i 237 rfl)))) rfl
theorem W_536 : Cond.instanceMethod yX4_fitsLefts ∈ WALL := mw0 (List.mem_append_right _ (List.mem_append_right _ (List.mem_append_left _ (mem_i 239 rfl)))) rfl
theorem W_537 : Cond.code yX4_fitsLefts cX4_fitsLefts 3 (some .boolean) ∈ WALL := mw0 (List.mem_append_right _ (List.mem_append_right _ (List.mem_append_right _ (List.mem_append_left _ (mem_i 0 rfl))))) rfl
theorem W_542 : Cond.methodLink RX4 202 yX1_addNote ∈ WALL := mw0 (List.mem_append_right _ (List.mem_append_right _ (List.mem_append_right _ (List.mem_append_left _ (mem_i 5 rfl))))) rfl
theorem W_543 : Cond.instanceMethod yX1_addNote ∈ WALL := mw0 (List.mem_append_right _ (List.mem_append_right _ (List.mem_append_right _ (List.mem_append_left _ (mem_i 6 rfl))))) rfl
theorem W_544 : Cond.selects RX1 yX1_addNote yX1_addNote ∈ WALL := mw0 (List.mem_append_right _ (List.mem_append_right _ (List.mem_append_right _ (List.mem_append_left _ (mem_i 7 rfl))))) rfl
theorem W_545 : Cond.code yX1_addNote cX1_addNote 8 (some .int) ∈ WALL := mw0 (List.mem_append_right _ (List.mem_append_right _ (List.mem_append_right _ (List.mem_append_left _ (mem_i 8 rfl))))) rfl
theorem W_554 : Cond.methodLink RX4 206 yX4_kindsOf ∈ WALL := mw0 (List.mem_append_right _ (List.mem_append_right _ (List.mem_append_right _ (List.mem_append_left _ (mem_i 17 rfl))))) rfl
theorem W_556 : Cond.instanceMethod yX4_kindsOf ∈ WALL := mw0 (List.mem_append_right _ (List.mem_append_right _ (List.mem_append_right _ (List.mem_append_left _ (mem_i 19 rfl))))) rfl
theorem W_557 : Cond.code yX4_kindsOf cX4_kindsOf 4 (some .int) ∈ WALL := mw0 (List.mem_append_right _ (List.mem_append_right _ (List.mem_append_right _ (List.mem_append_left _ (mem_i 20 rfl))))) rfl
theorem W_558 : Cond.methodLink RX4 264 yX4_fitsNotes ∈ WALL := mw0 (List.mem_append_right _ (List.mem_append_right _ (List.mem_append_right _ (List.mem_append_left _ (mem_i 21 rfl))))) rfl
theorem W_560 : Cond.instanceMethod yX4_fitsNotes ∈ WALL := mw0 (List.mem_append_right _ (List.mem_append_right _ (List.mem_append_right _ (List.mem_append_left _ (mem_i 23 rfl))))) rfl
theorem W_561 : Cond.code yX4_fitsNotes cX4_fitsNotes 4 (some .boolean) ∈ WALL := mw0 (List.mem_append_right _ (List.mem_append_right _ (List.mem_append_right _ (List.mem_append_left _ (mem_i 24 rfl))))) rfl
theorem W_562 : Cond.methodLink RX4 267 yX4_fitsNote ∈ WALL := mw0 (List.mem_append_right _ (List.mem_append_right _ (List.mem_append_right _ (List.mem_append_left _ (mem_i 25 rfl))))) rfl
theorem W_564 : Cond.instanceMethod yX4_fitsNote ∈ WALL := mw0 (List.mem_append_right _ (List.mem_append_right _ (List.mem_append_right _ (List.mem_append_left _ (mem_i 27 rfl))))) rfl
theorem W_565 : Cond.code yX4_fitsNote cX4_fitsNote 4 (some .boolean) ∈ WALL := mw0 (List.mem_append_right _ (List.mem_append_right _ (List.mem_append_right _ (List.mem_append_left _ (mem_i 28 rfl))))) rfl
theorem W_566 : Cond.methodLink RX4 270 yX0_gets ∈ WALL := mw0 (List.mem_append_right _ (List.mem_append_right _ (List.mem_append_right _ (List.mem_append_left _ (mem_i 29 rfl))))) rfl
theorem W_567 : Cond.methodLink RX4 274 yX0_due ∈ WALL := mw0 (List.mem_append_right _ (List.mem_append_right _ (List.mem_append_right _ (List.mem_append_left _ (mem_i 30 rfl))))) rfl
theorem W_572 : Cond.methodLink RX4 209 yX4_mostAlike ∈ WALL := mw0 (List.mem_append_right _ (List.mem_append_right _ (List.mem_append_right _ (List.mem_append_left _ (mem_i 35 rfl))))) rfl
theorem W_573 : Cond.static yX4_mostAlike ∈ WALL := mw0 (List.mem_append_right _ (List.mem_append_right _ (List.mem_append_right _ (List.mem_append_left _ (mem_i 36 rfl))))) rfl
theorem W_574 : Cond.code yX4_mostAlike cX4_mostAlike 8 (some .int) ∈ WALL := mw0 (List.mem_append_right _ (List.mem_append_right _ (List.mem_append_right _ (List.mem_append_left _ (mem_i 37 rfl))))) rfl
theorem W_575 : Cond.methodLink RX4 276 yX4_areAlike ∈ WALL := mw0 (List.mem_append_right _ (List.mem_append_right _ (List.mem_append_right _ (List.mem_append_left _ (mem_i 38 rfl))))) rfl
theorem W_576 : Cond.static yX4_areAlike ∈ WALL := mw0 (List.mem_append_right _ (List.mem_append_right _ (List.mem_append_right _ (List.mem_append_left _ (mem_i 39 rfl))))) rfl
theorem W_577 : Cond.code yX4_areAlike cX4_areAlike 7 (some .boolean) ∈ WALL := mw0 (List.mem_append_right _ (List.mem_append_right _ (List.mem_append_right _ (List.mem_append_left _ (mem_i 40 rfl))))) rfl
theorem W_578 : Cond.methodLink RX4 280 Lib.Math.max.name ∈ WALL := mw0 (List.mem_append_right _ (List.mem_append_right _ (List.mem_append_right _ (List.mem_append_left _ (mem_i 41 rfl))))) rfl
theorem W_583 : Cond.methodLink RX4 213 yX4_bothWouldSwap ∈ WALL := mw0 (List.mem_append_right _ (List.mem_append_right _ (List.mem_append_right _ (List.mem_append_left _ (mem_i 46 rfl))))) rfl
theorem W_585 : Cond.instanceMethod yX4_bothWouldSwap ∈ WALL := mw0 (List.mem_append_right _ (List.mem_append_right _ (List.mem_append_right _ (List.mem_append_left _ (mem_i 48 rfl))))) rfl
theorem W_586 : Cond.code yX4_bothWouldSwap cX4_bothWouldSwap 7 (some .boolean) ∈ WALL := mw0 (List.mem_append_right _ (List.mem_append_right _ (List.mem_append_right _ (List.mem_append_left _ (mem_i 49 rfl))))) rfl
theorem W_587 : Cond.methodLink RX4 285 yX1_swapHours ∈ WALL := mw0 (List.mem_append_right _ (List.mem_append_right _ (List.mem_append_right _ (List.mem_append_left _ (mem_i 50 rfl))))) rfl
theorem W_588 : Cond.instanceMethod yX1_swapHours ∈ WALL := mw0 (List.mem_append_right _ (List.mem_append_right _ (List.mem_append_right _ (List.mem_append_left _ (mem_i 51 rfl))))) rfl
theorem W_589 : Cond.selects RX1 yX1_swapHours yX1_swapHours ∈ WALL := mw0 (List.mem_append_right _ (List.mem_append_right _ (List.mem_append_right _ (List.mem_append_left _ (mem_i 52 rfl))))) rfl
theorem W_590 : Cond.code yX1_swapHours cX1_swapHours 4 none ∈ WALL := mw0 (List.mem_append_right _ (List.mem_append_right _ (List.mem_append_right _ (List.mem_append_left _ (mem_i 53 rfl))))) rfl
theorem W_595 : Cond.methodLink RX4 217 yX1_isOpen ∈ WALL := mw0 (List.mem_append_right _ (List.mem_append_right _ (List.mem_append_right _ (List.mem_append_left _ (mem_i 58 rfl))))) rfl
theorem W_596 : Cond.methodLink RX4 223 yX4_rests ∈ WALL := mw0 (List.mem_append_right _ (List.mem_append_right _ (List.mem_append_right _ (List.mem_append_left _ (mem_i 59 rfl))))) rfl
theorem W_597 : Cond.static yX4_rests ∈ WALL := mw0 (List.mem_append_right _ (List.mem_append_right _ (List.mem_append_right _ (List.mem_append_left _ (mem_i 60 rfl))))) rfl
theorem W_598 : Cond.code yX4_rests cX4_rests 4 (some .boolean) ∈ WALL := mw0 (List.mem_append_right _ (List.mem_append_right _ (List.mem_append_right _ (List.mem_append_left _ (mem_i 61 rfl))))) rfl
theorem W_599 : Cond.methodLink RX4 288 yX4_toWell ∈ WALL := mw0 (List.mem_append_right _ (List.mem_append_right _ (List.mem_append_right _ (List.mem_append_left _ (mem_i 62 rfl))))) rfl
theorem W_600 : Cond.static yX4_toWell ∈ WALL := mw0 (List.mem_append_right _ (List.mem_append_right _ (List.mem_append_right _ (List.mem_append_left _ (mem_i 63 rfl))))) rfl
theorem W_601 : Cond.code yX4_toWell cX4_toWell 4 (some .int) ∈ WALL := mw0 (List.mem_append_right _ (List.mem_append_right _ (List.mem_append_right _ (List.mem_append_left _ (mem_i 64 rfl))))) rfl
theorem W_602 : Cond.methodLink RX4 292 yX4_toInspector ∈ WALL := mw0 (List.mem_append_right _ (List.mem_append_right _ (List.mem_append_right _ (List.mem_append_left _ (mem_i 65 rfl))))) rfl
theorem W_603 : Cond.static yX4_toInspector ∈ WALL := mw0 (List.mem_append_right _ (List.mem_append_right _ (List.mem_append_right _ (List.mem_append_left _ (mem_i 66 rfl))))) rfl
theorem W_604 : Cond.code yX4_toInspector cX4_toInspector 3 (some .int) ∈ WALL := mw0 (List.mem_append_right _ (List.mem_append_right _ (List.mem_append_right _ (List.mem_append_left _ (mem_i 67 rfl))))) rfl
theorem W_609 : Cond.methodLink RX4 227 yX4_setFraction ∈ WALL := mw0 (List.mem_append_right _ (List.mem_append_right _ (List.mem_append_right _ (List.mem_append_left _ (mem_i 72 rfl))))) rfl
theorem W_611 : Cond.instanceMethod yX4_setFraction ∈ WALL := mw0 (List.mem_append_right _ (List.mem_append_right _ (List.mem_append_right _ (List.mem_append_left _ (mem_i 74 rfl))))) rfl
theorem W_612 : Cond.code yX4_setFraction cX4_setFraction 4 none ∈ WALL := mw0 (List.mem_append_right _ (List.mem_append_right _ (List.mem_append_right _ (List.mem_append_left _ (mem_i 75 rfl))))) rfl
theorem W_613 : Cond.methodLink RX4 296 yX4_commonDivisor ∈ WALL := mw0 (List.mem_append_right _ (List.mem_append_right _ (List.mem_append_right _ (List.mem_append_left _ (mem_i 76 rfl))))) rfl
theorem W_614 : Cond.static yX4_commonDivisor ∈ WALL := mw0 (List.mem_append_right _ (List.mem_append_right _ (List.mem_append_right _ (List.mem_append_left _ (mem_i 77 rfl))))) rfl
theorem W_615 : Cond.code yX4_commonDivisor cX4_commonDivisor 6 (some .int) ∈ WALL := mw0 (List.mem_append_right _ (List.mem_append_right _ (List.mem_append_right _ (List.mem_append_left _ (mem_i 78 rfl))))) rfl
theorem W_620 : Cond.constant RX4 231 (999999) ∈ WALL := mw0 (List.mem_append_right _ (List.mem_append_right _ (List.mem_append_right _ (List.mem_append_left _ (mem_i 83 rfl))))) rfl
theorem W_621 : Cond.constantLong RX4 232 (1103515245) ∈ WALL := mw0 (List.mem_append_right _ (List.mem_append_right _ (List.mem_append_right _ (List.mem_append_left _ (mem_i 84 rfl))))) rfl
theorem W_622 : Cond.constantLong RX4 234 (12345) ∈ WALL := mw0 (List.mem_append_right _ (List.mem_append_right _ (List.mem_append_right _ (List.mem_append_left _ (mem_i 85 rfl))))) rfl
theorem W_623 : Cond.constantLong RX4 236 (2147483648) ∈ WALL := mw0 (List.mem_append_right _ (List.mem_append_right _ (List.mem_append_right _ (List.mem_append_left _ (mem_i 86 rfl))))) rfl
theorem W_624 : Cond.constantLong RX4 238 (65536) ∈ WALL := mw0 (List.mem_append_right _ (List.mem_append_right _ (List.mem_append_right _ (List.mem_append_left _ (mem_i 87 rfl))))) rfl
theorem W_625 : Cond.constantLong RX4 240 (61) ∈ WALL := mw0 (List.mem_append_right _ (List.mem_append_right _ (List.mem_append_right _ (List.mem_append_left _ (mem_i 88 rfl))))) rfl
theorem W_626 : Cond.methodLink RX4 242 yX1_dailyOfAll ∈ WALL := mw0 (List.mem_append_right _ (List.mem_append_right _ (List.mem_append_right _ (List.mem_append_left _ (mem_i 89 rfl))))) rfl
theorem W_627 : Cond.instanceMethod yX1_dailyOfAll ∈ WALL := mw0 (List.mem_append_right _ (List.mem_append_right _ (List.mem_append_right _ (List.mem_append_left _ (mem_i 90 rfl))))) rfl
theorem W_628 : Cond.selects RX1 yX1_dailyOfAll yX1_dailyOfAll ∈ WALL := mw0 (List.mem_append_right _ (List.mem_append_right _ (List.mem_append_right _ (List.mem_append_left _ (mem_i 91 rfl))))) rfl
theorem W_629 : Cond.code yX1_dailyOfAll cX1_dailyOfAll 4 (some .int) ∈ WALL := mw0 (List.mem_append_right _ (List.mem_append_right _ (List.mem_append_right _ (List.mem_append_left _ (mem_i 92 rfl))))) rfl
theorem W_650 : Cond.methodLink RX4 245 yX4_howMany ∈ WALL := mw0 (List.mem_append_right _ (List.mem_append_right _ (List.mem_append_right _ (List.mem_append_left _ (mem_i 113 rfl))))) rfl
theorem W_652 : Cond.instanceMethod yX4_howMany ∈ WALL := mw0 (List.mem_append_right _ (List.mem_append_right _ (List.mem_append_right _ (List.mem_append_left _ (mem_i 115 rfl))))) rfl
theorem W_653 : Cond.code yX4_howMany cX4_howMany 2 (some .int) ∈ WALL := mw0 (List.mem_append_right _ (List.mem_append_right _ (List.mem_append_right _ (List.mem_append_left _ (mem_i 116 rfl))))) rfl
theorem W_654 : Cond.methodLink RX4 299 yX1_sumOf ∈ WALL := mw0 (List.mem_append_right _ (List.mem_append_right _ (List.mem_append_right _ (List.mem_append_left _ (mem_i 117 rfl))))) rfl
theorem W_655 : Cond.instanceMethod yX1_sumOf ∈ WALL := mw0 (List.mem_append_right _ (List.mem_append_right _ (List.mem_append_right _ (List.mem_append_left _ (mem_i 118 rfl))))) rfl
theorem W_656 : Cond.selects RX1 yX1_sumOf yX1_sumOf ∈ WALL := mw0 (List.mem_append_right _ (List.mem_append_right _ (List.mem_append_right _ (List.mem_append_left _ (mem_i 119 rfl))))) rfl
theorem W_657 : Cond.code yX1_sumOf cX1_sumOf 4 (some .int) ∈ WALL := mw0 (List.mem_append_right _ (List.mem_append_right _ (List.mem_append_right _ (List.mem_append_left _ (mem_i 120 rfl))))) rfl
theorem W_662 : Cond.constantLong RX4 248 (1439) ∈ WALL := mw0 (List.mem_append_right _ (List.mem_append_right _ (List.mem_append_right _ (List.mem_append_left _ (mem_i 125 rfl))))) rfl
theorem W_663 : Cond.constantLong RX4 250 (31) ∈ WALL := mw0 (List.mem_append_right _ (List.mem_append_right _ (List.mem_append_right _ (List.mem_append_left _ (mem_i 126 rfl))))) rfl
theorem W_669 : Cond.methodLink RX5 1 objectInit ∈ WALL := mw0 (List.mem_append_right _ (List.mem_append_right _ (List.mem_append_right _ (List.mem_append_left _ (mem_i 132 rfl))))) rfl
theorem W_670 : Cond.methodLink RX5 72 yX5_begin ∈ WALL := mw0 (List.mem_append_right _ (List.mem_append_right _ (List.mem_append_right _ (List.mem_append_left _ (mem_i 133 rfl))))) rfl
theorem W_671 : Cond.static yX5_begin ∈ WALL := mw0 (List.mem_append_right _ (List.mem_append_right _ (List.mem_append_right _ (List.mem_append_left _ (mem_i 134 rfl))))) rfl
theorem W_672 : Cond.code yX5_begin cX5_begin 3 none ∈ WALL := mw0 (List.mem_append_right _ (List.mem_append_right _ (List.mem_append_right _ (List.mem_append_left _ (mem_i 135 rfl))))) rfl
theorem W_673 : Cond.fieldLink RX5 7 "WishMeterModel" "told" "[I" ∈ WALL := mw0 (List.mem_append_right _ (List.mem_append_right _ (List.mem_append_right _ (List.mem_append_left _ (mem_i 136 rfl))))) rfl
theorem W_674 : Cond.fieldLink RX5 13 "WishMeterModel" "kept" "[I" ∈ WALL := mw0 (List.mem_append_right _ (List.mem_append_right _ (List.mem_append_right _ (List.mem_append_left _ (mem_i 137 rfl))))) rfl
theorem W_675 : Cond.fieldLink RX5 16 "WishMeterModel" "isKept" "[Z" ∈ WALL := mw0 (List.mem_append_right _ (List.mem_append_right _ (List.mem_append_right _ (List.mem_append_left _ (mem_i 138 rfl))))) rfl
theorem W_676 : Cond.fieldLink RX5 20 "WishMeterModel" "refused" "[I" ∈ WALL := mw0 (List.mem_append_right _ (List.mem_append_right _ (List.mem_append_right _ (List.mem_append_left _ (mem_i 139 rfl))))) rfl
theorem W_677 : Cond.fieldLink RX5 194 "WishMeterModel" "above" "J" ∈ WALL := mw0 (List.mem_append_right _ (List.mem_append_right _ (List.mem_append_right _ (List.mem_append_left _ (mem_i 140 rfl))))) rfl
theorem W_678 : Cond.fieldLink RX5 23 "WishMeterModel" "below" "J" ∈ WALL := mw0 (List.mem_append_right _ (List.mem_append_right _ (List.mem_append_right _ (List.mem_append_left _ (mem_i 141 rfl))))) rfl
theorem W_679 : Cond.fieldLink RX5 27 "WishMeterModel" "gets" "[I" ∈ WALL := mw0 (List.mem_append_right _ (List.mem_append_right _ (List.mem_append_right _ (List.mem_append_left _ (mem_i 142 rfl))))) rfl
theorem W_680 : Cond.fieldLink RX5 30 "WishMeterModel" "ahead" "[I" ∈ WALL := mw0 (List.mem_append_right _ (List.mem_append_right _ (List.mem_append_right _ (List.mem_append_left _ (mem_i 143 rfl))))) rfl
theorem W_681 : Cond.fieldLink RX5 112 "WishMeterModel" "leftBehind" "I" ∈ WALL := mw0 (List.mem_append_right _ (List.mem_append_right _ (List.mem_append_right _ (List.mem_append_left _ (mem_i 144 rfl))))) rfl
theorem W_682 : Cond.fieldLink RX5 33 "WishMeterModel" "dayGets" "[I" ∈ WALL := mw0 (List.mem_append_right _ (List.mem_append_right _ (List.mem_append_right _ (List.mem_append_left _ (mem_i 145 rfl))))) rfl
theorem W_683 : Cond.fieldLink RX5 36 "WishMeterModel" "dayDue" "[I" ∈ WALL := mw0 (List.mem_append_right _ (List.mem_append_right _ (List.mem_append_right _ (List.mem_append_left _ (mem_i 146 rfl))))) rfl
theorem W_684 : Cond.fieldLink RX5 39 "WishMeterModel" "own" "[I" ∈ WALL := mw0 (List.mem_append_right _ (List.mem_append_right _ (List.mem_append_right _ (List.mem_append_left _ (mem_i 147 rfl))))) rfl
theorem W_685 : Cond.fieldLink RX5 42 "WishMeterModel" "ownGets" "[I" ∈ WALL := mw0 (List.mem_append_right _ (List.mem_append_right _ (List.mem_append_right _ (List.mem_append_left _ (mem_i 148 rfl))))) rfl
theorem W_686 : Cond.fieldLink RX5 45 "WishMeterModel" "bestOwn" "[I" ∈ WALL := mw0 (List.mem_append_right _ (List.mem_append_right _ (List.mem_append_right _ (List.mem_append_left _ (mem_i 149 rfl))))) rfl
theorem W_687 : Cond.fieldLink RX5 48 "WishMeterModel" "alone" "[I" ∈ WALL := mw0 (List.mem_append_right _ (List.mem_append_right _ (List.mem_append_right _ (List.mem_append_left _ (mem_i 150 rfl))))) rfl
theorem W_688 : Cond.fieldLink RX5 51 "WishMeterModel" "atMuch" "[I" ∈ WALL := mw0 (List.mem_append_right _ (List.mem_append_right _ (List.mem_append_right _ (List.mem_append_left _ (mem_i 151 rfl))))) rfl
theorem W_689 : Cond.fieldLink RX5 54 "WishMeterModel" "hand" "[I" ∈ WALL := mw0 (List.mem_append_right _ (List.mem_append_right _ (List.mem_append_right _ (List.mem_append_left _ (mem_i 152 rfl))))) rfl
theorem W_690 : Cond.fieldLink RX5 57 "WishMeterModel" "his" "[I" ∈ WALL := mw0 (List.mem_append_right _ (List.mem_append_right _ (List.mem_append_right _ (List.mem_append_left _ (mem_i 153 rfl))))) rfl
theorem W_691 : Cond.fieldLink RX5 60 "WishMeterModel" "its" "[I" ∈ WALL := mw0 (List.mem_append_right _ (List.mem_append_right _ (List.mem_append_right _ (List.mem_append_left _ (mem_i 154 rfl))))) rfl
theorem W_692 : Cond.fieldLink RX5 63 "WishMeterModel" "bytes" "[I" ∈ WALL := mw0 (List.mem_append_right _ (List.mem_append_right _ (List.mem_append_right _ (List.mem_append_left _ (mem_i 155 rfl))))) rfl
theorem W_693 : Cond.fieldLink RX5 217 "WishMeterModel" "bytesLong" "I" ∈ WALL := mw0 (List.mem_append_right _ (List.mem_append_right _ (List.mem_append_right _ (List.mem_append_left _ (mem_i 156 rfl))))) rfl
theorem W_694 : Cond.fieldLink RX5 228 "WishMeterModel" "tokenAt" "I" ∈ WALL := mw0 (List.mem_append_right _ (List.mem_append_right _ (List.mem_append_right _ (List.mem_append_left _ (mem_i 157 rfl))))) rfl
theorem W_695 : Cond.fieldLink RX5 231 "WishMeterModel" "tokenLong" "I" ∈ WALL := mw0 (List.mem_append_right _ (List.mem_append_right _ (List.mem_append_right _ (List.mem_append_left _ (mem_i 158 rfl))))) rfl
theorem W_696 : Cond.fieldLink RX5 234 "WishMeterModel" "token" "I" ∈ WALL := mw0 (List.mem_append_right _ (List.mem_append_right _ (List.mem_append_right _ (List.mem_append_left _ (mem_i 159 rfl))))) rfl
theorem W_697 : Cond.fieldLink RX5 237 "WishMeterModel" "value" "I" ∈ WALL := mw0 (List.mem_append_right _ (List.mem_append_right _ (List.mem_append_right _ (List.mem_append_left _ (mem_i 160 rfl))))) rfl
theorem W_698 : Cond.fieldLink RX5 66 "WishMeterModel" "anew" "[I" ∈ WALL := mw0 (List.mem_append_right _ (List.mem_append_right _ (List.mem_append_right _ (List.mem_append_left _ (mem_i 161 rfl))))) rfl
theorem W_699 : Cond.fieldLink RX5 69 "WishMeterModel" "values" "[I" ∈ WALL := mw0 (List.mem_append_right _ (List.mem_append_right _ (List.mem_append_right _ (List.mem_append_left _ (mem_i 162 rfl))))) rfl
theorem W_700 : Cond.fieldLink RX5 252 "WishMeterModel" "takenHours" "I" ∈ WALL := mw0 (List.mem_append_right _ (List.mem_append_right _ (List.mem_append_right _ (List.mem_append_left _ (mem_i 163 rfl))))) rfl
theorem W_758 : Cond.arrayClass .boolean ∈ WALL := mw0 (List.mem_append_right _ (List.mem_append_right _ (List.mem_append_right _ (List.mem_append_left _ (mem_i 221 rfl))))) rfl
theorem W_763 : Cond.methodLink RX5 90 yX5_isPressure ∈ WALL := mw0 (List.mem_append_right _ (List.mem_append_right _ (List.mem_append_right _ (List.mem_append_left _ (mem_i 226 rfl))))) rfl
theorem W_764 : Cond.static yX5_isPressure ∈ WALL := mw0 (List.mem_append_right _ (List.mem_append_right _ (List.mem_append_right _ (List.mem_append_left _ (mem_i 227 rfl))))) rfl
theorem W_765 : Cond.code yX5_isPressure cX5_isPressure 1 (some .boolean) ∈ WALL := mw0 (List.mem_append_right _ (List.mem_append_right _ (List.mem_append_right _ (List.mem_append_left _ (mem_i 228 rfl))))) rfl
theorem W_766 : Cond.constantLong RX5 86 (60) ∈ WALL := mw0 (List.mem_append_right _ (List.mem_append_right _ (List.mem_append_right _ (List.mem_append_left _ (mem_i 229 rfl))))) rfl
theorem W_767 : Cond.methodLink RX5 80 yX5_in ∈ WALL := mw0 (List.mem_append_right _ (List.mem_append_right _ (List.mem_append_right _ (List.mem_append_left _ (mem_i 230 rfl))))) rfl
theorem W_768 : Cond.static yX5_in ∈ WALL := mw0 (List.mem_append_right _ (List.mem_append_right _ (List.mem_append_right _ (List.mem_append_left _ (mem_i 231 rfl))))) rfl
theorem W_769 : Cond.code yX5_in cX5_in 6 (some .boolean) ∈ WALL := mw0 (List.mem_append_right _ (List.mem_append_right _ (List.mem_append_right _ (List.mem_append_left _ (mem_i 232 rfl))))) rfl
theorem W_770 : Cond.methodLink RX5 94 yX5_bad ∈ WALL := mw0 (List.mem_append_right _ (List.mem_append_right _ (List.mem_append_right _ (List.mem_append_left _ (mem_i 233 rfl))))) rfl
theorem W_772 : Cond.instanceMethod yX5_bad ∈ WALL := mw0 (List.mem_append_right _ (List.mem_append_right _ (List.mem_append_right _ (List.mem_append_left _ (mem_i 235 rfl))))) rfl
theorem W_773 : Cond.code yX5_bad cX5_bad 2 (some .int) ∈ WALL := mw0 (List.mem_append_right _ (List.mem_append_right _ (List.mem_append_right _ (List.mem_append_left _ (mem_i 236 rfl))))) rfl
theorem W_774 : Cond.methodLink RX5 76 yX5_many ∈ WALL := mw0 (List.mem_append_right _ (List.mem_append_right _ (List.mem_append_right _ (List.mem_append_left _ (mem_i 237 rfl))))) rfl
theorem W_776 : Cond.instanceMethod yX5_many ∈ WALL := mw0 (List.mem_append_right _ (List.mem_append_right _ (List.mem_append_right _ (List.mem_append_left _ (mem_i 239 rfl))))) rfl
theorem W_777 : Cond.code yX5_many cX5_many 1 (some .int) ∈ WALL := mw0 (List.mem_append_right _ (List.mem_append_right _ (List.mem_append_right _ (List.mem_append_right _ (List.mem_append_left _ (mem_i 0 rfl)))))) rfl
theorem W_782 : Cond.constantLong RX5 98 (5) ∈ WALL := mw0 (List.mem_append_right _ (List.mem_append_right _ (List.mem_append_right _ (List.mem_append_right _ (List.mem_append_left _ (mem_i 5 rfl)))))) rfl
theorem W_783 : Cond.methodLink RX5 100 yX5_isWanted ∈ WALL := mw0 (List.mem_append_right _ (List.mem_append_right _ (List.mem_append_right _ (List.mem_append_right _ (List.mem_append_left _ (mem_i 6 rfl)))))) rfl
theorem W_784 : Cond.static yX5_isWanted ∈ WALL := mw0 (List.mem_append_right _ (List.mem_append_right _ (List.mem_append_right _ (List.mem_append_right _ (List.mem_append_left _ (mem_i 7 rfl)))))) rfl
theorem W_785 : Cond.code yX5_isWanted cX5_isWanted 1 (some .boolean) ∈ WALL := mw0 (List.mem_append_right _ (List.mem_append_right _ (List.mem_append_right _ (List.mem_append_right _ (List.mem_append_left _ (mem_i 8 rfl)))))) rfl
theorem W_786 : Cond.constantLong RX5 88 (20) ∈ WALL := mw0 (List.mem_append_right _ (List.mem_append_right _ (List.mem_append_right _ (List.mem_append_right _ (List.mem_append_left _ (mem_i 9 rfl)))))) rfl
theorem W_787 : Cond.constantLong RX5 103 (255) ∈ WALL := mw0 (List.mem_append_right _ (List.mem_append_right _ (List.mem_append_right _ (List.mem_append_right _ (List.mem_append_left _ (mem_i 10 rfl)))))) rfl
theorem W_788 : Cond.methodLink RX5 105 yX5_full ∈ WALL := mw0 (List.mem_append_right _ (List.mem_append_right _ (List.mem_append_right _ (List.mem_append_right _ (List.mem_append_left _ (mem_i 11 rfl)))))) rfl
theorem W_790 : Cond.instanceMethod yX5_full ∈ WALL := mw0 (List.mem_append_right _ (List.mem_append_right _ (List.mem_append_right _ (List.mem_append_right _ (List.mem_append_left _ (mem_i 13 rfl)))))) rfl
theorem W_791 : Cond.code yX5_full cX5_full 1 (some .int) ∈ WALL := mw0 (List.mem_append_right _ (List.mem_append_right _ (List.mem_append_right _ (List.mem_append_right _ (List.mem_append_left _ (mem_i 14 rfl)))))) rfl
theorem W_792 : Cond.methodLink RX5 108 yX5_layWell ∈ WALL := mw0 (List.mem_append_right _ (List.mem_append_right _ (List.mem_append_right _ (List.mem_append_right _ (List.mem_append_left _ (mem_i 15 rfl)))))) rfl
theorem W_793 : Cond.static yX5_layWell ∈ WALL := mw0 (List.mem_append_right _ (List.mem_append_right _ (List.mem_append_right _ (List.mem_append_right _ (List.mem_append_left _ (mem_i 16 rfl)))))) rfl
theorem W_794 : Cond.code yX5_layWell cX5_layWell 5 none ∈ WALL := mw0 (List.mem_append_right _ (List.mem_append_right _ (List.mem_append_right _ (List.mem_append_right _ (List.mem_append_left _ (mem_i 17 rfl)))))) rfl
theorem W_799 : Cond.constantLong RX5 139 (30) ∈ WALL := mw0 (List.mem_append_right _ (List.mem_append_right _ (List.mem_append_right _ (List.mem_append_right _ (List.mem_append_left _ (mem_i 22 rfl)))))) rfl
theorem W_800 : Cond.methodLink RX5 141 yX5_keep ∈ WALL := mw0 (List.mem_append_right _ (List.mem_append_right _ (List.mem_append_right _ (List.mem_append_right _ (List.mem_append_left _ (mem_i 23 rfl)))))) rfl
theorem W_802 : Cond.instanceMethod yX5_keep ∈ WALL := mw0 (List.mem_append_right _ (List.mem_append_right _ (List.mem_append_right _ (List.mem_append_right _ (List.mem_append_left _ (mem_i 25 rfl)))))) rfl
theorem W_803 : Cond.code yX5_keep cX5_keep 2 none ∈ WALL := mw0 (List.mem_append_right _ (List.mem_append_right _ (List.mem_append_right _ (List.mem_append_right _ (List.mem_append_left _ (mem_i 26 rfl)))))) rfl
theorem W_804 : Cond.methodLink RX5 144 yX5_passDay ∈ WALL := mw0 (List.mem_append_right _ (List.mem_append_right _ (List.mem_append_right _ (List.mem_append_right _ (List.mem_append_left _ (mem_i 27 rfl)))))) rfl
theorem W_806 : Cond.instanceMethod yX5_passDay ∈ WALL := mw0 (List.mem_append_right _ (List.mem_append_right _ (List.mem_append_right _ (List.mem_append_right _ (List.mem_append_left _ (mem_i 29 rfl)))))) rfl
theorem W_807 : Cond.code yX5_passDay cX5_passDay 4 (some .int) ∈ WALL := mw0 (List.mem_append_right _ (List.mem_append_right _ (List.mem_append_right _ (List.mem_append_right _ (List.mem_append_left _ (mem_i 30 rfl)))))) rfl
theorem W_808 : Cond.methodLink RX5 135 yX5_layDay ∈ WALL := mw0 (List.mem_append_right _ (List.mem_append_right _ (List.mem_append_right _ (List.mem_append_right _ (List.mem_append_left _ (mem_i 31 rfl)))))) rfl
theorem W_810 : Cond.instanceMethod yX5_layDay ∈ WALL := mw0 (List.mem_append_right _ (List.mem_append_right _ (List.mem_append_right _ (List.mem_append_right _ (List.mem_append_left _ (mem_i 33 rfl)))))) rfl
theorem W_811 : Cond.code yX5_layDay cX5_layDay 6 none ∈ WALL := mw0 (List.mem_append_right _ (List.mem_append_right _ (List.mem_append_right _ (List.mem_append_right _ (List.mem_append_left _ (mem_i 34 rfl)))))) rfl
theorem W_812 : Cond.methodLink RX5 124 yX5_openIn ∈ WALL := mw0 (List.mem_append_right _ (List.mem_append_right _ (List.mem_append_right _ (List.mem_append_right _ (List.mem_append_left _ (mem_i 35 rfl)))))) rfl
theorem W_813 : Cond.static yX5_openIn ∈ WALL := mw0 (List.mem_append_right _ (List.mem_append_right _ (List.mem_append_right _ (List.mem_append_right _ (List.mem_append_left _ (mem_i 36 rfl)))))) rfl
theorem W_814 : Cond.code yX5_openIn cX5_openIn 4 (some .int) ∈ WALL := mw0 (List.mem_append_right _ (List.mem_append_right _ (List.mem_append_right _ (List.mem_append_right _ (List.mem_append_left _ (mem_i 37 rfl)))))) rfl
theorem W_815 : Cond.methodLink RX5 116 yX5_has ∈ WALL := mw0 (List.mem_append_right _ (List.mem_append_right _ (List.mem_append_right _ (List.mem_append_right _ (List.mem_append_left _ (mem_i 38 rfl)))))) rfl
theorem W_816 : Cond.static yX5_has ∈ WALL := mw0 (List.mem_append_right _ (List.mem_append_right _ (List.mem_append_right _ (List.mem_append_right _ (List.mem_append_left _ (mem_i 39 rfl)))))) rfl
theorem W_817 : Cond.code yX5_has cX5_has 2 (some .boolean) ∈ WALL := mw0 (List.mem_append_right _ (List.mem_append_right _ (List.mem_append_right _ (List.mem_append_right _ (List.mem_append_left _ (mem_i 40 rfl)))))) rfl
theorem W_818 : Cond.methodLink RX5 128 yX5_goHour ∈ WALL := mw0 (List.mem_append_right _ (List.mem_append_right _ (List.mem_append_right _ (List.mem_append_right _ (List.mem_append_left _ (mem_i 41 rfl)))))) rfl
theorem W_820 : Cond.instanceMethod yX5_goHour ∈ WALL := mw0 (List.mem_append_right _ (List.mem_append_right _ (List.mem_append_right _ (List.mem_append_right _ (List.mem_append_left _ (mem_i 43 rfl)))))) rfl
theorem W_821 : Cond.code yX5_goHour cX5_goHour 6 none ∈ WALL := mw0 (List.mem_append_right _ (List.mem_append_right _ (List.mem_append_right _ (List.mem_append_right _ (List.mem_append_left _ (mem_i 44 rfl)))))) rfl
theorem W_822 : Cond.methodLink RX5 120 yX5_getsAs ∈ WALL := mw0 (List.mem_append_right _ (List.mem_append_right _ (List.mem_append_right _ (List.mem_append_right _ (List.mem_append_left _ (mem_i 45 rfl)))))) rfl
theorem W_823 : Cond.static yX5_getsAs ∈ WALL := mw0 (List.mem_append_right _ (List.mem_append_right _ (List.mem_append_right _ (List.mem_append_right _ (List.mem_append_left _ (mem_i 46 rfl)))))) rfl
theorem W_824 : Cond.code yX5_getsAs cX5_getsAs 6 (some .int) ∈ WALL := mw0 (List.mem_append_right _ (List.mem_append_right _ (List.mem_append_right _ (List.mem_append_right _ (List.mem_append_left _ (mem_i 47 rfl)))))) rfl
theorem W_825 : Cond.methodLink RX5 131 yX5_dueAs ∈ WALL := mw0 (List.mem_append_right _ (List.mem_append_right _ (List.mem_append_right _ (List.mem_append_right _ (List.mem_append_left _ (mem_i 48 rfl)))))) rfl
theorem W_826 : Cond.static yX5_dueAs ∈ WALL := mw0 (List.mem_append_right _ (List.mem_append_right _ (List.mem_append_right _ (List.mem_append_right _ (List.mem_append_left _ (mem_i 49 rfl)))))) rfl
theorem W_827 : Cond.code yX5_dueAs cX5_dueAs 2 (some .int) ∈ WALL := mw0 (List.mem_append_right _ (List.mem_append_right _ (List.mem_append_right _ (List.mem_append_right _ (List.mem_append_left _ (mem_i 50 rfl)))))) rfl
theorem W_832 : Cond.methodLink RX5 148 yX5_isWell ∈ WALL := mw0 (List.mem_append_right _ (List.mem_append_right _ (List.mem_append_right _ (List.mem_append_right _ (List.mem_append_left _ (mem_i 55 rfl)))))) rfl
theorem W_834 : Cond.instanceMethod yX5_isWell ∈ WALL := mw0 (List.mem_append_right _ (List.mem_append_right _ (List.mem_append_right _ (List.mem_append_right _ (List.mem_append_left _ (mem_i 57 rfl)))))) rfl
theorem W_835 : Cond.code yX5_isWell cX5_isWell 2 (some .boolean) ∈ WALL := mw0 (List.mem_append_right _ (List.mem_append_right _ (List.mem_append_right _ (List.mem_append_right _ (List.mem_append_left _ (mem_i 58 rfl)))))) rfl
theorem W_848 : Cond.methodLink RX5 151 yX5_no ∈ WALL := mw0 (List.mem_append_right _ (List.mem_append_right _ (List.mem_append_right _ (List.mem_append_right _ (List.mem_append_left _ (mem_i 71 rfl)))))) rfl
theorem W_850 : Cond.instanceMethod yX5_no ∈ WALL := mw0 (List.mem_append_right _ (List.mem_append_right _ (List.mem_append_right _ (List.mem_append_right _ (List.mem_append_left _ (mem_i 73 rfl)))))) rfl
theorem W_851 : Cond.code yX5_no cX5_no 1 (some .int) ∈ WALL := mw0 (List.mem_append_right _ (List.mem_append_right _ (List.mem_append_right _ (List.mem_append_right _ (List.mem_append_left _ (mem_i 74 rfl)))))) rfl
theorem W_856 : Cond.constantLong RX5 154 (4) ∈ WALL := mw0 (List.mem_append_right _ (List.mem_append_right _ (List.mem_append_right _ (List.mem_append_right _ (List.mem_append_left _ (mem_i 79 rfl)))))) rfl
theorem W_861 : Cond.methodLink RX5 156 yX5_isHour ∈ WALL := mw0 (List.mem_append_right _ (List.mem_append_right _ (List.mem_append_right _ (List.mem_append_right _ (List.mem_append_left _ (mem_i 84 rfl)))))) rfl
theorem W_862 : Cond.static yX5_isHour ∈ WALL := mw0 (List.mem_append_right _ (List.mem_append_right _ (List.mem_append_right _ (List.mem_append_right _ (List.mem_append_left _ (mem_i 85 rfl)))))) rfl
theorem W_863 : Cond.code yX5_isHour cX5_isHour 1 (some .boolean) ∈ WALL := mw0 (List.mem_append_right _ (List.mem_append_right _ (List.mem_append_right _ (List.mem_append_right _ (List.mem_append_left _ (mem_i 86 rfl)))))) rfl
theorem W_864 : Cond.constantLong RX5 84 (7) ∈ WALL := mw0 (List.mem_append_right _ (List.mem_append_right _ (List.mem_append_right _ (List.mem_append_right _ (List.mem_append_left _ (mem_i 87 rfl)))))) rfl
theorem W_865 : Cond.constantLong RX5 159 (2) ∈ WALL := mw0 (List.mem_append_right _ (List.mem_append_right _ (List.mem_append_right _ (List.mem_append_right _ (List.mem_append_left _ (mem_i 88 rfl)))))) rfl
theorem W_870 : Cond.constantLong RX5 161 (-1) ∈ WALL := mw0 (List.mem_append_right _ (List.mem_append_right _ (List.mem_append_right _ (List.mem_append_right _ (List.mem_append_left _ (mem_i 93 rfl)))))) rfl
theorem W_871 : Cond.methodLink RX5 163 yX5_sumOf ∈ WALL := mw0 (List.mem_append_right _ (List.mem_append_right _ (List.mem_append_right _ (List.mem_append_right _ (List.mem_append_left _ (mem_i 94 rfl)))))) rfl
theorem W_873 : Cond.instanceMethod yX5_sumOf ∈ WALL := mw0 (List.mem_append_right _ (List.mem_append_right _ (List.mem_append_right _ (List.mem_append_right _ (List.mem_append_left _ (mem_i 96 rfl)))))) rfl
theorem W_874 : Cond.code yX5_sumOf cX5_sumOf 4 (some .int) ∈ WALL := mw0 (List.mem_append_right _ (List.mem_append_right _ (List.mem_append_right _ (List.mem_append_right _ (List.mem_append_left _ (mem_i 97 rfl)))))) rfl
theorem W_879 : Cond.methodLink RX5 166 yX5_layOwn ∈ WALL := mw0 (List.mem_append_right _ (List.mem_append_right _ (List.mem_append_right _ (List.mem_append_right _ (List.mem_append_left _ (mem_i 102 rfl)))))) rfl
theorem W_881 : Cond.instanceMethod yX5_layOwn ∈ WALL := mw0 (List.mem_append_right _ (List.mem_append_right _ (List.mem_append_right _ (List.mem_append_right _ (List.mem_append_left _ (mem_i 104 rfl)))))) rfl
theorem W_882 : Cond.code yX5_layOwn cX5_layOwn 5 none ∈ WALL := mw0 (List.mem_append_right _ (List.mem_append_right _ (List.mem_append_right _ (List.mem_append_right _ (List.mem_append_left _ (mem_i 105 rfl)))))) rfl
theorem W_887 : Cond.constant RX5 170 (1000000) ∈ WALL := mw0 (List.mem_append_right _ (List.mem_append_right _ (List.mem_append_right _ (List.mem_append_right _ (List.mem_append_left _ (mem_i 110 rfl)))))) rfl
theorem W_888 : Cond.methodLink RX5 171 yX5_bestAlone ∈ WALL := mw0 (List.mem_append_right _ (List.mem_append_right _ (List.mem_append_right _ (List.mem_append_right _ (List.mem_append_left _ (mem_i 111 rfl)))))) rfl
theorem W_890 : Cond.instanceMethod yX5_bestAlone ∈ WALL := mw0 (List.mem_append_right _ (List.mem_append_right _ (List.mem_append_right _ (List.mem_append_right _ (List.mem_append_left _ (mem_i 113 rfl)))))) rfl
theorem W_891 : Cond.code yX5_bestAlone cX5_bestAlone 5 (some .int) ∈ WALL := mw0 (List.mem_append_right _ (List.mem_append_right _ (List.mem_append_right _ (List.mem_append_right _ (List.mem_append_left _ (mem_i 114 rfl)))))) rfl
theorem W_892 : Cond.methodLink RX5 174 yX5_dueIfFair ∈ WALL := mw0 (List.mem_append_right _ (List.mem_append_right _ (List.mem_append_right _ (List.mem_append_right _ (List.mem_append_left _ (mem_i 115 rfl)))))) rfl
theorem W_894 : Cond.instanceMethod yX5_dueIfFair ∈ WALL := mw0 (List.mem_append_right _ (List.mem_append_right _ (List.mem_append_right _ (List.mem_append_right _ (List.mem_append_left _ (mem_i 117 rfl)))))) rfl
theorem W_895 : Cond.code yX5_dueIfFair cX5_dueIfFair 3 (some .int) ∈ WALL := mw0 (List.mem_append_right _ (List.mem_append_right _ (List.mem_append_right _ (List.mem_append_right _ (List.mem_append_left _ (mem_i 118 rfl)))))) rfl
theorem W_912 : Cond.methodLink RX5 177 yX5_mayHaveDrawn ∈ WALL := mw0 (List.mem_append_right _ (List.mem_append_right _ (List.mem_append_right _ (List.mem_append_right _ (List.mem_append_left _ (mem_i 135 rfl)))))) rfl
theorem W_914 : Cond.instanceMethod yX5_mayHaveDrawn ∈ WALL := mw0 (List.mem_append_right _ (List.mem_append_right _ (List.mem_append_right _ (List.mem_append_right _ (List.mem_append_left _ (mem_i 137 rfl)))))) rfl
theorem W_915 : Cond.code yX5_mayHaveDrawn cX5_mayHaveDrawn 4 (some .boolean) ∈ WALL := mw0 (List.mem_append_right _ (List.mem_append_right _ (List.mem_append_right _ (List.mem_append_right _ (List.mem_append_left _ (mem_i 138 rfl)))))) rfl
theorem W_920 : Cond.constantLong RX5 180 (40) ∈ WALL := mw0 (List.mem_append_right _ (List.mem_append_right _ (List.mem_append_right _ (List.mem_append_right _ (List.mem_append_left _ (mem_i 143 rfl)))))) rfl
theorem W_921 : Cond.constantLong RX5 182 (80) ∈ WALL := mw0 (List.mem_append_right _ (List.mem_append_right _ (List.mem_append_right _ (List.mem_append_right _ (List.mem_append_left _ (mem_i 144 rfl)))))) rfl
theorem W_930 : Cond.methodLink RX5 184 yX5_kindsOf ∈ WALL := mw0 (List.mem_append_right _ (List.mem_append_right _ (List.mem_append_right _ (List.mem_append_right _ (List.mem_append_left _ (mem_i 153 rfl)))))) rfl
theorem W_932 : Cond.instanceMethod yX5_kindsOf ∈ WALL := mw0 (List.mem_append_right _ (List.mem_append_right _ (List.mem_append_right _ (List.mem_append_right _ (List.mem_append_left _ (mem_i 155 rfl)))))) rfl
theorem W_933 : Cond.code yX5_kindsOf cX5_kindsOf 8 (some .int) ∈ WALL := mw0 (List.mem_append_right _ (List.mem_append_right _ (List.mem_append_right _ (List.mem_append_right _ (List.mem_append_left _ (mem_i 156 rfl)))))) rfl
theorem W_938 : Cond.methodLink RX5 187 yX5_areAlike ∈ WALL := mw0 (List.mem_append_right _ (List.mem_append_right _ (List.mem_append_right _ (List.mem_append_right _ (List.mem_append_left _ (mem_i 161 rfl)))))) rfl
theorem W_939 : Cond.static yX5_areAlike ∈ WALL := mw0 (List.mem_append_right _ (List.mem_append_right _ (List.mem_append_right _ (List.mem_append_right _ (List.mem_append_left _ (mem_i 162 rfl)))))) rfl
theorem W_940 : Cond.code yX5_areAlike cX5_areAlike 7 (some .boolean) ∈ WALL := mw0 (List.mem_append_right _ (List.mem_append_right _ (List.mem_append_right _ (List.mem_append_right _ (List.mem_append_left _ (mem_i 163 rfl)))))) rfl
theorem W_945 : Cond.methodLink RX5 191 yX5_wouldBoth ∈ WALL := mw0 (List.mem_append_right _ (List.mem_append_right _ (List.mem_append_right _ (List.mem_append_right _ (List.mem_append_left _ (mem_i 168 rfl)))))) rfl
theorem W_947 : Cond.instanceMethod yX5_wouldBoth ∈ WALL := mw0 (List.mem_append_right _ (List.mem_append_right _ (List.mem_append_right _ (List.mem_append_right _ (List.mem_append_left _ (mem_i 170 rfl)))))) rfl
theorem W_948 : Cond.code yX5_wouldBoth cX5_wouldBoth 6 (some .boolean) ∈ WALL := mw0 (List.mem_append_right _ (List.mem_append_right _ (List.mem_append_right _ (List.mem_append_right _ (List.mem_append_left _ (mem_i 171 rfl)))))) rfl
theorem W_957 : Cond.constantLong RX5 197 (10) ∈ WALL := mw0 (List.mem_append_right _ (List.mem_append_right _ (List.mem_append_right _ (List.mem_append_right _ (List.mem_append_left _ (mem_i 180 rfl)))))) rfl
theorem W_958 : Cond.methodLink RX5 199 yX5_fraction ∈ WALL := mw0 (List.mem_append_right _ (List.mem_append_right _ (List.mem_append_right _ (List.mem_append_right _ (List.mem_append_left _ (mem_i 181 rfl)))))) rfl
theorem W_960 : Cond.instanceMethod yX5_fraction ∈ WALL := mw0 (List.mem_append_right _ (List.mem_append_right _ (List.mem_append_right _ (List.mem_append_right _ (List.mem_append_left _ (mem_i 183 rfl)))))) rfl
theorem W_961 : Cond.code yX5_fraction cX5_fraction 11 none ∈ WALL := mw0 (List.mem_append_right _ (List.mem_append_right _ (List.mem_append_right _ (List.mem_append_right _ (List.mem_append_left _ (mem_i 184 rfl)))))) rfl
theorem W_966 : Cond.constantLong RX5 203 (999999) ∈ WALL := mw0 (List.mem_append_right _ (List.mem_append_right _ (List.mem_append_right _ (List.mem_append_right _ (List.mem_append_left _ (mem_i 189 rfl)))))) rfl
theorem W_967 : Cond.constantLong RX5 205 (1103515245) ∈ WALL := mw0 (List.mem_append_right _ (List.mem_append_right _ (List.mem_append_right _ (List.mem_append_right _ (List.mem_append_left _ (mem_i 190 rfl)))))) rfl
theorem W_968 : Cond.constantLong RX5 207 (12345) ∈ WALL := mw0 (List.mem_append_right _ (List.mem_append_right _ (List.mem_append_right _ (List.mem_append_right _ (List.mem_append_left _ (mem_i 191 rfl)))))) rfl
theorem W_969 : Cond.constantLong RX5 209 (2147483648) ∈ WALL := mw0 (List.mem_append_right _ (List.mem_append_right _ (List.mem_append_right _ (List.mem_append_right _ (List.mem_append_left _ (mem_i 192 rfl)))))) rfl
theorem W_970 : Cond.constantLong RX5 211 (65536) ∈ WALL := mw0 (List.mem_append_right _ (List.mem_append_right _ (List.mem_append_right _ (List.mem_append_right _ (List.mem_append_left _ (mem_i 193 rfl)))))) rfl
theorem W_971 : Cond.constantLong RX5 213 (61) ∈ WALL := mw0 (List.mem_append_right _ (List.mem_append_right _ (List.mem_append_right _ (List.mem_append_right _ (List.mem_append_left _ (mem_i 194 rfl)))))) rfl
theorem W_976 : Cond.constantLong RX5 215 (127) ∈ WALL := mw0 (List.mem_append_right _ (List.mem_append_right _ (List.mem_append_right _ (List.mem_append_right _ (List.mem_append_left _ (mem_i 199 rfl)))))) rfl
theorem W_985 : Cond.methodLink RX5 246 yX5_lookAt ∈ WALL := mw0 (List.mem_append_right _ (List.mem_append_right _ (List.mem_append_right _ (List.mem_append_right _ (List.mem_append_left _ (mem_i 208 rfl)))))) rfl
theorem W_987 : Cond.instanceMethod yX5_lookAt ∈ WALL := mw0 (List.mem_append_right _ (List.mem_append_right _ (List.mem_append_right _ (List.mem_append_right _ (List.mem_append_left _ (mem_i 210 rfl)))))) rfl
theorem W_988 : Cond.code yX5_lookAt cX5_lookAt 5 none ∈ WALL := mw0 (List.mem_append_right _ (List.mem_append_right _ (List.mem_append_right _ (List.mem_append_right _ (List.mem_append_left _ (mem_i 211 rfl)))))) rfl
theorem W_989 : Cond.methodLink RX5 240 yX5_isSmall ∈ WALL := mw0 (List.mem_append_right _ (List.mem_append_right _ (List.mem_append_right _ (List.mem_append_right _ (List.mem_append_left _ (mem_i 212 rfl)))))) rfl
theorem W_990 : Cond.static yX5_isSmall ∈ WALL := mw0 (List.mem_append_right _ (List.mem_append_right _ (List.mem_append_right _ (List.mem_append_right _ (List.mem_append_left _ (mem_i 213 rfl)))))) rfl
theorem W_991 : Cond.code yX5_isSmall cX5_isSmall 1 (some .boolean) ∈ WALL := mw0 (List.mem_append_right _ (List.mem_append_right _ (List.mem_append_right _ (List.mem_append_right _ (List.mem_append_left _ (mem_i 214 rfl)))))) rfl
theorem W_992 : Cond.constantLong RX5 220 (97) ∈ WALL := mw0 (List.mem_append_right _ (List.mem_append_right _ (List.mem_append_right _ (List.mem_append_right _ (List.mem_append_left _ (mem_i 215 rfl)))))) rfl
theorem W_993 : Cond.constantLong RX5 222 (122) ∈ WALL := mw0 (List.mem_append_right _ (List.mem_append_right _ (List.mem_append_right _ (List.mem_append_right _ (List.mem_append_left _ (mem_i 216 rfl)))))) rfl
theorem W_994 : Cond.methodLink RX5 243 yX5_isFigure ∈ WALL := mw0 (List.mem_append_right _ (List.mem_append_right _ (List.mem_append_right _ (List.mem_append_right _ (List.mem_append_left _ (mem_i 217 rfl)))))) rfl
theorem W_995 : Cond.static yX5_isFigure ∈ WALL := mw0 (List.mem_append_right _ (List.mem_append_right _ (List.mem_append_right _ (List.mem_append_right _ (List.mem_append_left _ (mem_i 218 rfl)))))) rfl
theorem W_996 : Cond.code yX5_isFigure cX5_isFigure 1 (some .boolean) ∈ WALL := mw0 (List.mem_append_right _ (List.mem_append_right _ (List.mem_append_right _ (List.mem_append_right _ (List.mem_append_left _ (mem_i 219 rfl)))))) rfl
theorem W_997 : Cond.constantLong RX5 224 (48) ∈ WALL := mw0 (List.mem_append_right _ (List.mem_append_right _ (List.mem_append_right _ (List.mem_append_right _ (List.mem_append_left _ (mem_i 220 rfl)))))) rfl
theorem W_998 : Cond.constantLong RX5 226 (57) ∈ WALL := mw0 (List.mem_append_right _ (List.mem_append_right _ (List.mem_append_right _ (List.mem_append_right _ (List.mem_append_left _ (mem_i 221 rfl)))))) rfl
theorem W_999 : Cond.methodLink RX5 276 yX5_takesMain ∈ WALL := mw0 (List.mem_append_right _ (List.mem_append_right _ (List.mem_append_right _ (List.mem_append_right _ (List.mem_append_left _ (mem_i 222 rfl)))))) rfl
theorem W_1001 : Cond.instanceMethod yX5_takesMain ∈ WALL := mw0 (List.mem_append_right _ (List.mem_append_right _ (List.mem_append_right _ (List.mem_append_right _ (List.mem_append_left _ (mem_i 224 rfl)))))) rfl
theorem W_1002 : Cond.code yX5_takesMain cX5_takesMain 1 (some .boolean) ∈ WALL := mw0 (List.mem_append_right _ (List.mem_append_right _ (List.mem_append_right _ (List.mem_append_right _ (List.mem_append_left _ (mem_i 225 rfl)))))) rfl
theorem W_1003 : Cond.methodLink RX5 255 yX5_spells ∈ WALL := mw0 (List.mem_append_right _ (List.mem_append_right _ (List.mem_append_right _ (List.mem_append_right _ (List.mem_append_left _ (mem_i 226 rfl)))))) rfl
theorem W_1005 : Cond.instanceMethod yX5_spells ∈ WALL := mw0 (List.mem_append_right _ (List.mem_append_right _ (List.mem_append_right _ (List.mem_append_right _ (List.mem_append_left _ (mem_i 228 rfl)))))) rfl
theorem W_1006 : Cond.code yX5_spells cX5_spells 10 (some .boolean) ∈ WALL := mw0 (List.mem_append_right _ (List.mem_append_right _ (List.mem_append_right _ (List.mem_append_right _ (List.mem_append_left _ (mem_i 229 rfl)))))) rfl
theorem W_1007 : Cond.methodLink RX5 249 yX5_goBehind ∈ WALL := mw0 (List.mem_append_right _ (List.mem_append_right _ (List.mem_append_right _ (List.mem_append_right _ (List.mem_append_left _ (mem_i 230 rfl)))))) rfl
theorem W_1009 : Cond.instanceMethod yX5_goBehind ∈ WALL := mw0 (List.mem_append_right _ (List.mem_append_right _ (List.mem_append_right _ (List.mem_append_right _ (List.mem_append_left _ (mem_i 232 rfl)))))) rfl
theorem W_1010 : Cond.code yX5_goBehind cX5_goBehind 1 none ∈ WALL := mw0 (List.mem_append_right _ (List.mem_append_right _ (List.mem_append_right _ (List.mem_append_right _ (List.mem_append_left _ (mem_i 233 rfl)))))) rfl
theorem W_1011 : Cond.methodLink RX5 259 yX5_takes ∈ WALL := mw0 (List.mem_append_right _ (List.mem_append_right _ (List.mem_append_right _ (List.mem_append_right _ (List.mem_append_left _ (mem_i 234 rfl)))))) rfl
theorem W_1013 : Cond.instanceMethod yX5_takes ∈ WALL := mw0 (List.mem_append_right _ (List.mem_append_right _ (List.mem_append_right _ (List.mem_append_right _ (List.mem_append_left _ (mem_i 236 rfl)))))) rfl
theorem W_1014 : Cond.code yX5_takes cX5_takes 4 (some .boolean) ∈ WALL := mw0 (List.mem_append_right _ (List.mem_append_right _ (List.mem_append_right _ (List.mem_append_right _ (List.mem_append_left _ (mem_i 237 rfl)))))) rfl
theorem W_1015 : Cond.methodLink RX5 279 yX5_takesItem ∈ WALL := mw0 (List.mem_append_right _ (List.mem_append_right _ (List.mem_append_right _ (List.mem_append_right _ (List.mem_append_left _ (mem_i 238 rfl)))))) rfl
theorem W_1017 : Cond.instanceMethod yX5_takesItem ∈ WALL := mw0 (List.mem_append_right _ (List.mem_append_right _ (List.mem_append_right _ (List.mem_append_right _ (List.mem_append_right _ (mem_i 0 rfl)))))) rfl
theorem W_1018 : Cond.code yX5_takesItem cX5_takesItem 1 (some .boolean) ∈ WALL := mw0 (List.mem_append_right _ (List.mem_append_right _ (List.mem_append_right _ (List.mem_append_right _ (List.mem_append_right _ (mem_i 1 rfl)))))) rfl
theorem W_1019 : Cond.methodLink RX5 267 yX5_takesWell ∈ WALL := mw0 (List.mem_append_right _ (List.mem_append_right _ (List.mem_append_right _ (List.mem_append_right _ (List.mem_append_right _ (mem_i 2 rfl)))))) rfl
theorem W_1021 : Cond.instanceMethod yX5_takesWell ∈ WALL := mw0 (List.mem_append_right _ (List.mem_append_right _ (List.mem_append_right _ (List.mem_append_right _ (List.mem_append_right _ (mem_i 4 rfl)))))) rfl
theorem W_1022 : Cond.code yX5_takesWell cX5_takesWell 1 (some .boolean) ∈ WALL := mw0 (List.mem_append_right _ (List.mem_append_right _ (List.mem_append_right _ (List.mem_append_right _ (List.mem_append_right _ (mem_i 5 rfl)))))) rfl
theorem W_1023 : Cond.methodLink RX5 263 yX5_takesHours ∈ WALL := mw0 (List.mem_append_right _ (List.mem_append_right _ (List.mem_append_right _ (List.mem_append_right _ (List.mem_append_right _ (mem_i 6 rfl)))))) rfl
theorem W_1025 : Cond.instanceMethod yX5_takesHours ∈ WALL := mw0 (List.mem_append_right _ (List.mem_append_right _ (List.mem_append_right _ (List.mem_append_right _ (List.mem_append_right _ (mem_i 8 rfl)))))) rfl
theorem W_1026 : Cond.code yX5_takesHours cX5_takesHours 1 (some .boolean) ∈ WALL := mw0 (List.mem_append_right _ (List.mem_append_right _ (List.mem_append_right _ (List.mem_append_right _ (List.mem_append_right _ (mem_i 9 rfl)))))) rfl
theorem W_1027 : Cond.methodLink RX5 270 yX5_takesTurn ∈ WALL := mw0 (List.mem_append_right _ (List.mem_append_right _ (List.mem_append_right _ (List.mem_append_right _ (List.mem_append_right _ (mem_i 10 rfl)))))) rfl
theorem W_1029 : Cond.instanceMethod yX5_takesTurn ∈ WALL := mw0 (List.mem_append_right _ (List.mem_append_right _ (List.mem_append_right _ (List.mem_append_right _ (List.mem_append_right _ (mem_i 12 rfl)))))) rfl
theorem W_1030 : Cond.code yX5_takesTurn cX5_takesTurn 1 (some .boolean) ∈ WALL := mw0 (List.mem_append_right _ (List.mem_append_right _ (List.mem_append_right _ (List.mem_append_right _ (List.mem_append_right _ (mem_i 13 rfl)))))) rfl
theorem W_1031 : Cond.methodLink RX5 273 yX5_takesDay ∈ WALL := mw0 (List.mem_append_right _ (List.mem_append_right _ (List.mem_append_right _ (List.mem_append_right _ (List.mem_append_right _ (mem_i 14 rfl)))))) rfl
theorem W_1033 : Cond.instanceMethod yX5_takesDay ∈ WALL := mw0 (List.mem_append_right _ (List.mem_append_right _ (List.mem_append_right _ (List.mem_append_right _ (List.mem_append_right _ (mem_i 16 rfl)))))) rfl
theorem W_1034 : Cond.code yX5_takesDay cX5_takesDay 1 (some .boolean) ∈ WALL := mw0 (List.mem_append_right _ (List.mem_append_right _ (List.mem_append_right _ (List.mem_append_right _ (List.mem_append_right _ (mem_i 17 rfl)))))) rfl
theorem W_1055 : Cond.constantLong RX5 285 (8) ∈ WALL := mw0 (List.mem_append_right _ (List.mem_append_right _ (List.mem_append_right _ (List.mem_append_right _ (List.mem_append_right _ (mem_i 38 rfl)))))) rfl
theorem W_1056 : Cond.methodLink RX5 287 yX5_counted ∈ WALL := mw0 (List.mem_append_right _ (List.mem_append_right _ (List.mem_append_right _ (List.mem_append_right _ (List.mem_append_right _ (mem_i 39 rfl)))))) rfl
theorem W_1058 : Cond.instanceMethod yX5_counted ∈ WALL := mw0 (List.mem_append_right _ (List.mem_append_right _ (List.mem_append_right _ (List.mem_append_right _ (List.mem_append_right _ (mem_i 41 rfl)))))) rfl
theorem W_1059 : Cond.code yX5_counted cX5_counted 2 (some .int) ∈ WALL := mw0 (List.mem_append_right _ (List.mem_append_right _ (List.mem_append_right _ (List.mem_append_right _ (List.mem_append_right _ (mem_i 42 rfl)))))) rfl
theorem W_1060 : Cond.methodLink RX5 282 yX5_allOf ∈ WALL := mw0 (List.mem_append_right _ (List.mem_append_right _ (List.mem_append_right _ (List.mem_append_right _ (List.mem_append_right _ (mem_i 43 rfl)))))) rfl
theorem W_1062 : Cond.instanceMethod yX5_allOf ∈ WALL := mw0 (List.mem_append_right _ (List.mem_append_right _ (List.mem_append_right _ (List.mem_append_right _ (List.mem_append_right _ (mem_i 45 rfl)))))) rfl
theorem W_1063 : Cond.code yX5_allOf cX5_allOf 4 (some .int) ∈ WALL := mw0 (List.mem_append_right _ (List.mem_append_right _ (List.mem_append_right _ (List.mem_append_right _ (List.mem_append_right _ (mem_i 46 rfl)))))) rfl
theorem W_1068 : Cond.constantLong RX5 292 (1439) ∈ WALL := mw0 (List.mem_append_right _ (List.mem_append_right _ (List.mem_append_right _ (List.mem_append_right _ (List.mem_append_right _ (mem_i 51 rfl)))))) rfl
theorem W_1069 : Cond.constantLong RX5 290 (31) ∈ WALL := mw0 (List.mem_append_right _ (List.mem_append_right _ (List.mem_append_right _ (List.mem_append_right _ (List.mem_append_right _ (mem_i 52 rfl)))))) rfl
theorem W_1070 : Cond.methodLink RX5 294 yX5_sums ∈ WALL := mw0 (List.mem_append_right _ (List.mem_append_right _ (List.mem_append_right _ (List.mem_append_right _ (List.mem_append_right _ (mem_i 53 rfl)))))) rfl
theorem W_1072 : Cond.instanceMethod yX5_sums ∈ WALL := mw0 (List.mem_append_right _ (List.mem_append_right _ (List.mem_append_right _ (List.mem_append_right _ (List.mem_append_right _ (mem_i 55 rfl)))))) rfl
theorem W_1073 : Cond.code yX5_sums cX5_sums 8 (some .long) ∈ WALL := mw0 (List.mem_append_right _ (List.mem_append_right _ (List.mem_append_right _ (List.mem_append_right _ (List.mem_append_right _ (mem_i 56 rfl)))))) rfl
theorem inW_X1 : ∀ w ∈ u_ws RX1 TX1 18, w ∈ WALL := by
  intro w h
  obtain ⟨k, hk, rfl⟩ := List.mem_map.mp h
  have hk := List.mem_range.mp hk
  rcases (show k = 0 ∨ k = 1 ∨ k = 2 ∨ k = 3 ∨ k = 4 ∨ k = 5 ∨ k = 6 ∨ k = 7 ∨ k = 8 ∨ k = 9 ∨ k = 10 ∨ k = 11 ∨ k = 12 ∨ k = 13 ∨ k = 14 ∨ k = 15 ∨ k = 16 ∨ k = 17 by omega) with rfl | rfl | rfl | rfl | rfl | rfl | rfl | rfl | rfl | rfl | rfl | rfl | rfl | rfl | rfl | rfl | rfl | rfl
  · exact mw0 (List.mem_append_right _ (List.mem_append_left _ (mem_i 65 rfl))) rfl
  · exact mw0 (List.mem_append_right _ (List.mem_append_left _ (mem_i 67 rfl))) rfl
  · exact mw0 (List.mem_append_right _ (List.mem_append_left _ (mem_i 69 rfl))) rfl
  · exact mw0 (List.mem_append_right _ (List.mem_append_left _ (mem_i 71 rfl))) rfl
  · exact mw0 (List.mem_append_right _ (List.mem_append_left _ (mem_i 73 rfl))) rfl
  · exact mw0 (List.mem_append_right _ (List.mem_append_left _ (mem_i 75 rfl))) rfl
  · exact mw0 (List.mem_append_right _ (List.mem_append_left _ (mem_i 77 rfl))) rfl
  · exact mw0 (List.mem_append_right _ (List.mem_append_left _ (mem_i 79 rfl))) rfl
  · exact mw0 (List.mem_append_right _ (List.mem_append_left _ (mem_i 81 rfl))) rfl
  · exact mw0 (List.mem_append_right _ (List.mem_append_left _ (mem_i 83 rfl))) rfl
  · exact mw0 (List.mem_append_right _ (List.mem_append_left _ (mem_i 85 rfl))) rfl
  · exact mw0 (List.mem_append_right _ (List.mem_append_left _ (mem_i 87 rfl))) rfl
  · exact mw0 (List.mem_append_right _ (List.mem_append_left _ (mem_i 89 rfl))) rfl
  · exact mw0 (List.mem_append_right _ (List.mem_append_left _ (mem_i 91 rfl))) rfl
  · exact mw0 (List.mem_append_right _ (List.mem_append_left _ (mem_i 93 rfl))) rfl
  · exact mw0 (List.mem_append_right _ (List.mem_append_left _ (mem_i 95 rfl))) rfl
  · exact mw0 (List.mem_append_right _ (List.mem_append_left _ (mem_i 97 rfl))) rfl
  · exact mw0 (List.mem_append_right _ (List.mem_append_left _ (mem_i 99 rfl))) rfl
theorem inT_X1 {c0 : Cond} : ∀ w ∈ u_ws RX1 TX1 18, w ∈ c0 :: WALL := fun w h => mc (inW_X1 w h)
theorem inW_X2 : ∀ w ∈ u_ws RX2 TX2 7, w ∈ WALL := by
  intro w h
  obtain ⟨k, hk, rfl⟩ := List.mem_map.mp h
  have hk := List.mem_range.mp hk
  rcases (show k = 0 ∨ k = 1 ∨ k = 2 ∨ k = 3 ∨ k = 4 ∨ k = 5 ∨ k = 6 by omega) with rfl | rfl | rfl | rfl | rfl | rfl | rfl
  · exact mw0 (List.mem_append_right _ (List.mem_append_left _ (mem_i 153 rfl))) rfl
  · exact mw0 (List.mem_append_right _ (List.mem_append_left _ (mem_i 155 rfl))) rfl
  · exact mw0 (List.mem_append_right _ (List.mem_append_left _ (mem_i 157 rfl))) rfl
  · exact mw0 (List.mem_append_right _ (List.mem_append_left _ (mem_i 159 rfl))) rfl
  · exact mw0 (List.mem_append_right _ (List.mem_append_left _ (mem_i 161 rfl))) rfl
  · exact mw0 (List.mem_append_right _ (List.mem_append_left _ (mem_i 163 rfl))) rfl
  · exact mw0 (List.mem_append_right _ (List.mem_append_left _ (mem_i 165 rfl))) rfl
theorem inT_X2 {c0 : Cond} : ∀ w ∈ u_ws RX2 TX2 7, w ∈ c0 :: WALL := fun w h => mc (inW_X2 w h)
theorem inW_X3 : ∀ w ∈ u_ws RX3 TX3 7, w ∈ WALL := by
  intro w h
  obtain ⟨k, hk, rfl⟩ := List.mem_map.mp h
  have hk := List.mem_range.mp hk
  rcases (show k = 0 ∨ k = 1 ∨ k = 2 ∨ k = 3 ∨ k = 4 ∨ k = 5 ∨ k = 6 by omega) with rfl | rfl | rfl | rfl | rfl | rfl | rfl
  · exact mw0 (List.mem_append_right _ (List.mem_append_left _ (mem_i 120 rfl))) rfl
  · exact mw0 (List.mem_append_right _ (List.mem_append_left _ (mem_i 122 rfl))) rfl
  · exact mw0 (List.mem_append_right _ (List.mem_append_left _ (mem_i 124 rfl))) rfl
  · exact mw0 (List.mem_append_right _ (List.mem_append_left _ (mem_i 126 rfl))) rfl
  · exact mw0 (List.mem_append_right _ (List.mem_append_left _ (mem_i 128 rfl))) rfl
  · exact mw0 (List.mem_append_right _ (List.mem_append_left _ (mem_i 130 rfl))) rfl
  · exact mw0 (List.mem_append_right _ (List.mem_append_left _ (mem_i 132 rfl))) rfl
theorem inT_X3 {c0 : Cond} : ∀ w ∈ u_ws RX3 TX3 7, w ∈ c0 :: WALL := fun w h => mc (inW_X3 w h)
theorem inW_X4 : ∀ w ∈ u_ws RX4 TX4 9, w ∈ WALL := by
  intro w h
  obtain ⟨k, hk, rfl⟩ := List.mem_map.mp h
  have hk := List.mem_range.mp hk
  rcases (show k = 0 ∨ k = 1 ∨ k = 2 ∨ k = 3 ∨ k = 4 ∨ k = 5 ∨ k = 6 ∨ k = 7 ∨ k = 8 by omega) with rfl | rfl | rfl | rfl | rfl | rfl | rfl | rfl | rfl
  · exact mw0 (List.mem_append_right _ (List.mem_append_left _ (mem_i 178 rfl))) rfl
  · exact mw0 (List.mem_append_right _ (List.mem_append_left _ (mem_i 180 rfl))) rfl
  · exact mw0 (List.mem_append_right _ (List.mem_append_left _ (mem_i 182 rfl))) rfl
  · exact mw0 (List.mem_append_right _ (List.mem_append_left _ (mem_i 184 rfl))) rfl
  · exact mw0 (List.mem_append_right _ (List.mem_append_left _ (mem_i 186 rfl))) rfl
  · exact mw0 (List.mem_append_right _ (List.mem_append_left _ (mem_i 188 rfl))) rfl
  · exact mw0 (List.mem_append_right _ (List.mem_append_left _ (mem_i 190 rfl))) rfl
  · exact mw0 (List.mem_append_right _ (List.mem_append_left _ (mem_i 192 rfl))) rfl
  · exact mw0 (List.mem_append_right _ (List.mem_append_left _ (mem_i 194 rfl))) rfl
theorem inT_X4 {c0 : Cond} : ∀ w ∈ u_ws RX4 TX4 9, w ∈ c0 :: WALL := fun w h => mc (inW_X4 w h)
theorem inW_X5 : ∀ w ∈ u_ws RX5 TX5 28, w ∈ WALL := by
  intro w h
  obtain ⟨k, hk, rfl⟩ := List.mem_map.mp h
  have hk := List.mem_range.mp hk
  rcases (show k = 0 ∨ k = 1 ∨ k = 2 ∨ k = 3 ∨ k = 4 ∨ k = 5 ∨ k = 6 ∨ k = 7 ∨ k = 8 ∨ k = 9 ∨ k = 10 ∨ k = 11 ∨ k = 12 ∨ k = 13 ∨ k = 14 ∨ k = 15 ∨ k = 16 ∨ k = 17 ∨ k = 18 ∨ k = 19 ∨ k = 20 ∨ k = 21 ∨ k = 22 ∨ k = 23 ∨ k = 24 ∨ k = 25 ∨ k = 26 ∨ k = 27 by omega) with rfl | rfl | rfl | rfl | rfl | rfl | rfl | rfl | rfl | rfl | rfl | rfl | rfl | rfl | rfl | rfl | rfl | rfl | rfl | rfl | rfl | rfl | rfl | rfl | rfl | rfl | rfl | rfl
  · exact mw0 (List.mem_append_right _ (List.mem_append_right _ (List.mem_append_right _ (List.mem_append_left _ (mem_i 164 rfl))))) rfl
  · exact mw0 (List.mem_append_right _ (List.mem_append_right _ (List.mem_append_right _ (List.mem_append_left _ (mem_i 166 rfl))))) rfl
  · exact mw0 (List.mem_append_right _ (List.mem_append_right _ (List.mem_append_right _ (List.mem_append_left _ (mem_i 168 rfl))))) rfl
  · exact mw0 (List.mem_append_right _ (List.mem_append_right _ (List.mem_append_right _ (List.mem_append_left _ (mem_i 170 rfl))))) rfl
  · exact mw0 (List.mem_append_right _ (List.mem_append_right _ (List.mem_append_right _ (List.mem_append_left _ (mem_i 172 rfl))))) rfl
  · exact mw0 (List.mem_append_right _ (List.mem_append_right _ (List.mem_append_right _ (List.mem_append_left _ (mem_i 174 rfl))))) rfl
  · exact mw0 (List.mem_append_right _ (List.mem_append_right _ (List.mem_append_right _ (List.mem_append_left _ (mem_i 176 rfl))))) rfl
  · exact mw0 (List.mem_append_right _ (List.mem_append_right _ (List.mem_append_right _ (List.mem_append_left _ (mem_i 178 rfl))))) rfl
  · exact mw0 (List.mem_append_right _ (List.mem_append_right _ (List.mem_append_right _ (List.mem_append_left _ (mem_i 180 rfl))))) rfl
  · exact mw0 (List.mem_append_right _ (List.mem_append_right _ (List.mem_append_right _ (List.mem_append_left _ (mem_i 182 rfl))))) rfl
  · exact mw0 (List.mem_append_right _ (List.mem_append_right _ (List.mem_append_right _ (List.mem_append_left _ (mem_i 184 rfl))))) rfl
  · exact mw0 (List.mem_append_right _ (List.mem_append_right _ (List.mem_append_right _ (List.mem_append_left _ (mem_i 186 rfl))))) rfl
  · exact mw0 (List.mem_append_right _ (List.mem_append_right _ (List.mem_append_right _ (List.mem_append_left _ (mem_i 188 rfl))))) rfl
  · exact mw0 (List.mem_append_right _ (List.mem_append_right _ (List.mem_append_right _ (List.mem_append_left _ (mem_i 190 rfl))))) rfl
  · exact mw0 (List.mem_append_right _ (List.mem_append_right _ (List.mem_append_right _ (List.mem_append_left _ (mem_i 192 rfl))))) rfl
  · exact mw0 (List.mem_append_right _ (List.mem_append_right _ (List.mem_append_right _ (List.mem_append_left _ (mem_i 194 rfl))))) rfl
  · exact mw0 (List.mem_append_right _ (List.mem_append_right _ (List.mem_append_right _ (List.mem_append_left _ (mem_i 196 rfl))))) rfl
  · exact mw0 (List.mem_append_right _ (List.mem_append_right _ (List.mem_append_right _ (List.mem_append_left _ (mem_i 198 rfl))))) rfl
  · exact mw0 (List.mem_append_right _ (List.mem_append_right _ (List.mem_append_right _ (List.mem_append_left _ (mem_i 200 rfl))))) rfl
  · exact mw0 (List.mem_append_right _ (List.mem_append_right _ (List.mem_append_right _ (List.mem_append_left _ (mem_i 202 rfl))))) rfl
  · exact mw0 (List.mem_append_right _ (List.mem_append_right _ (List.mem_append_right _ (List.mem_append_left _ (mem_i 204 rfl))))) rfl
  · exact mw0 (List.mem_append_right _ (List.mem_append_right _ (List.mem_append_right _ (List.mem_append_left _ (mem_i 206 rfl))))) rfl
  · exact mw0 (List.mem_append_right _ (List.mem_append_right _ (List.mem_append_right _ (List.mem_append_left _ (mem_i 208 rfl))))) rfl
  · exact mw0 (List.mem_append_right _ (List.mem_append_right _ (List.mem_append_right _ (List.mem_append_left _ (mem_i 210 rfl))))) rfl
  · exact mw0 (List.mem_append_right _ (List.mem_append_right _ (List.mem_append_right _ (List.mem_append_left _ (mem_i 212 rfl))))) rfl
  · exact mw0 (List.mem_append_right _ (List.mem_append_right _ (List.mem_append_right _ (List.mem_append_left _ (mem_i 214 rfl))))) rfl
  · exact mw0 (List.mem_append_right _ (List.mem_append_right _ (List.mem_append_right _ (List.mem_append_left _ (mem_i 216 rfl))))) rfl
  · exact mw0 (List.mem_append_right _ (List.mem_append_right _ (List.mem_append_right _ (List.mem_append_left _ (mem_i 218 rfl))))) rfl
theorem inT_X5 {c0 : Cond} : ∀ w ∈ u_ws RX5 TX5 28, w ∈ c0 :: WALL := fun w h => mc (inW_X5 w h)

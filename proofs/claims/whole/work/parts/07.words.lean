/-! words of the tables -/
theorem mw_0 : Cond.fieldLink RJ0 38 "java/lang/String" "COMPACT_STRINGS" "Z" ∈ zT := zT_in (List.mem_append_right _ (List.mem_of_getElem? (i := 186) (by decide +kernel))) (by decide +kernel)
theorem mw_1 : Cond.fieldLink RJ0 15 "java/lang/String" "coder" "B" ∈ zT := zT_in (List.mem_append_right _ (List.mem_of_getElem? (i := 1211) (by decide +kernel))) (by decide +kernel)
theorem mw_2 : Cond.fieldLink RJ0 9 "java/lang/String" "value" "[B" ∈ zT := zT_in (List.mem_append_right _ (List.mem_of_getElem? (i := 1210) (by decide +kernel))) (by decide +kernel)
theorem mw_3 : Cond.methodLink RJ0 335 yJ0_coder_7d493 ∈ zT := zT_in (List.mem_append_right _ (List.mem_of_getElem? (i := 182) (by decide +kernel))) (by decide +kernel)
theorem mw_4 : Cond.initialized RJ0 ∈ zT := zT_in (List.mem_append_right _ (List.mem_of_getElem? (i := 7) (by decide +kernel))) (by decide +kernel)
theorem mw_5 : Cond.code yJ0_coder_7d493 cJ0_coder_7d493 1 (some .byte) ∈ zT := zT_in (List.mem_append_right _ (List.mem_of_getElem? (i := 185) (by decide +kernel))) (by decide +kernel)
theorem mw_6 : Cond.instanceMethod yJ0_coder_7d493 ∈ zT := zT_in (List.mem_append_right _ (List.mem_of_getElem? (i := 183) (by decide +kernel))) (by decide +kernel)
theorem mw_7 : Cond.selects RJ0 yJ0_coder_7d493 yJ0_coder_7d493 ∈ zT := zT_in (List.mem_append_right _ (List.mem_of_getElem? (i := 184) (by decide +kernel))) (by decide +kernel)
theorem mw_8 : Cond.fieldLink RJ0 1053 "jdk/internal/util/Preconditions" "SIOOBE_FORMATTER" "Ljava/util/function/BiFunction;" ∈ zT := zT_in (List.mem_append_right _ (List.mem_of_getElem? (i := 202) (by decide +kernel))) (by decide +kernel)
theorem mw_9 : Cond.methodLink RJ0 1059 yJ3_checkIndex_8e157 ∈ zT := zT_in (List.mem_append_right _ (List.mem_of_getElem? (i := 204) (by decide +kernel))) (by decide +kernel)
theorem mw_10 : Cond.initialized RJ3 ∈ zT := zT_in (List.mem_append_right _ (List.mem_of_getElem? (i := 9) (by decide +kernel))) (by decide +kernel)
theorem mw_11 : Cond.code yJ3_checkIndex_8e157 cJ3_checkIndex_8e157 3 (some .int) ∈ zT := zT_in (List.mem_append_right _ (List.mem_of_getElem? (i := 206) (by decide +kernel))) (by decide +kernel)
theorem mw_12 : Cond.static yJ3_checkIndex_8e157 ∈ zT := zT_in (List.mem_append_right _ (List.mem_of_getElem? (i := 205) (by decide +kernel))) (by decide +kernel)
theorem mw_13 : Cond.methodLink RJ1 9 yJ0_checkIndex_df160 ∈ zT := zT_in (List.mem_append_right _ (List.mem_of_getElem? (i := 199) (by decide +kernel))) (by decide +kernel)
theorem mw_14 : Cond.code yJ0_checkIndex_df160 cJ0_checkIndex_df160 2 none ∈ zT := zT_in (List.mem_append_right _ (List.mem_of_getElem? (i := 201) (by decide +kernel))) (by decide +kernel)
theorem mw_15 : Cond.static yJ0_checkIndex_df160 ∈ zT := zT_in (List.mem_append_right _ (List.mem_of_getElem? (i := 200) (by decide +kernel))) (by decide +kernel)
theorem mw_16 : Cond.methodLink RJ0 492 yJ0_isLatin1_aae02 ∈ zT := zT_in (List.mem_append_right _ (List.mem_of_getElem? (i := 192) (by decide +kernel))) (by decide +kernel)
theorem mw_17 : Cond.code yJ0_isLatin1_aae02 cJ0_isLatin1_aae02 1 (some .boolean) ∈ zT := zT_in (List.mem_append_right _ (List.mem_of_getElem? (i := 195) (by decide +kernel))) (by decide +kernel)
theorem mw_18 : Cond.instanceMethod yJ0_isLatin1_aae02 ∈ zT := zT_in (List.mem_append_right _ (List.mem_of_getElem? (i := 193) (by decide +kernel))) (by decide +kernel)
theorem mw_19 : Cond.selects RJ0 yJ0_isLatin1_aae02 yJ0_isLatin1_aae02 ∈ zT := zT_in (List.mem_append_right _ (List.mem_of_getElem? (i := 194) (by decide +kernel))) (by decide +kernel)
theorem mw_20 : Cond.methodLink RJ0 495 yJ1_charAt_3b067 ∈ zT := zT_in (List.mem_append_right _ (List.mem_of_getElem? (i := 196) (by decide +kernel))) (by decide +kernel)
theorem mw_21 : Cond.initialized RJ1 ∈ zT := zT_in (List.mem_append_right _ (List.mem_of_getElem? (i := 8) (by decide +kernel))) (by decide +kernel)
theorem mw_22 : Cond.code yJ1_charAt_3b067 cJ1_charAt_3b067 2 (some .char) ∈ zT := zT_in (List.mem_append_right _ (List.mem_of_getElem? (i := 198) (by decide +kernel))) (by decide +kernel)
theorem mw_23 : Cond.static yJ1_charAt_3b067 ∈ zT := zT_in (List.mem_append_right _ (List.mem_of_getElem? (i := 197) (by decide +kernel))) (by decide +kernel)
theorem mw_24 : Cond.methodLink RJ1 88 yJ1_canEncode_9a6ad ∈ zT := zT_in (List.mem_append_right _ (List.mem_of_getElem? (i := 278) (by decide +kernel))) (by decide +kernel)
theorem mw_25 : Cond.code yJ1_canEncode_9a6ad cJ1_canEncode_9a6ad 1 (some .boolean) ∈ zT := zT_in (List.mem_append_right _ (List.mem_of_getElem? (i := 280) (by decide +kernel))) (by decide +kernel)
theorem mw_26 : Cond.static yJ1_canEncode_9a6ad ∈ zT := zT_in (List.mem_append_right _ (List.mem_of_getElem? (i := 279) (by decide +kernel))) (by decide +kernel)
theorem mw_27 : Cond.methodLink RJ1 92 Lib.Math.max.name ∈ zT := zT_in (List.mem_append_right _ (List.mem_of_getElem? (i := 281) (by decide +kernel))) (by decide +kernel)
theorem mw_28 : Cond.static Lib.Math.max.name ∈ zT := zT_in (List.mem_append_right _ (List.mem_of_getElem? (i := 282) (by decide +kernel))) (by decide +kernel)
theorem mw_29 : Cond.initialized "java/lang/Math" ∈ zT := zT_in (List.mem_append_right _ (List.mem_of_getElem? (i := 11) (by decide +kernel))) (by decide +kernel)
theorem mw_30 : Cond.code Lib.Math.max.name Lib.Math.max.code 2 (some .int) ∈ zT := zT_in (List.mem_append_right _ (List.mem_of_getElem? (i := 283) (by decide +kernel))) (by decide +kernel)
theorem mw_31 : Cond.methodLink RJ1 38 Lib.Math.min.name ∈ zT := zT_in (List.mem_append_right _ (List.mem_of_getElem? (i := 284) (by decide +kernel))) (by decide +kernel)
theorem mw_32 : Cond.static Lib.Math.min.name ∈ zT := zT_in (List.mem_append_right _ (List.mem_of_getElem? (i := 285) (by decide +kernel))) (by decide +kernel)
theorem mw_33 : Cond.code Lib.Math.min.name Lib.Math.min.code 2 (some .int) ∈ zT := zT_in (List.mem_append_right _ (List.mem_of_getElem? (i := 286) (by decide +kernel))) (by decide +kernel)
theorem mw_34 : Cond.methodLink RJ1 95 yJ1_indexOfChar_4cfef ∈ zT := zT_in (List.mem_append_right _ (List.mem_of_getElem? (i := 287) (by decide +kernel))) (by decide +kernel)
theorem mw_35 : Cond.code yJ1_indexOfChar_4cfef cJ1_indexOfChar_4cfef 6 (some .int) ∈ zT := zT_in (List.mem_append_right _ (List.mem_of_getElem? (i := 289) (by decide +kernel))) (by decide +kernel)
theorem mw_36 : Cond.static yJ1_indexOfChar_4cfef ∈ zT := zT_in (List.mem_append_right _ (List.mem_of_getElem? (i := 288) (by decide +kernel))) (by decide +kernel)
theorem mw_37 : Cond.methodLink RJ0 505 yJ0_length_8abf5 ∈ zT := zT_in (List.mem_append_right _ (List.mem_of_getElem? (i := 274) (by decide +kernel))) (by decide +kernel)
theorem mw_38 : Cond.code yJ0_length_8abf5 cJ0_length_8abf5 1 (some .int) ∈ zT := zT_in (List.mem_append_right _ (List.mem_of_getElem? (i := 181) (by decide +kernel))) (by decide +kernel)
theorem mw_39 : Cond.instanceMethod yJ0_length_8abf5 ∈ zT := zT_in (List.mem_append_right _ (List.mem_of_getElem? (i := 179) (by decide +kernel))) (by decide +kernel)
theorem mw_40 : Cond.selects RJ0 yJ0_length_8abf5 yJ0_length_8abf5 ∈ zT := zT_in (List.mem_append_right _ (List.mem_of_getElem? (i := 180) (by decide +kernel))) (by decide +kernel)
theorem mw_41 : Cond.methodLink RJ0 637 yJ1_indexOf_4cfef ∈ zT := zT_in (List.mem_append_right _ (List.mem_of_getElem? (i := 275) (by decide +kernel))) (by decide +kernel)
theorem mw_42 : Cond.code yJ1_indexOf_4cfef cJ1_indexOf_4cfef 4 (some .int) ∈ zT := zT_in (List.mem_append_right _ (List.mem_of_getElem? (i := 277) (by decide +kernel))) (by decide +kernel)
theorem mw_43 : Cond.static yJ1_indexOf_4cfef ∈ zT := zT_in (List.mem_append_right _ (List.mem_of_getElem? (i := 276) (by decide +kernel))) (by decide +kernel)
theorem mw_44 : Cond.methodLink RJ0 633 yJ0_indexOf_7cf53 ∈ zT := zT_in (List.mem_append_right _ (List.mem_of_getElem? (i := 270) (by decide +kernel))) (by decide +kernel)
theorem mw_45 : Cond.code yJ0_indexOf_7cf53 cJ0_indexOf_7cf53 3 (some .int) ∈ zT := zT_in (List.mem_append_right _ (List.mem_of_getElem? (i := 273) (by decide +kernel))) (by decide +kernel)
theorem mw_46 : Cond.instanceMethod yJ0_indexOf_7cf53 ∈ zT := zT_in (List.mem_append_right _ (List.mem_of_getElem? (i := 271) (by decide +kernel))) (by decide +kernel)
theorem mw_47 : Cond.selects RJ0 yJ0_indexOf_7cf53 yJ0_indexOf_7cf53 ∈ zT := zT_in (List.mem_append_right _ (List.mem_of_getElem? (i := 272) (by decide +kernel))) (by decide +kernel)
theorem mw_48 : Cond.methodLink RX5 192 Lib.Math.min.name ∈ zT := zT_in (List.mem_append_right _ (List.mem_of_getElem? (i := 446) (by decide +kernel))) (by decide +kernel)
theorem mw_49 : Cond.methodLink RX5 260 Lib.Math.max.name ∈ zT := zT_in (List.mem_append_right _ (List.mem_of_getElem? (i := 447) (by decide +kernel))) (by decide +kernel)
theorem mw_50 : Cond.methodLink RX5 78 yX5_within ∈ zT := zT_in (List.mem_append_right _ (List.mem_of_getElem? (i := 401) (by decide +kernel))) (by decide +kernel)
theorem mw_51 : Cond.initialized RX5 ∈ zT := zT_in (List.mem_append_right _ (List.mem_of_getElem? (i := 1) (by decide +kernel))) (by decide +kernel)
theorem mw_52 : Cond.code yX5_within cX5_within 3 (some .boolean) ∈ zT := zT_in (List.mem_append_right _ (List.mem_of_getElem? (i := 403) (by decide +kernel))) (by decide +kernel)
theorem mw_53 : Cond.static yX5_within ∈ zT := zT_in (List.mem_append_right _ (List.mem_of_getElem? (i := 402) (by decide +kernel))) (by decide +kernel)
theorem mw_54 : Cond.methodLink RX5 257 yX5_kindAbove ∈ zT := zT_in (List.mem_append_right _ (List.mem_of_getElem? (i := 703) (by decide +kernel))) (by decide +kernel)
theorem mw_55 : Cond.code yX5_kindAbove cX5_kindAbove 1 (some .int) ∈ zT := zT_in (List.mem_append_right _ (List.mem_of_getElem? (i := 705) (by decide +kernel))) (by decide +kernel)
theorem mw_56 : Cond.static yX5_kindAbove ∈ zT := zT_in (List.mem_append_right _ (List.mem_of_getElem? (i := 704) (by decide +kernel))) (by decide +kernel)
theorem mw_57 : Cond.constant RJ6 265 (1431655765 : Int32) ∈ zT := zT_in (List.mem_append_right _ (List.mem_of_getElem? (i := 571) (by decide +kernel))) (by decide +kernel)
theorem mw_58 : Cond.constant RJ6 266 (858993459 : Int32) ∈ zT := zT_in (List.mem_append_right _ (List.mem_of_getElem? (i := 572) (by decide +kernel))) (by decide +kernel)
theorem mw_59 : Cond.constant RJ6 267 (252645135 : Int32) ∈ zT := zT_in (List.mem_append_right _ (List.mem_of_getElem? (i := 573) (by decide +kernel))) (by decide +kernel)
theorem mw_60 : Cond.fieldLink RX0 15 "GlassesOfRue$Sheet" "sort" "I" ∈ zT := zT_in (List.mem_append_right _ (List.mem_of_getElem? (i := 166) (by decide +kernel))) (by decide +kernel)
theorem mw_61 : Cond.fieldLink RX0 19 "GlassesOfRue$Sheet" "size" "I" ∈ zT := zT_in (List.mem_append_right _ (List.mem_of_getElem? (i := 168) (by decide +kernel))) (by decide +kernel)
theorem mw_62 : Cond.fieldLink RX0 9 "GlassesOfRue$Sheet" "cells" "[I" ∈ zT := zT_in (List.mem_append_right _ (List.mem_of_getElem? (i := 164) (by decide +kernel))) (by decide +kernel)
theorem mw_63 : Cond.methodLink RX0 22 yJ7_fill_53178 ∈ zT := zT_in (List.mem_append_right _ (List.mem_of_getElem? (i := 636) (by decide +kernel))) (by decide +kernel)
theorem mw_64 : Cond.initialized RJ7 ∈ zT := zT_in (List.mem_append_right _ (List.mem_of_getElem? (i := 14) (by decide +kernel))) (by decide +kernel)
theorem mw_65 : Cond.code yJ7_fill_53178 cJ7_fill_53178 4 none ∈ zT := zT_in (List.mem_append_right _ (List.mem_of_getElem? (i := 638) (by decide +kernel))) (by decide +kernel)
theorem mw_66 : Cond.static yJ7_fill_53178 ∈ zT := zT_in (List.mem_append_right _ (List.mem_of_getElem? (i := 637) (by decide +kernel))) (by decide +kernel)
theorem mw_67 : Cond.fieldLink RX3 15 "GlassesOfRue$Text" "ends" "[I" ∈ zT := zT_in (List.mem_append_right _ (List.mem_of_getElem? (i := 150) (by decide +kernel))) (by decide +kernel)
theorem mw_68 : Cond.fieldLink RX3 9 "GlassesOfRue$Text" "code" "[I" ∈ zT := zT_in (List.mem_append_right _ (List.mem_of_getElem? (i := 149) (by decide +kernel))) (by decide +kernel)
theorem mw_69 : Cond.fieldLink RX3 18 "GlassesOfRue$Text" "stack" "[I" ∈ zT := zT_in (List.mem_append_right _ (List.mem_of_getElem? (i := 151) (by decide +kernel))) (by decide +kernel)
theorem mw_70 : Cond.methodLink RX3 29 yX3_joined ∈ zT := zT_in (List.mem_append_right _ (List.mem_of_getElem? (i := 440) (by decide +kernel))) (by decide +kernel)
theorem mw_71 : Cond.initialized RX3 ∈ zT := zT_in (List.mem_append_right _ (List.mem_of_getElem? (i := 5) (by decide +kernel))) (by decide +kernel)
theorem mw_72 : Cond.code yX3_joined cX3_joined 3 (some .int) ∈ zT := zT_in (List.mem_append_right _ (List.mem_of_getElem? (i := 442) (by decide +kernel))) (by decide +kernel)
theorem mw_73 : Cond.static yX3_joined ∈ zT := zT_in (List.mem_append_right _ (List.mem_of_getElem? (i := 441) (by decide +kernel))) (by decide +kernel)
theorem mw_74 : Cond.methodLink RX3 25 yX3_changed ∈ zT := zT_in (List.mem_append_right _ (List.mem_of_getElem? (i := 437) (by decide +kernel))) (by decide +kernel)
theorem mw_75 : Cond.code yX3_changed cX3_changed 2 (some .int) ∈ zT := zT_in (List.mem_append_right _ (List.mem_of_getElem? (i := 439) (by decide +kernel))) (by decide +kernel)
theorem mw_76 : Cond.static yX3_changed ∈ zT := zT_in (List.mem_append_right _ (List.mem_of_getElem? (i := 438) (by decide +kernel))) (by decide +kernel)
theorem mw_77 : Cond.fieldLink RX4 34 "GlassesOfRue$World" "size" "I" ∈ zT := zT_in (List.mem_append_right _ (List.mem_of_getElem? (i := 111) (by decide +kernel))) (by decide +kernel)
theorem mw_78 : Cond.fieldLink RX4 18 "GlassesOfRue$World" "rue" "[I" ∈ zT := zT_in (List.mem_append_right _ (List.mem_of_getElem? (i := 105) (by decide +kernel))) (by decide +kernel)
theorem mw_79 : Cond.methodLink RX4 78 Lib.Math.max.name ∈ zT := zT_in (List.mem_append_right _ (List.mem_of_getElem? (i := 432) (by decide +kernel))) (by decide +kernel)
theorem mw_80 : Cond.fieldLink RX4 44 "GlassesOfRue$World" "rule" "I" ∈ zT := zT_in (List.mem_append_right _ (List.mem_of_getElem? (i := 117) (by decide +kernel))) (by decide +kernel)
theorem mw_81 : Cond.fieldLink RX4 30 "GlassesOfRue$World" "texts" "[LGlassesOfRue$Text;" ∈ zT := zT_in (List.mem_append_right _ (List.mem_of_getElem? (i := 100) (by decide +kernel))) (by decide +kernel)
theorem mw_82 : Cond.fieldLink RX4 27 "GlassesOfRue$World" "names" "[I" ∈ zT := zT_in (List.mem_append_right _ (List.mem_of_getElem? (i := 110) (by decide +kernel))) (by decide +kernel)
theorem mw_83 : Cond.fieldLink RX4 15 "GlassesOfRue$World" "number" "[I" ∈ zT := zT_in (List.mem_append_right _ (List.mem_of_getElem? (i := 103) (by decide +kernel))) (by decide +kernel)
theorem mw_84 : Cond.fieldLink RX4 41 "GlassesOfRue$World" "wet" "I" ∈ zT := zT_in (List.mem_append_right _ (List.mem_of_getElem? (i := 115) (by decide +kernel))) (by decide +kernel)
theorem mw_85 : Cond.fieldLink RX4 38 "GlassesOfRue$World" "day" "I" ∈ zT := zT_in (List.mem_append_right _ (List.mem_of_getElem? (i := 113) (by decide +kernel))) (by decide +kernel)
theorem mw_86 : Cond.fieldLink RX4 21 "GlassesOfRue$World" "had" "[I" ∈ zT := zT_in (List.mem_append_right _ (List.mem_of_getElem? (i := 107) (by decide +kernel))) (by decide +kernel)
theorem mw_87 : Cond.methodLink RX4 84 yX4_mostRue ∈ zT := zT_in (List.mem_append_right _ (List.mem_of_getElem? (i := 428) (by decide +kernel))) (by decide +kernel)
theorem mw_88 : Cond.initialized RX4 ∈ zT := zT_in (List.mem_append_right _ (List.mem_of_getElem? (i := 4) (by decide +kernel))) (by decide +kernel)
theorem mw_89 : Cond.code yX4_mostRue cX4_mostRue 3 (some .int) ∈ zT := zT_in (List.mem_append_right _ (List.mem_of_getElem? (i := 431) (by decide +kernel))) (by decide +kernel)
theorem mw_90 : Cond.instanceMethod yX4_mostRue ∈ zT := zT_in (List.mem_append_right _ (List.mem_of_getElem? (i := 429) (by decide +kernel))) (by decide +kernel)
theorem mw_91 : Cond.selects RX4 yX4_mostRue yX4_mostRue ∈ zT := zT_in (List.mem_append_right _ (List.mem_of_getElem? (i := 430) (by decide +kernel))) (by decide +kernel)
theorem mw_92 : Cond.methodLink RX4 88 yX3_tell ∈ zT := zT_in (List.mem_append_right _ (List.mem_of_getElem? (i := 433) (by decide +kernel))) (by decide +kernel)
theorem mw_93 : Cond.code yX3_tell cX3_tell 7 (some .int) ∈ zT := zT_in (List.mem_append_right _ (List.mem_of_getElem? (i := 436) (by decide +kernel))) (by decide +kernel)
theorem mw_94 : Cond.instanceMethod yX3_tell ∈ zT := zT_in (List.mem_append_right _ (List.mem_of_getElem? (i := 434) (by decide +kernel))) (by decide +kernel)
theorem mw_95 : Cond.selects RX3 yX3_tell yX3_tell ∈ zT := zT_in (List.mem_append_right _ (List.mem_of_getElem? (i := 435) (by decide +kernel))) (by decide +kernel)
theorem mw_96 : Cond.fieldLink RX4 9 "GlassesOfRue$World" "kind" "[I" ∈ zT := zT_in (List.mem_append_right _ (List.mem_of_getElem? (i := 101) (by decide +kernel))) (by decide +kernel)
theorem mw_97 : Cond.methodLink RX4 51 yX4_ruleTells ∈ zT := zT_in (List.mem_append_right _ (List.mem_of_getElem? (i := 424) (by decide +kernel))) (by decide +kernel)
theorem mw_98 : Cond.code yX4_ruleTells cX4_ruleTells 3 (some .int) ∈ zT := zT_in (List.mem_append_right _ (List.mem_of_getElem? (i := 427) (by decide +kernel))) (by decide +kernel)
theorem mw_99 : Cond.instanceMethod yX4_ruleTells ∈ zT := zT_in (List.mem_append_right _ (List.mem_of_getElem? (i := 426) (by decide +kernel))) (by decide +kernel)
theorem mw_100 : Cond.selects RX4 yX4_ruleTells yX4_ruleTells ∈ zT := zT_in (List.mem_append_left _ (List.mem_of_getElem? (i := 14) (by decide +kernel))) (by decide +kernel)
theorem mw_101 : Cond.static yX5_bounded ∈ zT := zT_in (List.mem_append_right _ (List.mem_of_getElem? (i := 444) (by decide +kernel))) (by decide +kernel)
theorem mw_102 : Cond.code yX5_bounded cX5_bounded 3 (some .int) ∈ zT := zT_in (List.mem_append_right _ (List.mem_of_getElem? (i := 445) (by decide +kernel))) (by decide +kernel)
theorem mw_103 : Cond.methodLink RX4 59 Lib.Math.min.name ∈ zT := zT_in (List.mem_append_right _ (List.mem_of_getElem? (i := 456) (by decide +kernel))) (by decide +kernel)
theorem mw_104 : Cond.methodLink RX4 64 yX4_clogsOf ∈ zT := zT_in (List.mem_append_right _ (List.mem_of_getElem? (i := 461) (by decide +kernel))) (by decide +kernel)
theorem mw_105 : Cond.code yX4_clogsOf cX4_clogsOf 3 (some .boolean) ∈ zT := zT_in (List.mem_append_right _ (List.mem_of_getElem? (i := 451) (by decide +kernel))) (by decide +kernel)
theorem mw_106 : Cond.instanceMethod yX4_clogsOf ∈ zT := zT_in (List.mem_append_right _ (List.mem_of_getElem? (i := 449) (by decide +kernel))) (by decide +kernel)
theorem mw_107 : Cond.selects RX4 yX4_clogsOf yX4_clogsOf ∈ zT := zT_in (List.mem_append_right _ (List.mem_of_getElem? (i := 450) (by decide +kernel))) (by decide +kernel)
theorem mw_108 : Cond.methodLink RX4 68 yX4_runsOf ∈ zT := zT_in (List.mem_append_right _ (List.mem_of_getElem? (i := 462) (by decide +kernel))) (by decide +kernel)
theorem mw_109 : Cond.code yX4_runsOf cX4_runsOf 4 (some .int) ∈ zT := zT_in (List.mem_append_right _ (List.mem_of_getElem? (i := 423) (by decide +kernel))) (by decide +kernel)
theorem mw_110 : Cond.instanceMethod yX4_runsOf ∈ zT := zT_in (List.mem_append_right _ (List.mem_of_getElem? (i := 421) (by decide +kernel))) (by decide +kernel)
theorem mw_111 : Cond.selects RX4 yX4_runsOf yX4_runsOf ∈ zT := zT_in (List.mem_append_right _ (List.mem_of_getElem? (i := 422) (by decide +kernel))) (by decide +kernel)
theorem mw_112 : Cond.fieldLink RX4 24 "GlassesOfRue$World" "more" "[I" ∈ zT := zT_in (List.mem_append_right _ (List.mem_of_getElem? (i := 109) (by decide +kernel))) (by decide +kernel)
theorem mw_113 : Cond.methodLink RX4 72 yX4_ruesOf ∈ zT := zT_in (List.mem_append_right _ (List.mem_of_getElem? (i := 480) (by decide +kernel))) (by decide +kernel)
theorem mw_114 : Cond.code yX4_ruesOf cX4_ruesOf 4 (some .int) ∈ zT := zT_in (List.mem_append_right _ (List.mem_of_getElem? (i := 455) (by decide +kernel))) (by decide +kernel)
theorem mw_115 : Cond.instanceMethod yX4_ruesOf ∈ zT := zT_in (List.mem_append_right _ (List.mem_of_getElem? (i := 453) (by decide +kernel))) (by decide +kernel)
theorem mw_116 : Cond.selects RX4 yX4_ruesOf yX4_ruesOf ∈ zT := zT_in (List.mem_append_right _ (List.mem_of_getElem? (i := 454) (by decide +kernel))) (by decide +kernel)
theorem mw_117 : Cond.methodLink RX4 75 yX4_passDay ∈ zT := zT_in (List.mem_append_right _ (List.mem_of_getElem? (i := 505) (by decide +kernel))) (by decide +kernel)
theorem mw_118 : Cond.code yX4_passDay cX4_passDay 2 none ∈ zT := zT_in (List.mem_append_right _ (List.mem_of_getElem? (i := 479) (by decide +kernel))) (by decide +kernel)
theorem mw_119 : Cond.instanceMethod yX4_passDay ∈ zT := zT_in (List.mem_append_right _ (List.mem_of_getElem? (i := 477) (by decide +kernel))) (by decide +kernel)
theorem mw_120 : Cond.selects RX4 yX4_passDay yX4_passDay ∈ zT := zT_in (List.mem_append_right _ (List.mem_of_getElem? (i := 478) (by decide +kernel))) (by decide +kernel)
theorem mw_121 : Cond.methodLink RX4 81 yX4_minutesOf ∈ zT := zT_in (List.mem_append_right _ (List.mem_of_getElem? (i := 514) (by decide +kernel))) (by decide +kernel)
theorem mw_122 : Cond.code yX4_minutesOf cX4_minutesOf 2 (some .int) ∈ zT := zT_in (List.mem_append_right _ (List.mem_of_getElem? (i := 460) (by decide +kernel))) (by decide +kernel)
theorem mw_123 : Cond.instanceMethod yX4_minutesOf ∈ zT := zT_in (List.mem_append_right _ (List.mem_of_getElem? (i := 458) (by decide +kernel))) (by decide +kernel)
theorem mw_124 : Cond.selects RX4 yX4_minutesOf yX4_minutesOf ∈ zT := zT_in (List.mem_append_right _ (List.mem_of_getElem? (i := 459) (by decide +kernel))) (by decide +kernel)
theorem mw_125 : Cond.methodLink RX1 87 Lib.Math.min.name ∈ zT := zT_in (List.mem_append_right _ (List.mem_of_getElem? (i := 562) (by decide +kernel))) (by decide +kernel)
theorem mw_126 : Cond.constantLong RX1 57 (100 : Int64) ∈ zT := zT_in (List.mem_append_right _ (List.mem_of_getElem? (i := 567) (by decide +kernel))) (by decide +kernel)
theorem mw_127 : Cond.methodLink RX1 89 yJ6_bitCount_0f7a4 ∈ zT := zT_in (List.mem_append_right _ (List.mem_of_getElem? (i := 568) (by decide +kernel))) (by decide +kernel)
theorem mw_128 : Cond.initialized RJ6 ∈ zT := zT_in (List.mem_append_right _ (List.mem_of_getElem? (i := 15) (by decide +kernel))) (by decide +kernel)
theorem mw_129 : Cond.code yJ6_bitCount_0f7a4 cJ6_bitCount_0f7a4 1 (some .int) ∈ zT := zT_in (List.mem_append_right _ (List.mem_of_getElem? (i := 570) (by decide +kernel))) (by decide +kernel)
theorem mw_130 : Cond.static yJ6_bitCount_0f7a4 ∈ zT := zT_in (List.mem_append_right _ (List.mem_of_getElem? (i := 569) (by decide +kernel))) (by decide +kernel)
theorem mw_131 : Cond.constantLong RX1 55 (100000000000 : Int64) ∈ zT := zT_in (List.mem_append_right _ (List.mem_of_getElem? (i := 574) (by decide +kernel))) (by decide +kernel)
theorem mw_132 : Cond.fieldLink RX1 59 "GlassesOfRue$Table" "PLACES" "[J" ∈ zT := zT_in (List.mem_append_right _ (List.mem_of_getElem? (i := 575) (by decide +kernel))) (by decide +kernel)
theorem mw_133 : Cond.fieldLink RX1 36 "GlassesOfRue$Table" "first" "I" ∈ zT := zT_in (List.mem_append_right _ (List.mem_of_getElem? (i := 74) (by decide +kernel))) (by decide +kernel)
theorem mw_134 : Cond.methodLink RX1 72 yX1_turned ∈ zT := zT_in (List.mem_append_right _ (List.mem_of_getElem? (i := 556) (by decide +kernel))) (by decide +kernel)
theorem mw_135 : Cond.initialized RX1 ∈ zT := zT_in (List.mem_append_right _ (List.mem_of_getElem? (i := 3) (by decide +kernel))) (by decide +kernel)
theorem mw_136 : Cond.code yX1_turned cX1_turned 3 (some .int) ∈ zT := zT_in (List.mem_append_right _ (List.mem_of_getElem? (i := 558) (by decide +kernel))) (by decide +kernel)
theorem mw_137 : Cond.static yX1_turned ∈ zT := zT_in (List.mem_append_right _ (List.mem_of_getElem? (i := 557) (by decide +kernel))) (by decide +kernel)
theorem mw_138 : Cond.fieldLink RX1 39 "GlassesOfRue$Table" "second" "I" ∈ zT := zT_in (List.mem_append_right _ (List.mem_of_getElem? (i := 75) (by decide +kernel))) (by decide +kernel)
theorem mw_139 : Cond.fieldLink RX1 42 "GlassesOfRue$Table" "third" "I" ∈ zT := zT_in (List.mem_append_right _ (List.mem_of_getElem? (i := 76) (by decide +kernel))) (by decide +kernel)
theorem mw_140 : Cond.methodLink RX1 76 yX1_sooner ∈ zT := zT_in (List.mem_append_right _ (List.mem_of_getElem? (i := 559) (by decide +kernel))) (by decide +kernel)
theorem mw_141 : Cond.code yX1_sooner cX1_sooner 2 (some .int) ∈ zT := zT_in (List.mem_append_right _ (List.mem_of_getElem? (i := 561) (by decide +kernel))) (by decide +kernel)
theorem mw_142 : Cond.static yX1_sooner ∈ zT := zT_in (List.mem_append_right _ (List.mem_of_getElem? (i := 560) (by decide +kernel))) (by decide +kernel)
theorem mw_143 : Cond.methodLink RX1 80 Lib.Math.max.name ∈ zT := zT_in (List.mem_append_right _ (List.mem_of_getElem? (i := 563) (by decide +kernel))) (by decide +kernel)
theorem mw_144 : Cond.fieldLink RX1 11 "GlassesOfRue$Table" "ways" "[J" ∈ zT := zT_in (List.mem_append_right _ (List.mem_of_getElem? (i := 71) (by decide +kernel))) (by decide +kernel)
theorem mw_145 : Cond.methodLink RX1 83 yX1_withSet ∈ zT := zT_in (List.mem_append_right _ (List.mem_of_getElem? (i := 564) (by decide +kernel))) (by decide +kernel)
theorem mw_146 : Cond.code yX1_withSet cX1_withSet 6 (some .long) ∈ zT := zT_in (List.mem_append_right _ (List.mem_of_getElem? (i := 566) (by decide +kernel))) (by decide +kernel)
theorem mw_147 : Cond.static yX1_withSet ∈ zT := zT_in (List.mem_append_right _ (List.mem_of_getElem? (i := 565) (by decide +kernel))) (by decide +kernel)
theorem mw_148 : Cond.methodLink RX1 62 Lib.MathLoose.min_long.x ∈ zT := zT_in (List.mem_append_right _ (List.mem_of_getElem? (i := 549) (by decide +kernel))) (by decide +kernel)
theorem mw_149 : Cond.static Lib.MathLoose.min_long.x ∈ zT := zT_in (List.mem_append_right _ (List.mem_of_getElem? (i := 550) (by decide +kernel))) (by decide +kernel)
theorem mw_150 : Cond.code Lib.MathLoose.min_long.x Lib.MathLoose.min_long.code 4 (some .long) ∈ zT := zT_in (List.mem_append_right _ (List.mem_of_getElem? (i := 551) (by decide +kernel))) (by decide +kernel)
theorem mw_151 : Cond.constantLong RX1 34 (9223372036854775807 : Int64) ∈ zT := zT_in (List.mem_append_right _ (List.mem_of_getElem? (i := 541) (by decide +kernel))) (by decide +kernel)
theorem mw_152 : Cond.methodLink RX1 68 yX1_turnSets ∈ zT := zT_in (List.mem_append_right _ (List.mem_of_getElem? (i := 552) (by decide +kernel))) (by decide +kernel)
theorem mw_153 : Cond.code yX1_turnSets cX1_turnSets 13 none ∈ zT := zT_in (List.mem_append_right _ (List.mem_of_getElem? (i := 555) (by decide +kernel))) (by decide +kernel)
theorem mw_154 : Cond.instanceMethod yX1_turnSets ∈ zT := zT_in (List.mem_append_right _ (List.mem_of_getElem? (i := 554) (by decide +kernel))) (by decide +kernel)
theorem mw_155 : Cond.selects RX1 yX1_turnSets yX1_turnSets ∈ zT := zT_in (List.mem_append_left _ (List.mem_of_getElem? (i := 18) (by decide +kernel))) (by decide +kernel)
theorem mw_156 : Cond.fieldLink RX1 22 "GlassesOfRue$Table" "laid" "I" ∈ zT := zT_in (List.mem_append_right _ (List.mem_of_getElem? (i := 77) (by decide +kernel))) (by decide +kernel)
theorem mw_157 : Cond.methodLink RX1 45 yJ7_fill_d0a16 ∈ zT := zT_in (List.mem_append_right _ (List.mem_of_getElem? (i := 542) (by decide +kernel))) (by decide +kernel)
theorem mw_158 : Cond.code yJ7_fill_d0a16 cJ7_fill_d0a16 5 none ∈ zT := zT_in (List.mem_append_right _ (List.mem_of_getElem? (i := 544) (by decide +kernel))) (by decide +kernel)
theorem mw_159 : Cond.static yJ7_fill_d0a16 ∈ zT := zT_in (List.mem_append_right _ (List.mem_of_getElem? (i := 543) (by decide +kernel))) (by decide +kernel)
theorem mw_160 : Cond.fieldLink RX1 15 "GlassesOfRue$Table" "bestWays" "[J" ∈ zT := zT_in (List.mem_append_right _ (List.mem_of_getElem? (i := 72) (by decide +kernel))) (by decide +kernel)
theorem mw_161 : Cond.methodLink RX1 51 yX1_passMinute ∈ zT := zT_in (List.mem_append_right _ (List.mem_of_getElem? (i := 545) (by decide +kernel))) (by decide +kernel)
theorem mw_162 : Cond.code yX1_passMinute cX1_passMinute 8 (some .long) ∈ zT := zT_in (List.mem_append_right _ (List.mem_of_getElem? (i := 548) (by decide +kernel))) (by decide +kernel)
theorem mw_163 : Cond.instanceMethod yX1_passMinute ∈ zT := zT_in (List.mem_append_right _ (List.mem_of_getElem? (i := 547) (by decide +kernel))) (by decide +kernel)
theorem mw_164 : Cond.selects RX1 yX1_passMinute yX1_passMinute ∈ zT := zT_in (List.mem_append_left _ (List.mem_of_getElem? (i := 17) (by decide +kernel))) (by decide +kernel)
theorem mw_165 : Cond.fieldLink RX1 18 "GlassesOfRue$Table" "known" "[I" ∈ zT := zT_in (List.mem_append_right _ (List.mem_of_getElem? (i := 73) (by decide +kernel))) (by decide +kernel)
theorem mw_166 : Cond.methodLink RX1 26 yX1_lay ∈ zT := zT_in (List.mem_append_right _ (List.mem_of_getElem? (i := 537) (by decide +kernel))) (by decide +kernel)
theorem mw_167 : Cond.code yX1_lay cX1_lay 6 none ∈ zT := zT_in (List.mem_append_right _ (List.mem_of_getElem? (i := 540) (by decide +kernel))) (by decide +kernel)
theorem mw_168 : Cond.instanceMethod yX1_lay ∈ zT := zT_in (List.mem_append_right _ (List.mem_of_getElem? (i := 538) (by decide +kernel))) (by decide +kernel)
theorem mw_169 : Cond.selects RX1 yX1_lay yX1_lay ∈ zT := zT_in (List.mem_append_right _ (List.mem_of_getElem? (i := 539) (by decide +kernel))) (by decide +kernel)
theorem mw_170 : Cond.methodLink RX1 30 yX1_timesLaid ∈ zT := zT_in (List.mem_append_right _ (List.mem_of_getElem? (i := 577) (by decide +kernel))) (by decide +kernel)
theorem mw_171 : Cond.code yX1_timesLaid cX1_timesLaid 3 (some .int) ∈ zT := zT_in (List.mem_append_right _ (List.mem_of_getElem? (i := 580) (by decide +kernel))) (by decide +kernel)
theorem mw_172 : Cond.instanceMethod yX1_timesLaid ∈ zT := zT_in (List.mem_append_right _ (List.mem_of_getElem? (i := 579) (by decide +kernel))) (by decide +kernel)
theorem mw_173 : Cond.selects RX1 yX1_timesLaid yX1_timesLaid ∈ zT := zT_in (List.mem_append_left _ (List.mem_of_getElem? (i := 19) (by decide +kernel))) (by decide +kernel)
theorem mw_174 : Cond.fieldLink RX2 21 "GlassesOfRue$Tape" "size" "I" ∈ zT := zT_in (List.mem_append_right _ (List.mem_of_getElem? (i := 38) (by decide +kernel))) (by decide +kernel)
theorem mw_175 : Cond.fieldLink RX2 9 "GlassesOfRue$Tape" "bytes" "[I" ∈ zT := zT_in (List.mem_append_right _ (List.mem_of_getElem? (i := 33) (by decide +kernel))) (by decide +kernel)
theorem mw_176 : Cond.fieldLink RX2 28 "GlassesOfRue$Tape" "codeSize" "I" ∈ zT := zT_in (List.mem_append_right _ (List.mem_of_getElem? (i := 40) (by decide +kernel))) (by decide +kernel)
theorem mw_177 : Cond.fieldLink RX2 15 "GlassesOfRue$Tape" "code" "[I" ∈ zT := zT_in (List.mem_append_right _ (List.mem_of_getElem? (i := 34) (by decide +kernel))) (by decide +kernel)
theorem mw_178 : Cond.fieldLink RX2 65 "GlassesOfRue$Tape" "tokenValue" "I" ∈ zT := zT_in (List.mem_append_right _ (List.mem_of_getElem? (i := 44) (by decide +kernel))) (by decide +kernel)
theorem mw_179 : Cond.fieldLink RX2 25 "GlassesOfRue$Tape" "place" "I" ∈ zT := zT_in (List.mem_append_right _ (List.mem_of_getElem? (i := 41) (by decide +kernel))) (by decide +kernel)
theorem mw_180 : Cond.fieldLink RX2 37 "GlassesOfRue$Tape" "tokenPlace" "I" ∈ zT := zT_in (List.mem_append_right _ (List.mem_of_getElem? (i := 43) (by decide +kernel))) (by decide +kernel)
theorem mw_181 : Cond.fieldLink RX2 34 "GlassesOfRue$Tape" "token" "I" ∈ zT := zT_in (List.mem_append_right _ (List.mem_of_getElem? (i := 42) (by decide +kernel))) (by decide +kernel)
theorem mw_182 : Cond.methodLink RX2 68 yX2_isDigit ∈ zT := zT_in (List.mem_append_right _ (List.mem_of_getElem? (i := 242) (by decide +kernel))) (by decide +kernel)
theorem mw_183 : Cond.initialized RX2 ∈ zT := zT_in (List.mem_append_right _ (List.mem_of_getElem? (i := 2) (by decide +kernel))) (by decide +kernel)
theorem mw_184 : Cond.code yX2_isDigit cX2_isDigit 2 (some .boolean) ∈ zT := zT_in (List.mem_append_right _ (List.mem_of_getElem? (i := 245) (by decide +kernel))) (by decide +kernel)
theorem mw_185 : Cond.instanceMethod yX2_isDigit ∈ zT := zT_in (List.mem_append_right _ (List.mem_of_getElem? (i := 244) (by decide +kernel))) (by decide +kernel)
theorem mw_186 : Cond.selects RX2 yX2_isDigit yX2_isDigit ∈ zT := zT_in (List.mem_append_left _ (List.mem_of_getElem? (i := 1) (by decide +kernel))) (by decide +kernel)
theorem mw_187 : Cond.methodLink RX2 94 yJ0_length_8abf5 ∈ zT := zT_in (List.mem_append_right _ (List.mem_of_getElem? (i := 263) (by decide +kernel))) (by decide +kernel)
theorem mw_188 : Cond.methodLink RX2 98 yJ0_charAt_5068e ∈ zT := zT_in (List.mem_append_right _ (List.mem_of_getElem? (i := 264) (by decide +kernel))) (by decide +kernel)
theorem mw_189 : Cond.code yJ0_charAt_5068e cJ0_charAt_5068e 2 (some .char) ∈ zT := zT_in (List.mem_append_right _ (List.mem_of_getElem? (i := 191) (by decide +kernel))) (by decide +kernel)
theorem mw_190 : Cond.instanceMethod yJ0_charAt_5068e ∈ zT := zT_in (List.mem_append_right _ (List.mem_of_getElem? (i := 189) (by decide +kernel))) (by decide +kernel)
theorem mw_191 : Cond.selects RJ0 yJ0_charAt_5068e yJ0_charAt_5068e ∈ zT := zT_in (List.mem_append_right _ (List.mem_of_getElem? (i := 190) (by decide +kernel))) (by decide +kernel)
theorem mw_192 : Cond.methodLink RX2 88 yX2_wordNumber ∈ zT := zT_in (List.mem_append_right _ (List.mem_of_getElem? (i := 258) (by decide +kernel))) (by decide +kernel)
theorem mw_193 : Cond.code yX2_wordNumber cX2_wordNumber 8 (some .int) ∈ zT := zT_in (List.mem_append_right _ (List.mem_of_getElem? (i := 261) (by decide +kernel))) (by decide +kernel)
theorem mw_194 : Cond.instanceMethod yX2_wordNumber ∈ zT := zT_in (List.mem_append_right _ (List.mem_of_getElem? (i := 260) (by decide +kernel))) (by decide +kernel)
theorem mw_195 : Cond.selects RX2 yX2_wordNumber yX2_wordNumber ∈ zT := zT_in (List.mem_append_left _ (List.mem_of_getElem? (i := 5) (by decide +kernel))) (by decide +kernel)
theorem mw_196 : Cond.methodLink RX2 74 yX2_isLetter ∈ zT := zT_in (List.mem_append_right _ (List.mem_of_getElem? (i := 250) (by decide +kernel))) (by decide +kernel)
theorem mw_197 : Cond.code yX2_isLetter cX2_isLetter 2 (some .boolean) ∈ zT := zT_in (List.mem_append_right _ (List.mem_of_getElem? (i := 253) (by decide +kernel))) (by decide +kernel)
theorem mw_198 : Cond.instanceMethod yX2_isLetter ∈ zT := zT_in (List.mem_append_right _ (List.mem_of_getElem? (i := 252) (by decide +kernel))) (by decide +kernel)
theorem mw_199 : Cond.selects RX2 yX2_isLetter yX2_isLetter ∈ zT := zT_in (List.mem_append_left _ (List.mem_of_getElem? (i := 3) (by decide +kernel))) (by decide +kernel)
theorem mw_200 : Cond.methodLink RX2 82 yJ0_indexOf_0f7a4 ∈ zT := zT_in (List.mem_append_right _ (List.mem_of_getElem? (i := 266) (by decide +kernel))) (by decide +kernel)
theorem mw_201 : Cond.code yJ0_indexOf_0f7a4 cJ0_indexOf_0f7a4 2 (some .int) ∈ zT := zT_in (List.mem_append_right _ (List.mem_of_getElem? (i := 269) (by decide +kernel))) (by decide +kernel)
theorem mw_202 : Cond.instanceMethod yJ0_indexOf_0f7a4 ∈ zT := zT_in (List.mem_append_right _ (List.mem_of_getElem? (i := 267) (by decide +kernel))) (by decide +kernel)
theorem mw_203 : Cond.selects RJ0 yJ0_indexOf_0f7a4 yJ0_indexOf_0f7a4 ∈ zT := zT_in (List.mem_append_right _ (List.mem_of_getElem? (i := 268) (by decide +kernel))) (by decide +kernel)
theorem mw_204 : Cond.methodLink RX2 77 yX2_nextWord ∈ zT := zT_in (List.mem_append_right _ (List.mem_of_getElem? (i := 254) (by decide +kernel))) (by decide +kernel)
theorem mw_205 : Cond.code yX2_nextWord cX2_nextWord 1 none ∈ zT := zT_in (List.mem_append_right _ (List.mem_of_getElem? (i := 257) (by decide +kernel))) (by decide +kernel)
theorem mw_206 : Cond.instanceMethod yX2_nextWord ∈ zT := zT_in (List.mem_append_right _ (List.mem_of_getElem? (i := 256) (by decide +kernel))) (by decide +kernel)
theorem mw_207 : Cond.selects RX2 yX2_nextWord yX2_nextWord ∈ zT := zT_in (List.mem_append_left _ (List.mem_of_getElem? (i := 4) (by decide +kernel))) (by decide +kernel)
theorem mw_208 : Cond.methodLink RX2 71 yX2_nextNumber ∈ zT := zT_in (List.mem_append_right _ (List.mem_of_getElem? (i := 246) (by decide +kernel))) (by decide +kernel)
theorem mw_209 : Cond.code yX2_nextNumber cX2_nextNumber 1 none ∈ zT := zT_in (List.mem_append_right _ (List.mem_of_getElem? (i := 249) (by decide +kernel))) (by decide +kernel)
theorem mw_210 : Cond.instanceMethod yX2_nextNumber ∈ zT := zT_in (List.mem_append_right _ (List.mem_of_getElem? (i := 248) (by decide +kernel))) (by decide +kernel)
theorem mw_211 : Cond.selects RX2 yX2_nextNumber yX2_nextNumber ∈ zT := zT_in (List.mem_append_left _ (List.mem_of_getElem? (i := 2) (by decide +kernel))) (by decide +kernel)
theorem mw_212 : Cond.methodLink RX2 44 yX2_readBoth ∈ zT := zT_in (List.mem_append_right _ (List.mem_of_getElem? (i := 329) (by decide +kernel))) (by decide +kernel)
theorem mw_213 : Cond.code yX2_readBoth cX2_readBoth 4 (some .boolean) ∈ zT := zT_in (List.mem_append_right _ (List.mem_of_getElem? (i := 332) (by decide +kernel))) (by decide +kernel)
theorem mw_214 : Cond.instanceMethod yX2_readBoth ∈ zT := zT_in (List.mem_append_right _ (List.mem_of_getElem? (i := 331) (by decide +kernel))) (by decide +kernel)
theorem mw_215 : Cond.selects RX2 yX2_readBoth yX2_readBoth ∈ zT := zT_in (List.mem_append_left _ (List.mem_of_getElem? (i := 7) (by decide +kernel))) (by decide +kernel)
theorem mw_216 : Cond.methodLink RX2 31 yX2_next ∈ zT := zT_in (List.mem_append_right _ (List.mem_of_getElem? (i := 238) (by decide +kernel))) (by decide +kernel)
theorem mw_217 : Cond.code yX2_next cX2_next 1 none ∈ zT := zT_in (List.mem_append_right _ (List.mem_of_getElem? (i := 241) (by decide +kernel))) (by decide +kernel)
theorem mw_218 : Cond.instanceMethod yX2_next ∈ zT := zT_in (List.mem_append_right _ (List.mem_of_getElem? (i := 240) (by decide +kernel))) (by decide +kernel)
theorem mw_219 : Cond.selects RX2 yX2_next yX2_next ∈ zT := zT_in (List.mem_append_left _ (List.mem_of_getElem? (i := 0) (by decide +kernel))) (by decide +kernel)
theorem mw_220 : Cond.methodLink RX2 49 yX2_emit ∈ zT := zT_in (List.mem_append_right _ (List.mem_of_getElem? (i := 337) (by decide +kernel))) (by decide +kernel)
theorem mw_221 : Cond.code yX2_emit cX2_emit 2 none ∈ zT := zT_in (List.mem_append_right _ (List.mem_of_getElem? (i := 340) (by decide +kernel))) (by decide +kernel)
theorem mw_222 : Cond.instanceMethod yX2_emit ∈ zT := zT_in (List.mem_append_right _ (List.mem_of_getElem? (i := 339) (by decide +kernel))) (by decide +kernel)
theorem mw_223 : Cond.selects RX2 yX2_emit yX2_emit ∈ zT := zT_in (List.mem_append_left _ (List.mem_of_getElem? (i := 9) (by decide +kernel))) (by decide +kernel)
theorem mw_224 : Cond.methodLink RX2 53 yX2_readDenied ∈ zT := zT_in (List.mem_append_right _ (List.mem_of_getElem? (i := 333) (by decide +kernel))) (by decide +kernel)
theorem mw_225 : Cond.code yX2_readDenied cX2_readDenied 4 (some .boolean) ∈ zT := zT_in (List.mem_append_right _ (List.mem_of_getElem? (i := 336) (by decide +kernel))) (by decide +kernel)
theorem mw_226 : Cond.instanceMethod yX2_readDenied ∈ zT := zT_in (List.mem_append_right _ (List.mem_of_getElem? (i := 335) (by decide +kernel))) (by decide +kernel)
theorem mw_227 : Cond.selects RX2 yX2_readDenied yX2_readDenied ∈ zT := zT_in (List.mem_append_left _ (List.mem_of_getElem? (i := 8) (by decide +kernel))) (by decide +kernel)
theorem mw_228 : Cond.methodLink RX2 56 yX2_readSum ∈ zT := zT_in (List.mem_append_right _ (List.mem_of_getElem? (i := 341) (by decide +kernel))) (by decide +kernel)
theorem mw_229 : Cond.code yX2_readSum cX2_readSum 5 (some .boolean) ∈ zT := zT_in (List.mem_append_right _ (List.mem_of_getElem? (i := 344) (by decide +kernel))) (by decide +kernel)
theorem mw_230 : Cond.instanceMethod yX2_readSum ∈ zT := zT_in (List.mem_append_right _ (List.mem_of_getElem? (i := 343) (by decide +kernel))) (by decide +kernel)
theorem mw_231 : Cond.selects RX2 yX2_readSum yX2_readSum ∈ zT := zT_in (List.mem_append_left _ (List.mem_of_getElem? (i := 10) (by decide +kernel))) (by decide +kernel)
theorem mw_232 : Cond.methodLink RX2 59 yX2_readTerm ∈ zT := zT_in (List.mem_append_right _ (List.mem_of_getElem? (i := 345) (by decide +kernel))) (by decide +kernel)
theorem mw_233 : Cond.code yX2_readTerm cX2_readTerm 4 (some .boolean) ∈ zT := zT_in (List.mem_append_right _ (List.mem_of_getElem? (i := 348) (by decide +kernel))) (by decide +kernel)
theorem mw_234 : Cond.instanceMethod yX2_readTerm ∈ zT := zT_in (List.mem_append_right _ (List.mem_of_getElem? (i := 347) (by decide +kernel))) (by decide +kernel)
theorem mw_235 : Cond.selects RX2 yX2_readTerm yX2_readTerm ∈ zT := zT_in (List.mem_append_left _ (List.mem_of_getElem? (i := 11) (by decide +kernel))) (by decide +kernel)
theorem mw_236 : Cond.methodLink RX2 62 yX2_readOne ∈ zT := zT_in (List.mem_append_right _ (List.mem_of_getElem? (i := 349) (by decide +kernel))) (by decide +kernel)
theorem mw_237 : Cond.code yX2_readOne cX2_readOne 3 (some .boolean) ∈ zT := zT_in (List.mem_append_right _ (List.mem_of_getElem? (i := 352) (by decide +kernel))) (by decide +kernel)
theorem mw_238 : Cond.instanceMethod yX2_readOne ∈ zT := zT_in (List.mem_append_right _ (List.mem_of_getElem? (i := 351) (by decide +kernel))) (by decide +kernel)
theorem mw_239 : Cond.selects RX2 yX2_readOne yX2_readOne ∈ zT := zT_in (List.mem_append_left _ (List.mem_of_getElem? (i := 12) (by decide +kernel))) (by decide +kernel)
theorem mw_240 : Cond.methodLink RX2 40 yX2_readEither ∈ zT := zT_in (List.mem_append_right _ (List.mem_of_getElem? (i := 325) (by decide +kernel))) (by decide +kernel)
theorem mw_241 : Cond.code yX2_readEither cX2_readEither 4 (some .boolean) ∈ zT := zT_in (List.mem_append_right _ (List.mem_of_getElem? (i := 328) (by decide +kernel))) (by decide +kernel)
theorem mw_242 : Cond.instanceMethod yX2_readEither ∈ zT := zT_in (List.mem_append_right _ (List.mem_of_getElem? (i := 327) (by decide +kernel))) (by decide +kernel)
theorem mw_243 : Cond.selects RX2 yX2_readEither yX2_readEither ∈ zT := zT_in (List.mem_append_left _ (List.mem_of_getElem? (i := 6) (by decide +kernel))) (by decide +kernel)
theorem mw_244 : Cond.fieldLink RX2 18 "GlassesOfRue$Tape" "ends" "[I" ∈ zT := zT_in (List.mem_append_right _ (List.mem_of_getElem? (i := 36) (by decide +kernel))) (by decide +kernel)
theorem mw_245 : Cond.fieldLink RX5 18 "GlassesOfRue" "tape" "LGlassesOfRue$Tape;" ∈ zT := zT_in (List.mem_append_right _ (List.mem_of_getElem? (i := 358) (by decide +kernel))) (by decide +kernel)
theorem mw_246 : Cond.methodLink RX5 64 yX2_add ∈ zT := zT_in (List.mem_append_right _ (List.mem_of_getElem? (i := 226) (by decide +kernel))) (by decide +kernel)
theorem mw_247 : Cond.code yX2_add cX2_add 2 (some .int) ∈ zT := zT_in (List.mem_append_right _ (List.mem_of_getElem? (i := 229) (by decide +kernel))) (by decide +kernel)
theorem mw_248 : Cond.instanceMethod yX2_add ∈ zT := zT_in (List.mem_append_right _ (List.mem_of_getElem? (i := 227) (by decide +kernel))) (by decide +kernel)
theorem mw_249 : Cond.selects RX2 yX2_add yX2_add ∈ zT := zT_in (List.mem_append_right _ (List.mem_of_getElem? (i := 228) (by decide +kernel))) (by decide +kernel)
theorem mw_250 : Cond.fieldLink RX5 125 "GlassesOfRue" "textCount" "I" ∈ zT := zT_in (List.mem_append_right _ (List.mem_of_getElem? (i := 364) (by decide +kernel))) (by decide +kernel)
theorem mw_251 : Cond.methodLink RX5 128 yX2_read ∈ zT := zT_in (List.mem_append_right _ (List.mem_of_getElem? (i := 234) (by decide +kernel))) (by decide +kernel)
theorem mw_252 : Cond.code yX2_read cX2_read 2 (some .int) ∈ zT := zT_in (List.mem_append_right _ (List.mem_of_getElem? (i := 237) (by decide +kernel))) (by decide +kernel)
theorem mw_253 : Cond.instanceMethod yX2_read ∈ zT := zT_in (List.mem_append_right _ (List.mem_of_getElem? (i := 235) (by decide +kernel))) (by decide +kernel)
theorem mw_254 : Cond.selects RX2 yX2_read yX2_read ∈ zT := zT_in (List.mem_append_right _ (List.mem_of_getElem? (i := 236) (by decide +kernel))) (by decide +kernel)
theorem mw_255 : Cond.fieldLink RX5 11 "GlassesOfRue" "texts" "[LGlassesOfRue$Text;" ∈ zT := zT_in (List.mem_append_right _ (List.mem_of_getElem? (i := 357) (by decide +kernel))) (by decide +kernel)
theorem mw_256 : Cond.methodLink RX5 134 yX3_become ∈ zT := zT_in (List.mem_append_right _ (List.mem_of_getElem? (i := 353) (by decide +kernel))) (by decide +kernel)
theorem mw_257 : Cond.code yX3_become cX3_become 3 none ∈ zT := zT_in (List.mem_append_right _ (List.mem_of_getElem? (i := 356) (by decide +kernel))) (by decide +kernel)
theorem mw_258 : Cond.instanceMethod yX3_become ∈ zT := zT_in (List.mem_append_right _ (List.mem_of_getElem? (i := 354) (by decide +kernel))) (by decide +kernel)
theorem mw_259 : Cond.selects RX3 yX3_become yX3_become ∈ zT := zT_in (List.mem_append_right _ (List.mem_of_getElem? (i := 355) (by decide +kernel))) (by decide +kernel)
theorem mw_260 : Cond.fieldLink RX5 34 "GlassesOfRue" "now" "LGlassesOfRue$World;" ∈ zT := zT_in (List.mem_append_right _ (List.mem_of_getElem? (i := 360) (by decide +kernel))) (by decide +kernel)
theorem mw_261 : Cond.methodLink RX5 106 yX4_has ∈ zT := zT_in (List.mem_append_right _ (List.mem_of_getElem? (i := 394) (by decide +kernel))) (by decide +kernel)
theorem mw_262 : Cond.code yX4_has cX4_has 2 (some .boolean) ∈ zT := zT_in (List.mem_append_right _ (List.mem_of_getElem? (i := 397) (by decide +kernel))) (by decide +kernel)
theorem mw_263 : Cond.instanceMethod yX4_has ∈ zT := zT_in (List.mem_append_right _ (List.mem_of_getElem? (i := 395) (by decide +kernel))) (by decide +kernel)
theorem mw_264 : Cond.selects RX4 yX4_has yX4_has ∈ zT := zT_in (List.mem_append_right _ (List.mem_of_getElem? (i := 396) (by decide +kernel))) (by decide +kernel)
theorem mw_265 : Cond.methodLink RX5 71 yX5_held ∈ zT := zT_in (List.mem_append_right _ (List.mem_of_getElem? (i := 390) (by decide +kernel))) (by decide +kernel)
theorem mw_266 : Cond.code yX5_held cX5_held 3 (some .int) ∈ zT := zT_in (List.mem_append_right _ (List.mem_of_getElem? (i := 393) (by decide +kernel))) (by decide +kernel)
theorem mw_267 : Cond.instanceMethod yX5_held ∈ zT := zT_in (List.mem_append_right _ (List.mem_of_getElem? (i := 392) (by decide +kernel))) (by decide +kernel)
theorem mw_268 : Cond.selects RX5 yX5_held yX5_held ∈ zT := zT_in (List.mem_append_left _ (List.mem_of_getElem? (i := 13) (by decide +kernel))) (by decide +kernel)
theorem mw_269 : Cond.methodLink RX5 75 yX5_heldMost ∈ zT := zT_in (List.mem_append_right _ (List.mem_of_getElem? (i := 398) (by decide +kernel))) (by decide +kernel)
theorem mw_270 : Cond.code yX5_heldMost cX5_heldMost 1 (some .int) ∈ zT := zT_in (List.mem_append_right _ (List.mem_of_getElem? (i := 400) (by decide +kernel))) (by decide +kernel)
theorem mw_271 : Cond.static yX5_heldMost ∈ zT := zT_in (List.mem_append_right _ (List.mem_of_getElem? (i := 399) (by decide +kernel))) (by decide +kernel)
theorem mw_272 : Cond.methodLink RX5 99 yX4_canBe ∈ zT := zT_in (List.mem_append_right _ (List.mem_of_getElem? (i := 408) (by decide +kernel))) (by decide +kernel)
theorem mw_273 : Cond.code yX4_canBe cX4_canBe 3 (some .boolean) ∈ zT := zT_in (List.mem_append_right _ (List.mem_of_getElem? (i := 410) (by decide +kernel))) (by decide +kernel)
theorem mw_274 : Cond.static yX4_canBe ∈ zT := zT_in (List.mem_append_right _ (List.mem_of_getElem? (i := 409) (by decide +kernel))) (by decide +kernel)
theorem mw_275 : Cond.methodLink RX5 102 yX4_come ∈ zT := zT_in (List.mem_append_right _ (List.mem_of_getElem? (i := 412) (by decide +kernel))) (by decide +kernel)
theorem mw_276 : Cond.code yX4_come cX4_come 4 (some .int) ∈ zT := zT_in (List.mem_append_right _ (List.mem_of_getElem? (i := 415) (by decide +kernel))) (by decide +kernel)
theorem mw_277 : Cond.instanceMethod yX4_come ∈ zT := zT_in (List.mem_append_right _ (List.mem_of_getElem? (i := 413) (by decide +kernel))) (by decide +kernel)
theorem mw_278 : Cond.selects RX4 yX4_come yX4_come ∈ zT := zT_in (List.mem_append_right _ (List.mem_of_getElem? (i := 414) (by decide +kernel))) (by decide +kernel)
theorem mw_279 : Cond.methodLink RX5 113 yX4_runsOf ∈ zT := zT_in (List.mem_append_right _ (List.mem_of_getElem? (i := 420) (by decide +kernel))) (by decide +kernel)
theorem mw_280 : Cond.methodLink RX5 116 yX4_clogsOf ∈ zT := zT_in (List.mem_append_right _ (List.mem_of_getElem? (i := 448) (by decide +kernel))) (by decide +kernel)
theorem mw_281 : Cond.methodLink RX5 119 yX4_ruesOf ∈ zT := zT_in (List.mem_append_right _ (List.mem_of_getElem? (i := 452) (by decide +kernel))) (by decide +kernel)
theorem mw_282 : Cond.methodLink RX5 122 yX4_minutesOf ∈ zT := zT_in (List.mem_append_right _ (List.mem_of_getElem? (i := 457) (by decide +kernel))) (by decide +kernel)
theorem mw_283 : Cond.methodLink RX5 141 yX4_passDay ∈ zT := zT_in (List.mem_append_right _ (List.mem_of_getElem? (i := 476) (by decide +kernel))) (by decide +kernel)
theorem mw_284 : Cond.methodLink RX5 144 yX4_rueOfAll ∈ zT := zT_in (List.mem_append_right _ (List.mem_of_getElem? (i := 481) (by decide +kernel))) (by decide +kernel)
theorem mw_285 : Cond.code yX4_rueOfAll cX4_rueOfAll 3 (some .int) ∈ zT := zT_in (List.mem_append_right _ (List.mem_of_getElem? (i := 484) (by decide +kernel))) (by decide +kernel)
theorem mw_286 : Cond.instanceMethod yX4_rueOfAll ∈ zT := zT_in (List.mem_append_right _ (List.mem_of_getElem? (i := 482) (by decide +kernel))) (by decide +kernel)
theorem mw_287 : Cond.selects RX4 yX4_rueOfAll yX4_rueOfAll ∈ zT := zT_in (List.mem_append_right _ (List.mem_of_getElem? (i := 483) (by decide +kernel))) (by decide +kernel)
theorem mw_288 : Cond.methodLink RX5 147 yX4_drawOff ∈ zT := zT_in (List.mem_append_right _ (List.mem_of_getElem? (i := 489) (by decide +kernel))) (by decide +kernel)
theorem mw_289 : Cond.code yX4_drawOff cX4_drawOff 4 none ∈ zT := zT_in (List.mem_append_right _ (List.mem_of_getElem? (i := 492) (by decide +kernel))) (by decide +kernel)
theorem mw_290 : Cond.instanceMethod yX4_drawOff ∈ zT := zT_in (List.mem_append_right _ (List.mem_of_getElem? (i := 490) (by decide +kernel))) (by decide +kernel)
theorem mw_291 : Cond.selects RX4 yX4_drawOff yX4_drawOff ∈ zT := zT_in (List.mem_append_right _ (List.mem_of_getElem? (i := 491) (by decide +kernel))) (by decide +kernel)
theorem mw_292 : Cond.fieldLink RX5 38 "GlassesOfRue" "thought" "LGlassesOfRue$World;" ∈ zT := zT_in (List.mem_append_right _ (List.mem_of_getElem? (i := 361) (by decide +kernel))) (by decide +kernel)
theorem mw_293 : Cond.methodLink RX5 151 yX4_become ∈ zT := zT_in (List.mem_append_right _ (List.mem_of_getElem? (i := 497) (by decide +kernel))) (by decide +kernel)
theorem mw_294 : Cond.code yX4_become cX4_become 3 none ∈ zT := zT_in (List.mem_append_right _ (List.mem_of_getElem? (i := 500) (by decide +kernel))) (by decide +kernel)
theorem mw_295 : Cond.instanceMethod yX4_become ∈ zT := zT_in (List.mem_append_right _ (List.mem_of_getElem? (i := 498) (by decide +kernel))) (by decide +kernel)
theorem mw_296 : Cond.selects RX4 yX4_become yX4_become ∈ zT := zT_in (List.mem_append_right _ (List.mem_of_getElem? (i := 499) (by decide +kernel))) (by decide +kernel)
theorem mw_297 : Cond.methodLink RX5 154 yX4_passDays ∈ zT := zT_in (List.mem_append_right _ (List.mem_of_getElem? (i := 501) (by decide +kernel))) (by decide +kernel)
theorem mw_298 : Cond.code yX4_passDays cX4_passDays 3 none ∈ zT := zT_in (List.mem_append_right _ (List.mem_of_getElem? (i := 504) (by decide +kernel))) (by decide +kernel)
theorem mw_299 : Cond.instanceMethod yX4_passDays ∈ zT := zT_in (List.mem_append_right _ (List.mem_of_getElem? (i := 502) (by decide +kernel))) (by decide +kernel)
theorem mw_300 : Cond.selects RX4 yX4_passDays yX4_passDays ∈ zT := zT_in (List.mem_append_right _ (List.mem_of_getElem? (i := 503) (by decide +kernel))) (by decide +kernel)
theorem mw_301 : Cond.methodLink RX5 158 yX4_longest ∈ zT := zT_in (List.mem_append_right _ (List.mem_of_getElem? (i := 510) (by decide +kernel))) (by decide +kernel)
theorem mw_302 : Cond.code yX4_longest cX4_longest 5 (some .int) ∈ zT := zT_in (List.mem_append_right _ (List.mem_of_getElem? (i := 513) (by decide +kernel))) (by decide +kernel)
theorem mw_303 : Cond.instanceMethod yX4_longest ∈ zT := zT_in (List.mem_append_right _ (List.mem_of_getElem? (i := 511) (by decide +kernel))) (by decide +kernel)
theorem mw_304 : Cond.selects RX4 yX4_longest yX4_longest ∈ zT := zT_in (List.mem_append_right _ (List.mem_of_getElem? (i := 512) (by decide +kernel))) (by decide +kernel)
theorem mw_305 : Cond.methodLink RX5 161 yX4_whoClog ∈ zT := zT_in (List.mem_append_right _ (List.mem_of_getElem? (i := 515) (by decide +kernel))) (by decide +kernel)
theorem mw_306 : Cond.code yX4_whoClog cX4_whoClog 3 (some .int) ∈ zT := zT_in (List.mem_append_right _ (List.mem_of_getElem? (i := 518) (by decide +kernel))) (by decide +kernel)
theorem mw_307 : Cond.instanceMethod yX4_whoClog ∈ zT := zT_in (List.mem_append_right _ (List.mem_of_getElem? (i := 516) (by decide +kernel))) (by decide +kernel)
theorem mw_308 : Cond.selects RX4 yX4_whoClog yX4_whoClog ∈ zT := zT_in (List.mem_append_right _ (List.mem_of_getElem? (i := 517) (by decide +kernel))) (by decide +kernel)
theorem mw_309 : Cond.methodLink RX5 164 yX4_mostRue ∈ zT := zT_in (List.mem_append_right _ (List.mem_of_getElem? (i := 519) (by decide +kernel))) (by decide +kernel)
theorem mw_310 : Cond.fieldLink RX5 25 "GlassesOfRue" "table" "LGlassesOfRue$Table;" ∈ zT := zT_in (List.mem_append_right _ (List.mem_of_getElem? (i := 359) (by decide +kernel))) (by decide +kernel)
theorem mw_311 : Cond.methodLink RX5 197 yX1_timesOf ∈ zT := zT_in (List.mem_append_right _ (List.mem_of_getElem? (i := 533) (by decide +kernel))) (by decide +kernel)
theorem mw_312 : Cond.code yX1_timesOf cX1_timesOf 5 (some .int) ∈ zT := zT_in (List.mem_append_right _ (List.mem_of_getElem? (i := 536) (by decide +kernel))) (by decide +kernel)
theorem mw_313 : Cond.instanceMethod yX1_timesOf ∈ zT := zT_in (List.mem_append_right _ (List.mem_of_getElem? (i := 534) (by decide +kernel))) (by decide +kernel)
theorem mw_314 : Cond.selects RX1 yX1_timesOf yX1_timesOf ∈ zT := zT_in (List.mem_append_right _ (List.mem_of_getElem? (i := 535) (by decide +kernel))) (by decide +kernel)
theorem mw_315 : Cond.methodLink RX5 199 yX1_lay ∈ zT := zT_in (List.mem_append_right _ (List.mem_of_getElem? (i := 595) (by decide +kernel))) (by decide +kernel)
theorem mw_316 : Cond.methodLink RX5 167 yX5_isThree ∈ zT := zT_in (List.mem_append_right _ (List.mem_of_getElem? (i := 524) (by decide +kernel))) (by decide +kernel)
theorem mw_317 : Cond.code yX5_isThree cX5_isThree 5 (some .boolean) ∈ zT := zT_in (List.mem_append_right _ (List.mem_of_getElem? (i := 527) (by decide +kernel))) (by decide +kernel)
theorem mw_318 : Cond.instanceMethod yX5_isThree ∈ zT := zT_in (List.mem_append_right _ (List.mem_of_getElem? (i := 526) (by decide +kernel))) (by decide +kernel)
theorem mw_319 : Cond.selects RX5 yX5_isThree yX5_isThree ∈ zT := zT_in (List.mem_append_left _ (List.mem_of_getElem? (i := 15) (by decide +kernel))) (by decide +kernel)
theorem mw_320 : Cond.methodLink RX5 172 yX5_timesOf ∈ zT := zT_in (List.mem_append_right _ (List.mem_of_getElem? (i := 529) (by decide +kernel))) (by decide +kernel)
theorem mw_321 : Cond.code yX5_timesOf cX5_timesOf 3 (some .int) ∈ zT := zT_in (List.mem_append_right _ (List.mem_of_getElem? (i := 532) (by decide +kernel))) (by decide +kernel)
theorem mw_322 : Cond.instanceMethod yX5_timesOf ∈ zT := zT_in (List.mem_append_right _ (List.mem_of_getElem? (i := 531) (by decide +kernel))) (by decide +kernel)
theorem mw_323 : Cond.selects RX5 yX5_timesOf yX5_timesOf ∈ zT := zT_in (List.mem_append_left _ (List.mem_of_getElem? (i := 16) (by decide +kernel))) (by decide +kernel)
theorem mw_324 : Cond.constantLong RX5 170 (-4611686018427387904 : Int64) ∈ zT := zT_in (List.mem_append_right _ (List.mem_of_getElem? (i := 528) (by decide +kernel))) (by decide +kernel)
theorem mw_325 : Cond.methodLink RX5 176 yX5_isMinute ∈ zT := zT_in (List.mem_append_right _ (List.mem_of_getElem? (i := 585) (by decide +kernel))) (by decide +kernel)
theorem mw_326 : Cond.code yX5_isMinute cX5_isMinute 1 (some .boolean) ∈ zT := zT_in (List.mem_append_right _ (List.mem_of_getElem? (i := 587) (by decide +kernel))) (by decide +kernel)
theorem mw_327 : Cond.static yX5_isMinute ∈ zT := zT_in (List.mem_append_right _ (List.mem_of_getElem? (i := 586) (by decide +kernel))) (by decide +kernel)
theorem mw_328 : Cond.methodLink RX5 182 yX5_layGlasses ∈ zT := zT_in (List.mem_append_right _ (List.mem_of_getElem? (i := 591) (by decide +kernel))) (by decide +kernel)
theorem mw_329 : Cond.code yX5_layGlasses cX5_layGlasses 2 none ∈ zT := zT_in (List.mem_append_right _ (List.mem_of_getElem? (i := 594) (by decide +kernel))) (by decide +kernel)
theorem mw_330 : Cond.instanceMethod yX5_layGlasses ∈ zT := zT_in (List.mem_append_right _ (List.mem_of_getElem? (i := 593) (by decide +kernel))) (by decide +kernel)
theorem mw_331 : Cond.selects RX5 yX5_layGlasses yX5_layGlasses ∈ zT := zT_in (List.mem_append_left _ (List.mem_of_getElem? (i := 20) (by decide +kernel))) (by decide +kernel)
theorem mw_332 : Cond.methodLink RX5 188 yX1_wayTill ∈ zT := zT_in (List.mem_append_right _ (List.mem_of_getElem? (i := 600) (by decide +kernel))) (by decide +kernel)
theorem mw_333 : Cond.code yX1_wayTill cX1_wayTill 7 (some .int) ∈ zT := zT_in (List.mem_append_right _ (List.mem_of_getElem? (i := 603) (by decide +kernel))) (by decide +kernel)
theorem mw_334 : Cond.instanceMethod yX1_wayTill ∈ zT := zT_in (List.mem_append_right _ (List.mem_of_getElem? (i := 601) (by decide +kernel))) (by decide +kernel)
theorem mw_335 : Cond.selects RX1 yX1_wayTill yX1_wayTill ∈ zT := zT_in (List.mem_append_right _ (List.mem_of_getElem? (i := 602) (by decide +kernel))) (by decide +kernel)
theorem mw_336 : Cond.methodLink RX5 185 yX1_turnsTill ∈ zT := zT_in (List.mem_append_right _ (List.mem_of_getElem? (i := 596) (by decide +kernel))) (by decide +kernel)
theorem mw_337 : Cond.code yX1_turnsTill cX1_turnsTill 4 (some .int) ∈ zT := zT_in (List.mem_append_right _ (List.mem_of_getElem? (i := 599) (by decide +kernel))) (by decide +kernel)
theorem mw_338 : Cond.instanceMethod yX1_turnsTill ∈ zT := zT_in (List.mem_append_right _ (List.mem_of_getElem? (i := 597) (by decide +kernel))) (by decide +kernel)
theorem mw_339 : Cond.selects RX1 yX1_turnsTill yX1_turnsTill ∈ zT := zT_in (List.mem_append_right _ (List.mem_of_getElem? (i := 598) (by decide +kernel))) (by decide +kernel)
theorem mw_340 : Cond.methodLink RX5 179 yX5_nextTold ∈ zT := zT_in (List.mem_append_right _ (List.mem_of_getElem? (i := 588) (by decide +kernel))) (by decide +kernel)
theorem mw_341 : Cond.code yX5_nextTold cX5_nextTold 3 (some .int) ∈ zT := zT_in (List.mem_append_right _ (List.mem_of_getElem? (i := 590) (by decide +kernel))) (by decide +kernel)
theorem mw_342 : Cond.static yX5_nextTold ∈ zT := zT_in (List.mem_append_right _ (List.mem_of_getElem? (i := 589) (by decide +kernel))) (by decide +kernel)
theorem mw_343 : Cond.methodLink RX5 229 yX0_at ∈ zT := zT_in (List.mem_append_right _ (List.mem_of_getElem? (i := 620) (by decide +kernel))) (by decide +kernel)
theorem mw_344 : Cond.initialized RX0 ∈ zT := zT_in (List.mem_append_right _ (List.mem_of_getElem? (i := 6) (by decide +kernel))) (by decide +kernel)
theorem mw_345 : Cond.code yX0_at cX0_at 2 (some .int) ∈ zT := zT_in (List.mem_append_right _ (List.mem_of_getElem? (i := 623) (by decide +kernel))) (by decide +kernel)
theorem mw_346 : Cond.instanceMethod yX0_at ∈ zT := zT_in (List.mem_append_right _ (List.mem_of_getElem? (i := 621) (by decide +kernel))) (by decide +kernel)
theorem mw_347 : Cond.selects RX0 yX0_at yX0_at ∈ zT := zT_in (List.mem_append_right _ (List.mem_of_getElem? (i := 622) (by decide +kernel))) (by decide +kernel)
theorem mw_348 : Cond.fieldLink RX5 46 "GlassesOfRue" "sheets" "[LGlassesOfRue$Sheet;" ∈ zT := zT_in (List.mem_append_right _ (List.mem_of_getElem? (i := 363) (by decide +kernel))) (by decide +kernel)
theorem mw_349 : Cond.methodLink RX5 210 yX5_choices ∈ zT := zT_in (List.mem_append_right _ (List.mem_of_getElem? (i := 624) (by decide +kernel))) (by decide +kernel)
theorem mw_350 : Cond.code yX5_choices cX5_choices 2 (some .int) ∈ zT := zT_in (List.mem_append_right _ (List.mem_of_getElem? (i := 627) (by decide +kernel))) (by decide +kernel)
theorem mw_351 : Cond.instanceMethod yX5_choices ∈ zT := zT_in (List.mem_append_right _ (List.mem_of_getElem? (i := 626) (by decide +kernel))) (by decide +kernel)
theorem mw_352 : Cond.selects RX5 yX5_choices yX5_choices ∈ zT := zT_in (List.mem_append_left _ (List.mem_of_getElem? (i := 22) (by decide +kernel))) (by decide +kernel)
theorem mw_353 : Cond.methodLink RX5 206 yX5_firstOtherwise ∈ zT := zT_in (List.mem_append_right _ (List.mem_of_getElem? (i := 616) (by decide +kernel))) (by decide +kernel)
theorem mw_354 : Cond.code yX5_firstOtherwise cX5_firstOtherwise 7 (some .int) ∈ zT := zT_in (List.mem_append_right _ (List.mem_of_getElem? (i := 619) (by decide +kernel))) (by decide +kernel)
theorem mw_355 : Cond.instanceMethod yX5_firstOtherwise ∈ zT := zT_in (List.mem_append_right _ (List.mem_of_getElem? (i := 618) (by decide +kernel))) (by decide +kernel)
theorem mw_356 : Cond.selects RX5 yX5_firstOtherwise yX5_firstOtherwise ∈ zT := zT_in (List.mem_append_left _ (List.mem_of_getElem? (i := 21) (by decide +kernel))) (by decide +kernel)
theorem mw_357 : Cond.methodLink RX5 213 yX0_become ∈ zT := zT_in (List.mem_append_right _ (List.mem_of_getElem? (i := 632) (by decide +kernel))) (by decide +kernel)
theorem mw_358 : Cond.code yX0_become cX0_become 3 none ∈ zT := zT_in (List.mem_append_right _ (List.mem_of_getElem? (i := 635) (by decide +kernel))) (by decide +kernel)
theorem mw_359 : Cond.instanceMethod yX0_become ∈ zT := zT_in (List.mem_append_right _ (List.mem_of_getElem? (i := 633) (by decide +kernel))) (by decide +kernel)
theorem mw_360 : Cond.selects RX0 yX0_become yX0_become ∈ zT := zT_in (List.mem_append_right _ (List.mem_of_getElem? (i := 634) (by decide +kernel))) (by decide +kernel)
theorem mw_361 : Cond.methodLink RX5 216 yX0_put ∈ zT := zT_in (List.mem_append_right _ (List.mem_of_getElem? (i := 639) (by decide +kernel))) (by decide +kernel)
theorem mw_362 : Cond.code yX0_put cX0_put 3 none ∈ zT := zT_in (List.mem_append_right _ (List.mem_of_getElem? (i := 642) (by decide +kernel))) (by decide +kernel)
theorem mw_363 : Cond.instanceMethod yX0_put ∈ zT := zT_in (List.mem_append_right _ (List.mem_of_getElem? (i := 640) (by decide +kernel))) (by decide +kernel)
theorem mw_364 : Cond.selects RX0 yX0_put yX0_put ∈ zT := zT_in (List.mem_append_right _ (List.mem_of_getElem? (i := 641) (by decide +kernel))) (by decide +kernel)
theorem mw_365 : Cond.constant RX5 232 (1103515245 : Int32) ∈ zT := zT_in (List.mem_append_right _ (List.mem_of_getElem? (i := 651) (by decide +kernel))) (by decide +kernel)
theorem mw_366 : Cond.methodLink RX5 233 yJ6_bitCount_0f7a4 ∈ zT := zT_in (List.mem_append_right _ (List.mem_of_getElem? (i := 652) (by decide +kernel))) (by decide +kernel)
theorem mw_367 : Cond.methodLink RX5 219 yX5_clogsBySeed ∈ zT := zT_in (List.mem_append_right _ (List.mem_of_getElem? (i := 647) (by decide +kernel))) (by decide +kernel)
theorem mw_368 : Cond.code yX5_clogsBySeed cX5_clogsBySeed 6 (some .int) ∈ zT := zT_in (List.mem_append_right _ (List.mem_of_getElem? (i := 650) (by decide +kernel))) (by decide +kernel)
theorem mw_369 : Cond.instanceMethod yX5_clogsBySeed ∈ zT := zT_in (List.mem_append_right _ (List.mem_of_getElem? (i := 649) (by decide +kernel))) (by decide +kernel)
theorem mw_370 : Cond.selects RX5 yX5_clogsBySeed yX5_clogsBySeed ∈ zT := zT_in (List.mem_append_left _ (List.mem_of_getElem? (i := 23) (by decide +kernel))) (by decide +kernel)
theorem mw_371 : Cond.methodLink RX5 222 yX5_greatestShared ∈ zT := zT_in (List.mem_append_right _ (List.mem_of_getElem? (i := 657) (by decide +kernel))) (by decide +kernel)
theorem mw_372 : Cond.code yX5_greatestShared cX5_greatestShared 4 (some .int) ∈ zT := zT_in (List.mem_append_right _ (List.mem_of_getElem? (i := 659) (by decide +kernel))) (by decide +kernel)
theorem mw_373 : Cond.static yX5_greatestShared ∈ zT := zT_in (List.mem_append_right _ (List.mem_of_getElem? (i := 658) (by decide +kernel))) (by decide +kernel)
theorem mw_374 : Cond.fieldLink RX5 41 "GlassesOfRue" "kept" "LGlassesOfRue$World;" ∈ zT := zT_in (List.mem_append_right _ (List.mem_of_getElem? (i := 362) (by decide +kernel))) (by decide +kernel)
theorem mw_375 : Cond.fieldLink RX5 225 "GlassesOfRue" "imageKept" "Z" ∈ zT := zT_in (List.mem_append_right _ (List.mem_of_getElem? (i := 365) (by decide +kernel))) (by decide +kernel)
theorem mw_376 : Cond.methodLink RX5 238 yX0_holds ∈ zT := zT_in (List.mem_append_right _ (List.mem_of_getElem? (i := 684) (by decide +kernel))) (by decide +kernel)
theorem mw_377 : Cond.code yX0_holds cX0_holds 3 (some .boolean) ∈ zT := zT_in (List.mem_append_right _ (List.mem_of_getElem? (i := 687) (by decide +kernel))) (by decide +kernel)
theorem mw_378 : Cond.instanceMethod yX0_holds ∈ zT := zT_in (List.mem_append_right _ (List.mem_of_getElem? (i := 685) (by decide +kernel))) (by decide +kernel)
theorem mw_379 : Cond.selects RX0 yX0_holds yX0_holds ∈ zT := zT_in (List.mem_append_right _ (List.mem_of_getElem? (i := 686) (by decide +kernel))) (by decide +kernel)
theorem mw_380 : Cond.methodLink RX5 245 arraycopyName ∈ zT := zT_in (List.mem_append_right _ (List.mem_of_getElem? (i := 688) (by decide +kernel))) (by decide +kernel)
theorem mw_381 : Cond.native arraycopyName ∈ zT := zT_in (List.mem_append_right _ (List.mem_of_getElem? (i := 690) (by decide +kernel))) (by decide +kernel)
theorem mw_382 : Cond.static arraycopyName ∈ zT := zT_in (List.mem_append_right _ (List.mem_of_getElem? (i := 689) (by decide +kernel))) (by decide +kernel)
theorem mw_383 : Cond.initialized "java/lang/System" ∈ zT := zT_in (List.mem_append_right _ (List.mem_of_getElem? (i := 16) (by decide +kernel))) (by decide +kernel)
theorem mw_384 : Cond.methodLink RX5 251 yX5_person ∈ zT := zT_in (List.mem_append_right _ (List.mem_of_getElem? (i := 695) (by decide +kernel))) (by decide +kernel)
theorem mw_385 : Cond.code yX5_person cX5_person 4 (some .int) ∈ zT := zT_in (List.mem_append_right _ (List.mem_of_getElem? (i := 407) (by decide +kernel))) (by decide +kernel)
theorem mw_386 : Cond.instanceMethod yX5_person ∈ zT := zT_in (List.mem_append_right _ (List.mem_of_getElem? (i := 405) (by decide +kernel))) (by decide +kernel)
theorem mw_387 : Cond.selects RX5 yX5_person yX5_person ∈ zT := zT_in (List.mem_append_right _ (List.mem_of_getElem? (i := 406) (by decide +kernel))) (by decide +kernel)
theorem mw_388 : Cond.methodLink RX5 254 yX5_isUnder ∈ zT := zT_in (List.mem_append_right _ (List.mem_of_getElem? (i := 700) (by decide +kernel))) (by decide +kernel)
theorem mw_389 : Cond.code yX5_isUnder cX5_isUnder 4 (some .boolean) ∈ zT := zT_in (List.mem_append_right _ (List.mem_of_getElem? (i := 702) (by decide +kernel))) (by decide +kernel)
theorem mw_390 : Cond.static yX5_isUnder ∈ zT := zT_in (List.mem_append_right _ (List.mem_of_getElem? (i := 701) (by decide +kernel))) (by decide +kernel)
theorem mw_391 : Cond.fieldLink RX6 85 "GlassesOfRueModel" "many" "I" ∈ zT := zT_in (List.mem_append_right _ (List.mem_of_getElem? (i := 718) (by decide +kernel))) (by decide +kernel)
theorem mw_392 : Cond.methodLink RX6 88 yX6_within ∈ zT := zT_in (List.mem_append_right _ (List.mem_of_getElem? (i := 879) (by decide +kernel))) (by decide +kernel)
theorem mw_393 : Cond.initialized RX6 ∈ zT := zT_in (List.mem_append_right _ (List.mem_of_getElem? (i := 13) (by decide +kernel))) (by decide +kernel)
theorem mw_394 : Cond.code yX6_within cX6_within 3 (some .boolean) ∈ zT := zT_in (List.mem_append_right _ (List.mem_of_getElem? (i := 881) (by decide +kernel))) (by decide +kernel)
theorem mw_395 : Cond.static yX6_within ∈ zT := zT_in (List.mem_append_right _ (List.mem_of_getElem? (i := 880) (by decide +kernel))) (by decide +kernel)
theorem mw_396 : Cond.methodLink RX6 92 yX6_isOne ∈ zT := zT_in (List.mem_append_right _ (List.mem_of_getElem? (i := 882) (by decide +kernel))) (by decide +kernel)
theorem mw_397 : Cond.code yX6_isOne cX6_isOne 2 (some .boolean) ∈ zT := zT_in (List.mem_append_right _ (List.mem_of_getElem? (i := 885) (by decide +kernel))) (by decide +kernel)
theorem mw_398 : Cond.instanceMethod yX6_isOne ∈ zT := zT_in (List.mem_append_right _ (List.mem_of_getElem? (i := 884) (by decide +kernel))) (by decide +kernel)
theorem mw_399 : Cond.selects RX6 yX6_isOne yX6_isOne ∈ zT := zT_in (List.mem_append_left _ (List.mem_of_getElem? (i := 26) (by decide +kernel))) (by decide +kernel)
theorem mw_400 : Cond.fieldLink RX6 96 "GlassesOfRueModel" "day" "I" ∈ zT := zT_in (List.mem_append_right _ (List.mem_of_getElem? (i := 716) (by decide +kernel))) (by decide +kernel)
theorem mw_401 : Cond.fieldLink RX6 99 "GlassesOfRueModel" "wet" "I" ∈ zT := zT_in (List.mem_append_right _ (List.mem_of_getElem? (i := 717) (by decide +kernel))) (by decide +kernel)
theorem mw_402 : Cond.fieldLink RX6 13 "GlassesOfRueModel" "number" "[I" ∈ zT := zT_in (List.mem_append_right _ (List.mem_of_getElem? (i := 720) (by decide +kernel))) (by decide +kernel)
theorem mw_403 : Cond.fieldLink RX6 16 "GlassesOfRueModel" "rue" "[I" ∈ zT := zT_in (List.mem_append_right _ (List.mem_of_getElem? (i := 721) (by decide +kernel))) (by decide +kernel)
theorem mw_404 : Cond.fieldLink RX6 19 "GlassesOfRueModel" "had" "[I" ∈ zT := zT_in (List.mem_append_right _ (List.mem_of_getElem? (i := 722) (by decide +kernel))) (by decide +kernel)
theorem mw_405 : Cond.methodLink RX6 102 yX6_isOf ∈ zT := zT_in (List.mem_append_right _ (List.mem_of_getElem? (i := 875) (by decide +kernel))) (by decide +kernel)
theorem mw_406 : Cond.code yX6_isOf cX6_isOf 3 (some .boolean) ∈ zT := zT_in (List.mem_append_right _ (List.mem_of_getElem? (i := 878) (by decide +kernel))) (by decide +kernel)
theorem mw_407 : Cond.instanceMethod yX6_isOf ∈ zT := zT_in (List.mem_append_right _ (List.mem_of_getElem? (i := 877) (by decide +kernel))) (by decide +kernel)
theorem mw_408 : Cond.selects RX6 yX6_isOf yX6_isOf ∈ zT := zT_in (List.mem_append_left _ (List.mem_of_getElem? (i := 25) (by decide +kernel))) (by decide +kernel)
theorem mw_409 : Cond.methodLink RX6 106 yX6_get ∈ zT := zT_in (List.mem_append_right _ (List.mem_of_getElem? (i := 886) (by decide +kernel))) (by decide +kernel)
theorem mw_410 : Cond.code yX6_get cX6_get 3 (some .int) ∈ zT := zT_in (List.mem_append_right _ (List.mem_of_getElem? (i := 889) (by decide +kernel))) (by decide +kernel)
theorem mw_411 : Cond.instanceMethod yX6_get ∈ zT := zT_in (List.mem_append_right _ (List.mem_of_getElem? (i := 888) (by decide +kernel))) (by decide +kernel)
theorem mw_412 : Cond.selects RX6 yX6_get yX6_get ∈ zT := zT_in (List.mem_append_left _ (List.mem_of_getElem? (i := 27) (by decide +kernel))) (by decide +kernel)
theorem mw_413 : Cond.fieldLink RX6 7 "GlassesOfRueModel" "kind" "[I" ∈ zT := zT_in (List.mem_append_right _ (List.mem_of_getElem? (i := 719) (by decide +kernel))) (by decide +kernel)
theorem mw_414 : Cond.fieldLink RX6 25 "GlassesOfRueModel" "begins" "[I" ∈ zT := zT_in (List.mem_append_right _ (List.mem_of_getElem? (i := 727) (by decide +kernel))) (by decide +kernel)
theorem mw_415 : Cond.fieldLink RX6 211 "GlassesOfRueModel" "rule" "I" ∈ zT := zT_in (List.mem_append_right _ (List.mem_of_getElem? (i := 723) (by decide +kernel))) (by decide +kernel)
theorem mw_416 : Cond.fieldLink RX6 28 "GlassesOfRueModel" "length" "[I" ∈ zT := zT_in (List.mem_append_right _ (List.mem_of_getElem? (i := 728) (by decide +kernel))) (by decide +kernel)
theorem mw_417 : Cond.fieldLink RX6 37 "GlassesOfRueModel" "stack" "[I" ∈ zT := zT_in (List.mem_append_right _ (List.mem_of_getElem? (i := 742) (by decide +kernel))) (by decide +kernel)
theorem mw_418 : Cond.fieldLink RX6 31 "GlassesOfRueModel" "code" "[I" ∈ zT := zT_in (List.mem_append_right _ (List.mem_of_getElem? (i := 729) (by decide +kernel))) (by decide +kernel)
theorem mw_419 : Cond.fieldLink RX6 40 "GlassesOfRueModel" "names" "[I" ∈ zT := zT_in (List.mem_append_right _ (List.mem_of_getElem? (i := 743) (by decide +kernel))) (by decide +kernel)
theorem mw_420 : Cond.methodLink RX6 214 yX6_both ∈ zT := zT_in (List.mem_append_right _ (List.mem_of_getElem? (i := 914) (by decide +kernel))) (by decide +kernel)
theorem mw_421 : Cond.code yX6_both cX6_both 3 (some .int) ∈ zT := zT_in (List.mem_append_right _ (List.mem_of_getElem? (i := 916) (by decide +kernel))) (by decide +kernel)
theorem mw_422 : Cond.static yX6_both ∈ zT := zT_in (List.mem_append_right _ (List.mem_of_getElem? (i := 915) (by decide +kernel))) (by decide +kernel)
theorem mw_423 : Cond.methodLink RX6 218 yX6_mostRue ∈ zT := zT_in (List.mem_append_right _ (List.mem_of_getElem? (i := 906) (by decide +kernel))) (by decide +kernel)
theorem mw_424 : Cond.code yX6_mostRue cX6_mostRue 3 (some .int) ∈ zT := zT_in (List.mem_append_right _ (List.mem_of_getElem? (i := 909) (by decide +kernel))) (by decide +kernel)
theorem mw_425 : Cond.instanceMethod yX6_mostRue ∈ zT := zT_in (List.mem_append_right _ (List.mem_of_getElem? (i := 908) (by decide +kernel))) (by decide +kernel)
theorem mw_426 : Cond.selects RX6 yX6_mostRue yX6_mostRue ∈ zT := zT_in (List.mem_append_left _ (List.mem_of_getElem? (i := 30) (by decide +kernel))) (by decide +kernel)
theorem mw_427 : Cond.methodLink RX6 221 yX6_ruled ∈ zT := zT_in (List.mem_append_right _ (List.mem_of_getElem? (i := 910) (by decide +kernel))) (by decide +kernel)
theorem mw_428 : Cond.code yX6_ruled cX6_ruled 6 (some .int) ∈ zT := zT_in (List.mem_append_right _ (List.mem_of_getElem? (i := 913) (by decide +kernel))) (by decide +kernel)
theorem mw_429 : Cond.instanceMethod yX6_ruled ∈ zT := zT_in (List.mem_append_right _ (List.mem_of_getElem? (i := 912) (by decide +kernel))) (by decide +kernel)
theorem mw_430 : Cond.selects RX6 yX6_ruled yX6_ruled ∈ zT := zT_in (List.mem_append_left _ (List.mem_of_getElem? (i := 31) (by decide +kernel))) (by decide +kernel)
theorem mw_431 : Cond.methodLink RX6 224 yX6_ruledFor ∈ zT := zT_in (List.mem_append_right _ (List.mem_of_getElem? (i := 902) (by decide +kernel))) (by decide +kernel)
theorem mw_432 : Cond.code yX6_ruledFor cX6_ruledFor 3 (some .int) ∈ zT := zT_in (List.mem_append_right _ (List.mem_of_getElem? (i := 905) (by decide +kernel))) (by decide +kernel)
theorem mw_433 : Cond.instanceMethod yX6_ruledFor ∈ zT := zT_in (List.mem_append_right _ (List.mem_of_getElem? (i := 904) (by decide +kernel))) (by decide +kernel)
theorem mw_434 : Cond.selects RX6 yX6_ruledFor yX6_ruledFor ∈ zT := zT_in (List.mem_append_left _ (List.mem_of_getElem? (i := 29) (by decide +kernel))) (by decide +kernel)
theorem mw_435 : Cond.methodLink RX6 227 yX6_bound ∈ zT := zT_in (List.mem_append_right _ (List.mem_of_getElem? (i := 917) (by decide +kernel))) (by decide +kernel)
theorem mw_436 : Cond.code yX6_bound cX6_bound 3 (some .int) ∈ zT := zT_in (List.mem_append_right _ (List.mem_of_getElem? (i := 919) (by decide +kernel))) (by decide +kernel)
theorem mw_437 : Cond.static yX6_bound ∈ zT := zT_in (List.mem_append_right _ (List.mem_of_getElem? (i := 918) (by decide +kernel))) (by decide +kernel)
theorem mw_438 : Cond.methodLink RX6 114 yX6_isClogged ∈ zT := zT_in (List.mem_append_right _ (List.mem_of_getElem? (i := 920) (by decide +kernel))) (by decide +kernel)
theorem mw_439 : Cond.code yX6_isClogged cX6_isClogged 3 (some .boolean) ∈ zT := zT_in (List.mem_append_right _ (List.mem_of_getElem? (i := 923) (by decide +kernel))) (by decide +kernel)
theorem mw_440 : Cond.instanceMethod yX6_isClogged ∈ zT := zT_in (List.mem_append_right _ (List.mem_of_getElem? (i := 922) (by decide +kernel))) (by decide +kernel)
theorem mw_441 : Cond.selects RX6 yX6_isClogged yX6_isClogged ∈ zT := zT_in (List.mem_append_left _ (List.mem_of_getElem? (i := 32) (by decide +kernel))) (by decide +kernel)
theorem mw_442 : Cond.methodLink RX6 110 yX6_runsOf ∈ zT := zT_in (List.mem_append_right _ (List.mem_of_getElem? (i := 898) (by decide +kernel))) (by decide +kernel)
theorem mw_443 : Cond.code yX6_runsOf cX6_runsOf 4 (some .int) ∈ zT := zT_in (List.mem_append_right _ (List.mem_of_getElem? (i := 901) (by decide +kernel))) (by decide +kernel)
theorem mw_444 : Cond.instanceMethod yX6_runsOf ∈ zT := zT_in (List.mem_append_right _ (List.mem_of_getElem? (i := 900) (by decide +kernel))) (by decide +kernel)
theorem mw_445 : Cond.selects RX6 yX6_runsOf yX6_runsOf ∈ zT := zT_in (List.mem_append_left _ (List.mem_of_getElem? (i := 28) (by decide +kernel))) (by decide +kernel)
theorem mw_446 : Cond.methodLink RX6 117 yX6_ruesOf ∈ zT := zT_in (List.mem_append_right _ (List.mem_of_getElem? (i := 924) (by decide +kernel))) (by decide +kernel)
theorem mw_447 : Cond.code yX6_ruesOf cX6_ruesOf 3 (some .int) ∈ zT := zT_in (List.mem_append_right _ (List.mem_of_getElem? (i := 927) (by decide +kernel))) (by decide +kernel)
theorem mw_448 : Cond.instanceMethod yX6_ruesOf ∈ zT := zT_in (List.mem_append_right _ (List.mem_of_getElem? (i := 926) (by decide +kernel))) (by decide +kernel)
theorem mw_449 : Cond.selects RX6 yX6_ruesOf yX6_ruesOf ∈ zT := zT_in (List.mem_append_left _ (List.mem_of_getElem? (i := 33) (by decide +kernel))) (by decide +kernel)
theorem mw_450 : Cond.methodLink RX6 120 yX6_minutes ∈ zT := zT_in (List.mem_append_right _ (List.mem_of_getElem? (i := 928) (by decide +kernel))) (by decide +kernel)
theorem mw_451 : Cond.code yX6_minutes cX6_minutes 2 (some .int) ∈ zT := zT_in (List.mem_append_right _ (List.mem_of_getElem? (i := 931) (by decide +kernel))) (by decide +kernel)
theorem mw_452 : Cond.instanceMethod yX6_minutes ∈ zT := zT_in (List.mem_append_right _ (List.mem_of_getElem? (i := 930) (by decide +kernel))) (by decide +kernel)
theorem mw_453 : Cond.selects RX6 yX6_minutes yX6_minutes ∈ zT := zT_in (List.mem_append_left _ (List.mem_of_getElem? (i := 34) (by decide +kernel))) (by decide +kernel)
theorem mw_454 : Cond.fieldLink RX6 123 "GlassesOfRueModel" "taped" "I" ∈ zT := zT_in (List.mem_append_right _ (List.mem_of_getElem? (i := 724) (by decide +kernel))) (by decide +kernel)
theorem mw_455 : Cond.fieldLink RX6 22 "GlassesOfRueModel" "tape" "[I" ∈ zT := zT_in (List.mem_append_right _ (List.mem_of_getElem? (i := 725) (by decide +kernel))) (by decide +kernel)
theorem mw_456 : Cond.fieldLink RX6 126 "GlassesOfRueModel" "word" "I" ∈ zT := zT_in (List.mem_append_right _ (List.mem_of_getElem? (i := 735) (by decide +kernel))) (by decide +kernel)
theorem mw_457 : Cond.fieldLink RX6 129 "GlassesOfRueModel" "to" "I" ∈ zT := zT_in (List.mem_append_right _ (List.mem_of_getElem? (i := 732) (by decide +kernel))) (by decide +kernel)
theorem mw_458 : Cond.fieldLink RX6 132 "GlassesOfRueModel" "from" "I" ∈ zT := zT_in (List.mem_append_right _ (List.mem_of_getElem? (i := 731) (by decide +kernel))) (by decide +kernel)
theorem mw_459 : Cond.methodLink RX6 138 yX6_isLetter ∈ zT := zT_in (List.mem_append_right _ (List.mem_of_getElem? (i := 944) (by decide +kernel))) (by decide +kernel)
theorem mw_460 : Cond.code yX6_isLetter cX6_isLetter 1 (some .boolean) ∈ zT := zT_in (List.mem_append_right _ (List.mem_of_getElem? (i := 946) (by decide +kernel))) (by decide +kernel)
theorem mw_461 : Cond.static yX6_isLetter ∈ zT := zT_in (List.mem_append_right _ (List.mem_of_getElem? (i := 945) (by decide +kernel))) (by decide +kernel)
theorem mw_462 : Cond.methodLink RX6 149 yX6_isDigit ∈ zT := zT_in (List.mem_append_right _ (List.mem_of_getElem? (i := 955) (by decide +kernel))) (by decide +kernel)
theorem mw_463 : Cond.code yX6_isDigit cX6_isDigit 1 (some .boolean) ∈ zT := zT_in (List.mem_append_right _ (List.mem_of_getElem? (i := 957) (by decide +kernel))) (by decide +kernel)
theorem mw_464 : Cond.static yX6_isDigit ∈ zT := zT_in (List.mem_append_right _ (List.mem_of_getElem? (i := 956) (by decide +kernel))) (by decide +kernel)
theorem mw_465 : Cond.methodLink RX6 155 yX6_isSign ∈ zT := zT_in (List.mem_append_right _ (List.mem_of_getElem? (i := 958) (by decide +kernel))) (by decide +kernel)
theorem mw_466 : Cond.code yX6_isSign cX6_isSign 1 (some .boolean) ∈ zT := zT_in (List.mem_append_right _ (List.mem_of_getElem? (i := 960) (by decide +kernel))) (by decide +kernel)
theorem mw_467 : Cond.static yX6_isSign ∈ zT := zT_in (List.mem_append_right _ (List.mem_of_getElem? (i := 959) (by decide +kernel))) (by decide +kernel)
theorem mw_468 : Cond.fieldLink RX6 135 "GlassesOfRueModel" "token" "I" ∈ zT := zT_in (List.mem_append_right _ (List.mem_of_getElem? (i := 733) (by decide +kernel))) (by decide +kernel)
theorem mw_469 : Cond.fieldLink RX6 152 "GlassesOfRueModel" "value" "I" ∈ zT := zT_in (List.mem_append_right _ (List.mem_of_getElem? (i := 734) (by decide +kernel))) (by decide +kernel)
theorem mw_470 : Cond.methodLink RX6 141 yX6_named ∈ zT := zT_in (List.mem_append_right _ (List.mem_of_getElem? (i := 947) (by decide +kernel))) (by decide +kernel)
theorem mw_471 : Cond.code yX6_named cX6_named 1 (some .int) ∈ zT := zT_in (List.mem_append_right _ (List.mem_of_getElem? (i := 950) (by decide +kernel))) (by decide +kernel)
theorem mw_472 : Cond.instanceMethod yX6_named ∈ zT := zT_in (List.mem_append_right _ (List.mem_of_getElem? (i := 949) (by decide +kernel))) (by decide +kernel)
theorem mw_473 : Cond.selects RX6 yX6_named yX6_named ∈ zT := zT_in (List.mem_append_left _ (List.mem_of_getElem? (i := 36) (by decide +kernel))) (by decide +kernel)
theorem mw_474 : Cond.methodLink RX6 145 yX6_isKey ∈ zT := zT_in (List.mem_append_right _ (List.mem_of_getElem? (i := 951) (by decide +kernel))) (by decide +kernel)
theorem mw_475 : Cond.code yX6_isKey cX6_isKey 1 (some .boolean) ∈ zT := zT_in (List.mem_append_right _ (List.mem_of_getElem? (i := 954) (by decide +kernel))) (by decide +kernel)
theorem mw_476 : Cond.instanceMethod yX6_isKey ∈ zT := zT_in (List.mem_append_right _ (List.mem_of_getElem? (i := 953) (by decide +kernel))) (by decide +kernel)
theorem mw_477 : Cond.selects RX6 yX6_isKey yX6_isKey ∈ zT := zT_in (List.mem_append_left _ (List.mem_of_getElem? (i := 37) (by decide +kernel))) (by decide +kernel)
theorem mw_478 : Cond.methodLink RX6 158 yX6_next ∈ zT := zT_in (List.mem_append_right _ (List.mem_of_getElem? (i := 940) (by decide +kernel))) (by decide +kernel)
theorem mw_479 : Cond.code yX6_next cX6_next 2 none ∈ zT := zT_in (List.mem_append_right _ (List.mem_of_getElem? (i := 943) (by decide +kernel))) (by decide +kernel)
theorem mw_480 : Cond.instanceMethod yX6_next ∈ zT := zT_in (List.mem_append_right _ (List.mem_of_getElem? (i := 942) (by decide +kernel))) (by decide +kernel)
theorem mw_481 : Cond.selects RX6 yX6_next yX6_next ∈ zT := zT_in (List.mem_append_left _ (List.mem_of_getElem? (i := 35) (by decide +kernel))) (by decide +kernel)
theorem mw_482 : Cond.fieldLink RX6 161 "GlassesOfRueModel" "coded" "I" ∈ zT := zT_in (List.mem_append_right _ (List.mem_of_getElem? (i := 730) (by decide +kernel))) (by decide +kernel)
theorem mw_483 : Cond.fieldLink RX6 164 "GlassesOfRueModel" "top" "I" ∈ zT := zT_in (List.mem_append_right _ (List.mem_of_getElem? (i := 737) (by decide +kernel))) (by decide +kernel)
theorem mw_484 : Cond.fieldLink RX6 34 "GlassesOfRueModel" "waits" "[I" ∈ zT := zT_in (List.mem_append_right _ (List.mem_of_getElem? (i := 736) (by decide +kernel))) (by decide +kernel)
theorem mw_485 : Cond.methodLink RX6 167 yX6_rank ∈ zT := zT_in (List.mem_append_right _ (List.mem_of_getElem? (i := 982) (by decide +kernel))) (by decide +kernel)
theorem mw_486 : Cond.code yX6_rank cX6_rank 1 (some .int) ∈ zT := zT_in (List.mem_append_right _ (List.mem_of_getElem? (i := 984) (by decide +kernel))) (by decide +kernel)
theorem mw_487 : Cond.static yX6_rank ∈ zT := zT_in (List.mem_append_right _ (List.mem_of_getElem? (i := 983) (by decide +kernel))) (by decide +kernel)
theorem mw_488 : Cond.methodLink RX6 77 yX6_codes ∈ zT := zT_in (List.mem_append_right _ (List.mem_of_getElem? (i := 712) (by decide +kernel))) (by decide +kernel)
theorem mw_489 : Cond.code yX6_codes cX6_codes 2 none ∈ zT := zT_in (List.mem_append_right _ (List.mem_of_getElem? (i := 715) (by decide +kernel))) (by decide +kernel)
theorem mw_490 : Cond.instanceMethod yX6_codes ∈ zT := zT_in (List.mem_append_right _ (List.mem_of_getElem? (i := 714) (by decide +kernel))) (by decide +kernel)
theorem mw_491 : Cond.selects RX6 yX6_codes yX6_codes ∈ zT := zT_in (List.mem_append_left _ (List.mem_of_getElem? (i := 24) (by decide +kernel))) (by decide +kernel)
theorem mw_492 : Cond.fieldLink RX6 170 "GlassesOfRueModel" "open" "I" ∈ zT := zT_in (List.mem_append_right _ (List.mem_of_getElem? (i := 738) (by decide +kernel))) (by decide +kernel)
theorem mw_493 : Cond.methodLink RX6 173 yX6_lays ∈ zT := zT_in (List.mem_append_right _ (List.mem_of_getElem? (i := 978) (by decide +kernel))) (by decide +kernel)
theorem mw_494 : Cond.code yX6_lays cX6_lays 2 none ∈ zT := zT_in (List.mem_append_right _ (List.mem_of_getElem? (i := 981) (by decide +kernel))) (by decide +kernel)
theorem mw_495 : Cond.instanceMethod yX6_lays ∈ zT := zT_in (List.mem_append_right _ (List.mem_of_getElem? (i := 980) (by decide +kernel))) (by decide +kernel)
theorem mw_496 : Cond.selects RX6 yX6_lays yX6_lays ∈ zT := zT_in (List.mem_append_left _ (List.mem_of_getElem? (i := 42) (by decide +kernel))) (by decide +kernel)
theorem mw_497 : Cond.fieldLink RX6 176 "GlassesOfRueModel" "behind" "Z" ∈ zT := zT_in (List.mem_append_right _ (List.mem_of_getElem? (i := 740) (by decide +kernel))) (by decide +kernel)
theorem mw_498 : Cond.methodLink RX6 183 yX6_push ∈ zT := zT_in (List.mem_append_right _ (List.mem_of_getElem? (i := 985) (by decide +kernel))) (by decide +kernel)
theorem mw_499 : Cond.code yX6_push cX6_push 2 none ∈ zT := zT_in (List.mem_append_right _ (List.mem_of_getElem? (i := 988) (by decide +kernel))) (by decide +kernel)
theorem mw_500 : Cond.instanceMethod yX6_push ∈ zT := zT_in (List.mem_append_right _ (List.mem_of_getElem? (i := 987) (by decide +kernel))) (by decide +kernel)
theorem mw_501 : Cond.selects RX6 yX6_push yX6_push ∈ zT := zT_in (List.mem_append_left _ (List.mem_of_getElem? (i := 43) (by decide +kernel))) (by decide +kernel)
theorem mw_502 : Cond.fieldLink RX6 186 "GlassesOfRueModel" "starts" "Z" ∈ zT := zT_in (List.mem_append_right _ (List.mem_of_getElem? (i := 741) (by decide +kernel))) (by decide +kernel)
theorem mw_503 : Cond.fieldLink RX6 180 "GlassesOfRueModel" "compared" "Z" ∈ zT := zT_in (List.mem_append_right _ (List.mem_of_getElem? (i := 739) (by decide +kernel))) (by decide +kernel)
theorem mw_504 : Cond.methodLink RX6 196 yX6_signed ∈ zT := zT_in (List.mem_append_right _ (List.mem_of_getElem? (i := 993) (by decide +kernel))) (by decide +kernel)
theorem mw_505 : Cond.code yX6_signed cX6_signed 1 (some .int) ∈ zT := zT_in (List.mem_append_right _ (List.mem_of_getElem? (i := 996) (by decide +kernel))) (by decide +kernel)
theorem mw_506 : Cond.instanceMethod yX6_signed ∈ zT := zT_in (List.mem_append_right _ (List.mem_of_getElem? (i := 995) (by decide +kernel))) (by decide +kernel)
theorem mw_507 : Cond.selects RX6 yX6_signed yX6_signed ∈ zT := zT_in (List.mem_append_left _ (List.mem_of_getElem? (i := 45) (by decide +kernel))) (by decide +kernel)
theorem mw_508 : Cond.methodLink RX6 193 yX6_closes ∈ zT := zT_in (List.mem_append_right _ (List.mem_of_getElem? (i := 989) (by decide +kernel))) (by decide +kernel)
theorem mw_509 : Cond.code yX6_closes cX6_closes 1 (some .boolean) ∈ zT := zT_in (List.mem_append_right _ (List.mem_of_getElem? (i := 992) (by decide +kernel))) (by decide +kernel)
theorem mw_510 : Cond.instanceMethod yX6_closes ∈ zT := zT_in (List.mem_append_right _ (List.mem_of_getElem? (i := 991) (by decide +kernel))) (by decide +kernel)
theorem mw_511 : Cond.selects RX6 yX6_closes yX6_closes ∈ zT := zT_in (List.mem_append_left _ (List.mem_of_getElem? (i := 44) (by decide +kernel))) (by decide +kernel)
theorem mw_512 : Cond.methodLink RX6 189 yX6_one ∈ zT := zT_in (List.mem_append_right _ (List.mem_of_getElem? (i := 974) (by decide +kernel))) (by decide +kernel)
theorem mw_513 : Cond.code yX6_one cX6_one 4 (some .boolean) ∈ zT := zT_in (List.mem_append_right _ (List.mem_of_getElem? (i := 977) (by decide +kernel))) (by decide +kernel)
theorem mw_514 : Cond.instanceMethod yX6_one ∈ zT := zT_in (List.mem_append_right _ (List.mem_of_getElem? (i := 976) (by decide +kernel))) (by decide +kernel)
theorem mw_515 : Cond.selects RX6 yX6_one yX6_one ∈ zT := zT_in (List.mem_append_left _ (List.mem_of_getElem? (i := 41) (by decide +kernel))) (by decide +kernel)
theorem mw_516 : Cond.methodLink RX6 199 yX6_takes ∈ zT := zT_in (List.mem_append_right _ (List.mem_of_getElem? (i := 966) (by decide +kernel))) (by decide +kernel)
theorem mw_517 : Cond.code yX6_takes cX6_takes 2 (some .boolean) ∈ zT := zT_in (List.mem_append_right _ (List.mem_of_getElem? (i := 969) (by decide +kernel))) (by decide +kernel)
theorem mw_518 : Cond.instanceMethod yX6_takes ∈ zT := zT_in (List.mem_append_right _ (List.mem_of_getElem? (i := 968) (by decide +kernel))) (by decide +kernel)
theorem mw_519 : Cond.selects RX6 yX6_takes yX6_takes ∈ zT := zT_in (List.mem_append_left _ (List.mem_of_getElem? (i := 39) (by decide +kernel))) (by decide +kernel)
theorem mw_520 : Cond.methodLink RX6 202 yX6_goesOn ∈ zT := zT_in (List.mem_append_right _ (List.mem_of_getElem? (i := 970) (by decide +kernel))) (by decide +kernel)
theorem mw_521 : Cond.code yX6_goesOn cX6_goesOn 2 (some .boolean) ∈ zT := zT_in (List.mem_append_right _ (List.mem_of_getElem? (i := 973) (by decide +kernel))) (by decide +kernel)
theorem mw_522 : Cond.instanceMethod yX6_goesOn ∈ zT := zT_in (List.mem_append_right _ (List.mem_of_getElem? (i := 972) (by decide +kernel))) (by decide +kernel)
theorem mw_523 : Cond.selects RX6 yX6_goesOn yX6_goesOn ∈ zT := zT_in (List.mem_append_left _ (List.mem_of_getElem? (i := 40) (by decide +kernel))) (by decide +kernel)
theorem mw_524 : Cond.fieldLink RX6 81 "GlassesOfRueModel" "texts" "I" ∈ zT := zT_in (List.mem_append_right _ (List.mem_of_getElem? (i := 726) (by decide +kernel))) (by decide +kernel)
theorem mw_525 : Cond.constant RX6 205 (370000 : Int32) ∈ zT := zT_in (List.mem_append_right _ (List.mem_of_getElem? (i := 961) (by decide +kernel))) (by decide +kernel)
theorem mw_526 : Cond.methodLink RX6 206 yX6_part ∈ zT := zT_in (List.mem_append_right _ (List.mem_of_getElem? (i := 962) (by decide +kernel))) (by decide +kernel)
theorem mw_527 : Cond.code yX6_part cX6_part 3 (some .boolean) ∈ zT := zT_in (List.mem_append_right _ (List.mem_of_getElem? (i := 965) (by decide +kernel))) (by decide +kernel)
theorem mw_528 : Cond.instanceMethod yX6_part ∈ zT := zT_in (List.mem_append_right _ (List.mem_of_getElem? (i := 964) (by decide +kernel))) (by decide +kernel)
theorem mw_529 : Cond.selects RX6 yX6_part yX6_part ∈ zT := zT_in (List.mem_append_left _ (List.mem_of_getElem? (i := 38) (by decide +kernel))) (by decide +kernel)
theorem mw_530 : Cond.constant RX6 209 (1841662 : Int32) ∈ zT := zT_in (List.mem_append_right _ (List.mem_of_getElem? (i := 997) (by decide +kernel))) (by decide +kernel)
theorem mw_531 : Cond.constant RX6 210 (369757 : Int32) ∈ zT := zT_in (List.mem_append_right _ (List.mem_of_getElem? (i := 998) (by decide +kernel))) (by decide +kernel)
theorem mw_532 : Cond.fieldLink RX6 49 "GlassesOfRueModel" "more" "[I" ∈ zT := zT_in (List.mem_append_right _ (List.mem_of_getElem? (i := 748) (by decide +kernel))) (by decide +kernel)
theorem mw_533 : Cond.methodLink RX6 230 yX6_goes ∈ zT := zT_in (List.mem_append_right _ (List.mem_of_getElem? (i := 1007) (by decide +kernel))) (by decide +kernel)
theorem mw_534 : Cond.code yX6_goes cX6_goes 2 none ∈ zT := zT_in (List.mem_append_right _ (List.mem_of_getElem? (i := 1010) (by decide +kernel))) (by decide +kernel)
theorem mw_535 : Cond.instanceMethod yX6_goes ∈ zT := zT_in (List.mem_append_right _ (List.mem_of_getElem? (i := 1009) (by decide +kernel))) (by decide +kernel)
theorem mw_536 : Cond.selects RX6 yX6_goes yX6_goes ∈ zT := zT_in (List.mem_append_left _ (List.mem_of_getElem? (i := 46) (by decide +kernel))) (by decide +kernel)
theorem mw_537 : Cond.methodLink RX6 233 yX6_allRue ∈ zT := zT_in (List.mem_append_right _ (List.mem_of_getElem? (i := 1011) (by decide +kernel))) (by decide +kernel)
theorem mw_538 : Cond.code yX6_allRue cX6_allRue 3 (some .int) ∈ zT := zT_in (List.mem_append_right _ (List.mem_of_getElem? (i := 1014) (by decide +kernel))) (by decide +kernel)
theorem mw_539 : Cond.instanceMethod yX6_allRue ∈ zT := zT_in (List.mem_append_right _ (List.mem_of_getElem? (i := 1013) (by decide +kernel))) (by decide +kernel)
theorem mw_540 : Cond.selects RX6 yX6_allRue yX6_allRue ∈ zT := zT_in (List.mem_append_left _ (List.mem_of_getElem? (i := 47) (by decide +kernel))) (by decide +kernel)
theorem mw_541 : Cond.methodLink RX6 236 yX6_drawsOff ∈ zT := zT_in (List.mem_append_right _ (List.mem_of_getElem? (i := 1019) (by decide +kernel))) (by decide +kernel)
theorem mw_542 : Cond.code yX6_drawsOff cX6_drawsOff 4 none ∈ zT := zT_in (List.mem_append_right _ (List.mem_of_getElem? (i := 1022) (by decide +kernel))) (by decide +kernel)
theorem mw_543 : Cond.instanceMethod yX6_drawsOff ∈ zT := zT_in (List.mem_append_right _ (List.mem_of_getElem? (i := 1021) (by decide +kernel))) (by decide +kernel)
theorem mw_544 : Cond.selects RX6 yX6_drawsOff yX6_drawsOff ∈ zT := zT_in (List.mem_append_left _ (List.mem_of_getElem? (i := 48) (by decide +kernel))) (by decide +kernel)
theorem mw_545 : Cond.fieldLink RX6 240 "GlassesOfRueModel" "wasDay" "I" ∈ zT := zT_in (List.mem_append_right _ (List.mem_of_getElem? (i := 744) (by decide +kernel))) (by decide +kernel)
theorem mw_546 : Cond.fieldLink RX6 243 "GlassesOfRueModel" "wasWet" "I" ∈ zT := zT_in (List.mem_append_right _ (List.mem_of_getElem? (i := 745) (by decide +kernel))) (by decide +kernel)
theorem mw_547 : Cond.fieldLink RX6 43 "GlassesOfRueModel" "wasRue" "[I" ∈ zT := zT_in (List.mem_append_right _ (List.mem_of_getElem? (i := 746) (by decide +kernel))) (by decide +kernel)
theorem mw_548 : Cond.fieldLink RX6 46 "GlassesOfRueModel" "wasHad" "[I" ∈ zT := zT_in (List.mem_append_right _ (List.mem_of_getElem? (i := 747) (by decide +kernel))) (by decide +kernel)
theorem mw_549 : Cond.methodLink RX6 246 yX6_keeps ∈ zT := zT_in (List.mem_append_right _ (List.mem_of_getElem? (i := 1027) (by decide +kernel))) (by decide +kernel)
theorem mw_550 : Cond.code yX6_keeps cX6_keeps 2 none ∈ zT := zT_in (List.mem_append_right _ (List.mem_of_getElem? (i := 1030) (by decide +kernel))) (by decide +kernel)
theorem mw_551 : Cond.instanceMethod yX6_keeps ∈ zT := zT_in (List.mem_append_right _ (List.mem_of_getElem? (i := 1029) (by decide +kernel))) (by decide +kernel)
theorem mw_552 : Cond.selects RX6 yX6_keeps yX6_keeps ∈ zT := zT_in (List.mem_append_left _ (List.mem_of_getElem? (i := 49) (by decide +kernel))) (by decide +kernel)
theorem mw_553 : Cond.methodLink RX6 249 yX6_restores ∈ zT := zT_in (List.mem_append_right _ (List.mem_of_getElem? (i := 1031) (by decide +kernel))) (by decide +kernel)
theorem mw_554 : Cond.code yX6_restores cX6_restores 2 none ∈ zT := zT_in (List.mem_append_right _ (List.mem_of_getElem? (i := 1034) (by decide +kernel))) (by decide +kernel)
theorem mw_555 : Cond.instanceMethod yX6_restores ∈ zT := zT_in (List.mem_append_right _ (List.mem_of_getElem? (i := 1033) (by decide +kernel))) (by decide +kernel)
theorem mw_556 : Cond.selects RX6 yX6_restores yX6_restores ∈ zT := zT_in (List.mem_append_left _ (List.mem_of_getElem? (i := 50) (by decide +kernel))) (by decide +kernel)
theorem mw_557 : Cond.methodLink RX6 252 yX6_longest ∈ zT := zT_in (List.mem_append_right _ (List.mem_of_getElem? (i := 1039) (by decide +kernel))) (by decide +kernel)
theorem mw_558 : Cond.code yX6_longest cX6_longest 5 (some .int) ∈ zT := zT_in (List.mem_append_right _ (List.mem_of_getElem? (i := 1042) (by decide +kernel))) (by decide +kernel)
theorem mw_559 : Cond.instanceMethod yX6_longest ∈ zT := zT_in (List.mem_append_right _ (List.mem_of_getElem? (i := 1041) (by decide +kernel))) (by decide +kernel)
theorem mw_560 : Cond.selects RX6 yX6_longest yX6_longest ∈ zT := zT_in (List.mem_append_left _ (List.mem_of_getElem? (i := 51) (by decide +kernel))) (by decide +kernel)
theorem mw_561 : Cond.methodLink RX6 255 yX6_clogged ∈ zT := zT_in (List.mem_append_right _ (List.mem_of_getElem? (i := 1043) (by decide +kernel))) (by decide +kernel)
theorem mw_562 : Cond.code yX6_clogged cX6_clogged 3 (some .int) ∈ zT := zT_in (List.mem_append_right _ (List.mem_of_getElem? (i := 1046) (by decide +kernel))) (by decide +kernel)
theorem mw_563 : Cond.instanceMethod yX6_clogged ∈ zT := zT_in (List.mem_append_right _ (List.mem_of_getElem? (i := 1045) (by decide +kernel))) (by decide +kernel)
theorem mw_564 : Cond.selects RX6 yX6_clogged yX6_clogged ∈ zT := zT_in (List.mem_append_left _ (List.mem_of_getElem? (i := 52) (by decide +kernel))) (by decide +kernel)
theorem mw_565 : Cond.fieldLink RX6 258 "GlassesOfRueModel" "one" "I" ∈ zT := zT_in (List.mem_append_right _ (List.mem_of_getElem? (i := 749) (by decide +kernel))) (by decide +kernel)
theorem mw_566 : Cond.fieldLink RX6 260 "GlassesOfRueModel" "two" "I" ∈ zT := zT_in (List.mem_append_right _ (List.mem_of_getElem? (i := 750) (by decide +kernel))) (by decide +kernel)
theorem mw_567 : Cond.fieldLink RX6 263 "GlassesOfRueModel" "three" "I" ∈ zT := zT_in (List.mem_append_right _ (List.mem_of_getElem? (i := 751) (by decide +kernel))) (by decide +kernel)
theorem mw_568 : Cond.fieldLink RX6 266 "GlassesOfRueModel" "runsFor" "I" ∈ zT := zT_in (List.mem_append_right _ (List.mem_of_getElem? (i := 755) (by decide +kernel))) (by decide +kernel)
theorem mw_569 : Cond.fieldLink RX6 269 "GlassesOfRueModel" "above" "I" ∈ zT := zT_in (List.mem_append_right _ (List.mem_of_getElem? (i := 754) (by decide +kernel))) (by decide +kernel)
theorem mw_570 : Cond.fieldLink RX6 52 "GlassesOfRueModel" "reached" "[Z" ∈ zT := zT_in (List.mem_append_right _ (List.mem_of_getElem? (i := 752) (by decide +kernel))) (by decide +kernel)
theorem mw_571 : Cond.methodLink RX6 272 yX6_turned ∈ zT := zT_in (List.mem_append_right _ (List.mem_of_getElem? (i := 1064) (by decide +kernel))) (by decide +kernel)
theorem mw_572 : Cond.code yX6_turned cX6_turned 7 none ∈ zT := zT_in (List.mem_append_right _ (List.mem_of_getElem? (i := 1067) (by decide +kernel))) (by decide +kernel)
theorem mw_573 : Cond.instanceMethod yX6_turned ∈ zT := zT_in (List.mem_append_right _ (List.mem_of_getElem? (i := 1066) (by decide +kernel))) (by decide +kernel)
theorem mw_574 : Cond.selects RX6 yX6_turned yX6_turned ∈ zT := zT_in (List.mem_append_left _ (List.mem_of_getElem? (i := 56) (by decide +kernel))) (by decide +kernel)
theorem mw_575 : Cond.methodLink RX6 276 yX6_areThree ∈ zT := zT_in (List.mem_append_right _ (List.mem_of_getElem? (i := 1051) (by decide +kernel))) (by decide +kernel)
theorem mw_576 : Cond.code yX6_areThree cX6_areThree 5 (some .boolean) ∈ zT := zT_in (List.mem_append_right _ (List.mem_of_getElem? (i := 1054) (by decide +kernel))) (by decide +kernel)
theorem mw_577 : Cond.instanceMethod yX6_areThree ∈ zT := zT_in (List.mem_append_right _ (List.mem_of_getElem? (i := 1053) (by decide +kernel))) (by decide +kernel)
theorem mw_578 : Cond.selects RX6 yX6_areThree yX6_areThree ∈ zT := zT_in (List.mem_append_left _ (List.mem_of_getElem? (i := 53) (by decide +kernel))) (by decide +kernel)
theorem mw_579 : Cond.methodLink RX6 281 yX6_pours ∈ zT := zT_in (List.mem_append_right _ (List.mem_of_getElem? (i := 1056) (by decide +kernel))) (by decide +kernel)
theorem mw_580 : Cond.code yX6_pours cX6_pours 2 none ∈ zT := zT_in (List.mem_append_right _ (List.mem_of_getElem? (i := 1059) (by decide +kernel))) (by decide +kernel)
theorem mw_581 : Cond.instanceMethod yX6_pours ∈ zT := zT_in (List.mem_append_right _ (List.mem_of_getElem? (i := 1058) (by decide +kernel))) (by decide +kernel)
theorem mw_582 : Cond.selects RX6 yX6_pours yX6_pours ∈ zT := zT_in (List.mem_append_left _ (List.mem_of_getElem? (i := 54) (by decide +kernel))) (by decide +kernel)
theorem mw_583 : Cond.methodLink RX6 284 yX6_toldTimes ∈ zT := zT_in (List.mem_append_right _ (List.mem_of_getElem? (i := 1060) (by decide +kernel))) (by decide +kernel)
theorem mw_584 : Cond.code yX6_toldTimes cX6_toldTimes 6 (some .long) ∈ zT := zT_in (List.mem_append_right _ (List.mem_of_getElem? (i := 1063) (by decide +kernel))) (by decide +kernel)
theorem mw_585 : Cond.instanceMethod yX6_toldTimes ∈ zT := zT_in (List.mem_append_right _ (List.mem_of_getElem? (i := 1062) (by decide +kernel))) (by decide +kernel)
theorem mw_586 : Cond.selects RX6 yX6_toldTimes yX6_toldTimes ∈ zT := zT_in (List.mem_append_left _ (List.mem_of_getElem? (i := 55) (by decide +kernel))) (by decide +kernel)
theorem mw_587 : Cond.constantLong RX6 279 (-4611686018427387904 : Int64) ∈ zT := zT_in (List.mem_append_right _ (List.mem_of_getElem? (i := 1055) (by decide +kernel))) (by decide +kernel)
theorem mw_588 : Cond.methodLink RX6 295 yX6_sizeOf ∈ zT := zT_in (List.mem_append_right _ (List.mem_of_getElem? (i := 1091) (by decide +kernel))) (by decide +kernel)
theorem mw_589 : Cond.code yX6_sizeOf cX6_sizeOf 1 (some .int) ∈ zT := zT_in (List.mem_append_right _ (List.mem_of_getElem? (i := 1093) (by decide +kernel))) (by decide +kernel)
theorem mw_590 : Cond.static yX6_sizeOf ∈ zT := zT_in (List.mem_append_right _ (List.mem_of_getElem? (i := 1092) (by decide +kernel))) (by decide +kernel)
theorem mw_591 : Cond.fieldLink RX6 56 "GlassesOfRueModel" "fewest" "[I" ∈ zT := zT_in (List.mem_append_right _ (List.mem_of_getElem? (i := 753) (by decide +kernel))) (by decide +kernel)
theorem mw_592 : Cond.methodLink RX6 288 yX6_isWay ∈ zT := zT_in (List.mem_append_right _ (List.mem_of_getElem? (i := 1083) (by decide +kernel))) (by decide +kernel)
theorem mw_593 : Cond.code yX6_isWay cX6_isWay 4 (some .boolean) ∈ zT := zT_in (List.mem_append_right _ (List.mem_of_getElem? (i := 1086) (by decide +kernel))) (by decide +kernel)
theorem mw_594 : Cond.instanceMethod yX6_isWay ∈ zT := zT_in (List.mem_append_right _ (List.mem_of_getElem? (i := 1085) (by decide +kernel))) (by decide +kernel)
theorem mw_595 : Cond.selects RX6 yX6_isWay yX6_isWay ∈ zT := zT_in (List.mem_append_left _ (List.mem_of_getElem? (i := 59) (by decide +kernel))) (by decide +kernel)
theorem mw_596 : Cond.methodLink RX6 291 yX6_byFirst ∈ zT := zT_in (List.mem_append_right _ (List.mem_of_getElem? (i := 1087) (by decide +kernel))) (by decide +kernel)
theorem mw_597 : Cond.code yX6_byFirst cX6_byFirst 6 (some .int) ∈ zT := zT_in (List.mem_append_right _ (List.mem_of_getElem? (i := 1090) (by decide +kernel))) (by decide +kernel)
theorem mw_598 : Cond.instanceMethod yX6_byFirst ∈ zT := zT_in (List.mem_append_right _ (List.mem_of_getElem? (i := 1089) (by decide +kernel))) (by decide +kernel)
theorem mw_599 : Cond.selects RX6 yX6_byFirst yX6_byFirst ∈ zT := zT_in (List.mem_append_left _ (List.mem_of_getElem? (i := 60) (by decide +kernel))) (by decide +kernel)
theorem mw_600 : Cond.methodLink RX6 298 yX6_isMinute ∈ zT := zT_in (List.mem_append_right _ (List.mem_of_getElem? (i := 1072) (by decide +kernel))) (by decide +kernel)
theorem mw_601 : Cond.code yX6_isMinute cX6_isMinute 1 (some .boolean) ∈ zT := zT_in (List.mem_append_right _ (List.mem_of_getElem? (i := 1074) (by decide +kernel))) (by decide +kernel)
theorem mw_602 : Cond.static yX6_isMinute ∈ zT := zT_in (List.mem_append_right _ (List.mem_of_getElem? (i := 1073) (by decide +kernel))) (by decide +kernel)
theorem mw_603 : Cond.methodLink RX6 304 yX6_counts ∈ zT := zT_in (List.mem_append_right _ (List.mem_of_getElem? (i := 1079) (by decide +kernel))) (by decide +kernel)
theorem mw_604 : Cond.code yX6_counts cX6_counts 6 none ∈ zT := zT_in (List.mem_append_right _ (List.mem_of_getElem? (i := 1082) (by decide +kernel))) (by decide +kernel)
theorem mw_605 : Cond.instanceMethod yX6_counts ∈ zT := zT_in (List.mem_append_right _ (List.mem_of_getElem? (i := 1081) (by decide +kernel))) (by decide +kernel)
theorem mw_606 : Cond.selects RX6 yX6_counts yX6_counts ∈ zT := zT_in (List.mem_append_left _ (List.mem_of_getElem? (i := 58) (by decide +kernel))) (by decide +kernel)
theorem mw_607 : Cond.methodLink RX6 307 yX6_wayTo ∈ zT := zT_in (List.mem_append_right _ (List.mem_of_getElem? (i := 1094) (by decide +kernel))) (by decide +kernel)
theorem mw_608 : Cond.code yX6_wayTo cX6_wayTo 7 (some .int) ∈ zT := zT_in (List.mem_append_right _ (List.mem_of_getElem? (i := 1097) (by decide +kernel))) (by decide +kernel)
theorem mw_609 : Cond.instanceMethod yX6_wayTo ∈ zT := zT_in (List.mem_append_right _ (List.mem_of_getElem? (i := 1096) (by decide +kernel))) (by decide +kernel)
theorem mw_610 : Cond.selects RX6 yX6_wayTo yX6_wayTo ∈ zT := zT_in (List.mem_append_left _ (List.mem_of_getElem? (i := 61) (by decide +kernel))) (by decide +kernel)
theorem mw_611 : Cond.methodLink RX6 301 yX6_nextTold ∈ zT := zT_in (List.mem_append_right _ (List.mem_of_getElem? (i := 1075) (by decide +kernel))) (by decide +kernel)
theorem mw_612 : Cond.code yX6_nextTold cX6_nextTold 5 (some .int) ∈ zT := zT_in (List.mem_append_right _ (List.mem_of_getElem? (i := 1078) (by decide +kernel))) (by decide +kernel)
theorem mw_613 : Cond.instanceMethod yX6_nextTold ∈ zT := zT_in (List.mem_append_right _ (List.mem_of_getElem? (i := 1077) (by decide +kernel))) (by decide +kernel)
theorem mw_614 : Cond.selects RX6 yX6_nextTold yX6_nextTold ∈ zT := zT_in (List.mem_append_left _ (List.mem_of_getElem? (i := 57) (by decide +kernel))) (by decide +kernel)
theorem mw_615 : Cond.methodLink RX6 310 yX6_isTold ∈ zT := zT_in (List.mem_append_right _ (List.mem_of_getElem? (i := 1110) (by decide +kernel))) (by decide +kernel)
theorem mw_616 : Cond.code yX6_isTold cX6_isTold 3 (some .boolean) ∈ zT := zT_in (List.mem_append_right _ (List.mem_of_getElem? (i := 1113) (by decide +kernel))) (by decide +kernel)
theorem mw_617 : Cond.instanceMethod yX6_isTold ∈ zT := zT_in (List.mem_append_right _ (List.mem_of_getElem? (i := 1112) (by decide +kernel))) (by decide +kernel)
theorem mw_618 : Cond.selects RX6 yX6_isTold yX6_isTold ∈ zT := zT_in (List.mem_append_left _ (List.mem_of_getElem? (i := 63) (by decide +kernel))) (by decide +kernel)
theorem mw_619 : Cond.methodLink RX6 316 yX6_daysFor ∈ zT := zT_in (List.mem_append_right _ (List.mem_of_getElem? (i := 1114) (by decide +kernel))) (by decide +kernel)
theorem mw_620 : Cond.code yX6_daysFor cX6_daysFor 5 (some .int) ∈ zT := zT_in (List.mem_append_right _ (List.mem_of_getElem? (i := 1117) (by decide +kernel))) (by decide +kernel)
theorem mw_621 : Cond.instanceMethod yX6_daysFor ∈ zT := zT_in (List.mem_append_right _ (List.mem_of_getElem? (i := 1116) (by decide +kernel))) (by decide +kernel)
theorem mw_622 : Cond.selects RX6 yX6_daysFor yX6_daysFor ∈ zT := zT_in (List.mem_append_left _ (List.mem_of_getElem? (i := 64) (by decide +kernel))) (by decide +kernel)
theorem mw_623 : Cond.methodLink RX6 313 yX6_drawFor ∈ zT := zT_in (List.mem_append_right _ (List.mem_of_getElem? (i := 1106) (by decide +kernel))) (by decide +kernel)
theorem mw_624 : Cond.code yX6_drawFor cX6_drawFor 8 (some .int) ∈ zT := zT_in (List.mem_append_right _ (List.mem_of_getElem? (i := 1109) (by decide +kernel))) (by decide +kernel)
theorem mw_625 : Cond.instanceMethod yX6_drawFor ∈ zT := zT_in (List.mem_append_right _ (List.mem_of_getElem? (i := 1108) (by decide +kernel))) (by decide +kernel)
theorem mw_626 : Cond.selects RX6 yX6_drawFor yX6_drawFor ∈ zT := zT_in (List.mem_append_left _ (List.mem_of_getElem? (i := 62) (by decide +kernel))) (by decide +kernel)
theorem mw_627 : Cond.fieldLink RX6 71 "GlassesOfRueModel" "sheetSize" "[I" ∈ zT := zT_in (List.mem_append_right _ (List.mem_of_getElem? (i := 765) (by decide +kernel))) (by decide +kernel)
theorem mw_628 : Cond.fieldLink RX6 74 "GlassesOfRueModel" "cells" "[I" ∈ zT := zT_in (List.mem_append_right _ (List.mem_of_getElem? (i := 766) (by decide +kernel))) (by decide +kernel)
theorem mw_629 : Cond.methodLink RX6 319 yX6_wrong ∈ zT := zT_in (List.mem_append_right _ (List.mem_of_getElem? (i := 1125) (by decide +kernel))) (by decide +kernel)
theorem mw_630 : Cond.code yX6_wrong cX6_wrong 5 (some .int) ∈ zT := zT_in (List.mem_append_right _ (List.mem_of_getElem? (i := 1128) (by decide +kernel))) (by decide +kernel)
theorem mw_631 : Cond.instanceMethod yX6_wrong ∈ zT := zT_in (List.mem_append_right _ (List.mem_of_getElem? (i := 1127) (by decide +kernel))) (by decide +kernel)
theorem mw_632 : Cond.selects RX6 yX6_wrong yX6_wrong ∈ zT := zT_in (List.mem_append_left _ (List.mem_of_getElem? (i := 65) (by decide +kernel))) (by decide +kernel)
theorem mw_633 : Cond.methodLink RX6 322 yX6_isSo ∈ zT := zT_in (List.mem_append_right _ (List.mem_of_getElem? (i := 1133) (by decide +kernel))) (by decide +kernel)
theorem mw_634 : Cond.code yX6_isSo cX6_isSo 3 (some .boolean) ∈ zT := zT_in (List.mem_append_right _ (List.mem_of_getElem? (i := 1136) (by decide +kernel))) (by decide +kernel)
theorem mw_635 : Cond.instanceMethod yX6_isSo ∈ zT := zT_in (List.mem_append_right _ (List.mem_of_getElem? (i := 1135) (by decide +kernel))) (by decide +kernel)
theorem mw_636 : Cond.selects RX6 yX6_isSo yX6_isSo ∈ zT := zT_in (List.mem_append_left _ (List.mem_of_getElem? (i := 67) (by decide +kernel))) (by decide +kernel)
theorem mw_637 : Cond.methodLink RX6 325 yX6_isSheet ∈ zT := zT_in (List.mem_append_right _ (List.mem_of_getElem? (i := 1122) (by decide +kernel))) (by decide +kernel)
theorem mw_638 : Cond.code yX6_isSheet cX6_isSheet 1 (some .boolean) ∈ zT := zT_in (List.mem_append_right _ (List.mem_of_getElem? (i := 1124) (by decide +kernel))) (by decide +kernel)
theorem mw_639 : Cond.static yX6_isSheet ∈ zT := zT_in (List.mem_append_right _ (List.mem_of_getElem? (i := 1123) (by decide +kernel))) (by decide +kernel)
theorem mw_640 : Cond.fieldLink RX6 68 "GlassesOfRueModel" "sheetSort" "[I" ∈ zT := zT_in (List.mem_append_right _ (List.mem_of_getElem? (i := 764) (by decide +kernel))) (by decide +kernel)
theorem mw_641 : Cond.methodLink RX6 328 yX6_kindsSo ∈ zT := zT_in (List.mem_append_right _ (List.mem_of_getElem? (i := 1129) (by decide +kernel))) (by decide +kernel)
theorem mw_642 : Cond.code yX6_kindsSo cX6_kindsSo 6 (some .int) ∈ zT := zT_in (List.mem_append_right _ (List.mem_of_getElem? (i := 1132) (by decide +kernel))) (by decide +kernel)
theorem mw_643 : Cond.instanceMethod yX6_kindsSo ∈ zT := zT_in (List.mem_append_right _ (List.mem_of_getElem? (i := 1131) (by decide +kernel))) (by decide +kernel)
theorem mw_644 : Cond.selects RX6 yX6_kindsSo yX6_kindsSo ∈ zT := zT_in (List.mem_append_left _ (List.mem_of_getElem? (i := 66) (by decide +kernel))) (by decide +kernel)
theorem mw_645 : Cond.methodLink RX6 331 yX6_numbersSo ∈ zT := zT_in (List.mem_append_right _ (List.mem_of_getElem? (i := 1137) (by decide +kernel))) (by decide +kernel)
theorem mw_646 : Cond.code yX6_numbersSo cX6_numbersSo 6 (some .int) ∈ zT := zT_in (List.mem_append_right _ (List.mem_of_getElem? (i := 1140) (by decide +kernel))) (by decide +kernel)
theorem mw_647 : Cond.instanceMethod yX6_numbersSo ∈ zT := zT_in (List.mem_append_right _ (List.mem_of_getElem? (i := 1139) (by decide +kernel))) (by decide +kernel)
theorem mw_648 : Cond.selects RX6 yX6_numbersSo yX6_numbersSo ∈ zT := zT_in (List.mem_append_left _ (List.mem_of_getElem? (i := 68) (by decide +kernel))) (by decide +kernel)
theorem mw_649 : Cond.methodLink RX6 334 yX6_wetsSo ∈ zT := zT_in (List.mem_append_right _ (List.mem_of_getElem? (i := 1141) (by decide +kernel))) (by decide +kernel)
theorem mw_650 : Cond.code yX6_wetsSo cX6_wetsSo 6 (some .int) ∈ zT := zT_in (List.mem_append_right _ (List.mem_of_getElem? (i := 1144) (by decide +kernel))) (by decide +kernel)
theorem mw_651 : Cond.instanceMethod yX6_wetsSo ∈ zT := zT_in (List.mem_append_right _ (List.mem_of_getElem? (i := 1143) (by decide +kernel))) (by decide +kernel)
theorem mw_652 : Cond.selects RX6 yX6_wetsSo yX6_wetsSo ∈ zT := zT_in (List.mem_append_left _ (List.mem_of_getElem? (i := 69) (by decide +kernel))) (by decide +kernel)
theorem mw_653 : Cond.methodLink RX6 337 yX6_ruesSo ∈ zT := zT_in (List.mem_append_right _ (List.mem_of_getElem? (i := 1145) (by decide +kernel))) (by decide +kernel)
theorem mw_654 : Cond.code yX6_ruesSo cX6_ruesSo 8 (some .int) ∈ zT := zT_in (List.mem_append_right _ (List.mem_of_getElem? (i := 1148) (by decide +kernel))) (by decide +kernel)
theorem mw_655 : Cond.instanceMethod yX6_ruesSo ∈ zT := zT_in (List.mem_append_right _ (List.mem_of_getElem? (i := 1147) (by decide +kernel))) (by decide +kernel)
theorem mw_656 : Cond.selects RX6 yX6_ruesSo yX6_ruesSo ∈ zT := zT_in (List.mem_append_left _ (List.mem_of_getElem? (i := 70) (by decide +kernel))) (by decide +kernel)
theorem mw_657 : Cond.methodLink RX6 340 yX6_textsSo ∈ zT := zT_in (List.mem_append_right _ (List.mem_of_getElem? (i := 1149) (by decide +kernel))) (by decide +kernel)
theorem mw_658 : Cond.code yX6_textsSo cX6_textsSo 6 (some .int) ∈ zT := zT_in (List.mem_append_right _ (List.mem_of_getElem? (i := 1152) (by decide +kernel))) (by decide +kernel)
theorem mw_659 : Cond.instanceMethod yX6_textsSo ∈ zT := zT_in (List.mem_append_right _ (List.mem_of_getElem? (i := 1151) (by decide +kernel))) (by decide +kernel)
theorem mw_660 : Cond.selects RX6 yX6_textsSo yX6_textsSo ∈ zT := zT_in (List.mem_append_left _ (List.mem_of_getElem? (i := 71) (by decide +kernel))) (by decide +kernel)
theorem mw_661 : Cond.methodLink RX6 343 yX6_peopleSo ∈ zT := zT_in (List.mem_append_right _ (List.mem_of_getElem? (i := 1153) (by decide +kernel))) (by decide +kernel)
theorem mw_662 : Cond.code yX6_peopleSo cX6_peopleSo 4 (some .int) ∈ zT := zT_in (List.mem_append_right _ (List.mem_of_getElem? (i := 1156) (by decide +kernel))) (by decide +kernel)
theorem mw_663 : Cond.instanceMethod yX6_peopleSo ∈ zT := zT_in (List.mem_append_right _ (List.mem_of_getElem? (i := 1155) (by decide +kernel))) (by decide +kernel)
theorem mw_664 : Cond.selects RX6 yX6_peopleSo yX6_peopleSo ∈ zT := zT_in (List.mem_append_left _ (List.mem_of_getElem? (i := 72) (by decide +kernel))) (by decide +kernel)
theorem mw_665 : Cond.methodLink RX6 346 yX6_sheet ∈ zT := zT_in (List.mem_append_right _ (List.mem_of_getElem? (i := 1161) (by decide +kernel))) (by decide +kernel)
theorem mw_666 : Cond.code yX6_sheet cX6_sheet 5 (some .int) ∈ zT := zT_in (List.mem_append_right _ (List.mem_of_getElem? (i := 1164) (by decide +kernel))) (by decide +kernel)
theorem mw_667 : Cond.instanceMethod yX6_sheet ∈ zT := zT_in (List.mem_append_right _ (List.mem_of_getElem? (i := 1162) (by decide +kernel))) (by decide +kernel)
theorem mw_668 : Cond.selects RX6 yX6_sheet yX6_sheet ∈ zT := zT_in (List.mem_append_right _ (List.mem_of_getElem? (i := 1163) (by decide +kernel))) (by decide +kernel)
theorem mw_669 : Cond.constant RX6 349 (1103515245 : Int32) ∈ zT := zT_in (List.mem_append_right _ (List.mem_of_getElem? (i := 1173) (by decide +kernel))) (by decide +kernel)
theorem mw_670 : Cond.methodLink RX6 350 yX6_byLot ∈ zT := zT_in (List.mem_append_right _ (List.mem_of_getElem? (i := 1169) (by decide +kernel))) (by decide +kernel)
theorem mw_671 : Cond.code yX6_byLot cX6_byLot 7 (some .int) ∈ zT := zT_in (List.mem_append_right _ (List.mem_of_getElem? (i := 1172) (by decide +kernel))) (by decide +kernel)
theorem mw_672 : Cond.instanceMethod yX6_byLot ∈ zT := zT_in (List.mem_append_right _ (List.mem_of_getElem? (i := 1171) (by decide +kernel))) (by decide +kernel)
theorem mw_673 : Cond.selects RX6 yX6_byLot yX6_byLot ∈ zT := zT_in (List.mem_append_left _ (List.mem_of_getElem? (i := 73) (by decide +kernel))) (by decide +kernel)
theorem mw_674 : Cond.fieldLink RX6 353 "GlassesOfRueModel" "imaged" "Z" ∈ zT := zT_in (List.mem_append_right _ (List.mem_of_getElem? (i := 756) (by decide +kernel))) (by decide +kernel)
theorem mw_675 : Cond.fieldLink RX6 356 "GlassesOfRueModel" "imageMany" "I" ∈ zT := zT_in (List.mem_append_right _ (List.mem_of_getElem? (i := 757) (by decide +kernel))) (by decide +kernel)
theorem mw_676 : Cond.fieldLink RX6 359 "GlassesOfRueModel" "imageDay" "I" ∈ zT := zT_in (List.mem_append_right _ (List.mem_of_getElem? (i := 758) (by decide +kernel))) (by decide +kernel)
theorem mw_677 : Cond.fieldLink RX6 362 "GlassesOfRueModel" "imageWet" "I" ∈ zT := zT_in (List.mem_append_right _ (List.mem_of_getElem? (i := 759) (by decide +kernel))) (by decide +kernel)
theorem mw_678 : Cond.fieldLink RX6 365 "GlassesOfRueModel" "imageRule" "I" ∈ zT := zT_in (List.mem_append_right _ (List.mem_of_getElem? (i := 760) (by decide +kernel))) (by decide +kernel)
theorem mw_679 : Cond.fieldLink RX6 59 "GlassesOfRueModel" "imageNumbers" "[I" ∈ zT := zT_in (List.mem_append_right _ (List.mem_of_getElem? (i := 761) (by decide +kernel))) (by decide +kernel)
theorem mw_680 : Cond.fieldLink RX6 62 "GlassesOfRueModel" "imageRue" "[I" ∈ zT := zT_in (List.mem_append_right _ (List.mem_of_getElem? (i := 762) (by decide +kernel))) (by decide +kernel)
theorem mw_681 : Cond.fieldLink RX6 65 "GlassesOfRueModel" "imageHad" "[I" ∈ zT := zT_in (List.mem_append_right _ (List.mem_of_getElem? (i := 763) (by decide +kernel))) (by decide +kernel)
theorem mw_682 : Cond.constantLong RX6 368 (3 : Int64) ∈ zT := zT_in (List.mem_append_right _ (List.mem_of_getElem? (i := 1203) (by decide +kernel))) (by decide +kernel)
theorem mw_683 : Cond.constantLong RX6 370 (2 : Int64) ∈ zT := zT_in (List.mem_append_right _ (List.mem_of_getElem? (i := 1204) (by decide +kernel))) (by decide +kernel)
theorem mw_684 : Cond.methodLink RX6 372 yX6_person ∈ zT := zT_in (List.mem_append_right _ (List.mem_of_getElem? (i := 1205) (by decide +kernel))) (by decide +kernel)
theorem mw_685 : Cond.code yX6_person cX6_person 4 (some .int) ∈ zT := zT_in (List.mem_append_right _ (List.mem_of_getElem? (i := 893) (by decide +kernel))) (by decide +kernel)
theorem mw_686 : Cond.instanceMethod yX6_person ∈ zT := zT_in (List.mem_append_right _ (List.mem_of_getElem? (i := 891) (by decide +kernel))) (by decide +kernel)
theorem mw_687 : Cond.selects RX6 yX6_person yX6_person ∈ zT := zT_in (List.mem_append_right _ (List.mem_of_getElem? (i := 892) (by decide +kernel))) (by decide +kernel)
theorem lk_J0_335 : zLk RJ0 335 yJ0_coder_7d493 cJ0_coder_7d493 1 (some .byte) := ⟨mw_3, mw_6, mw_7, mw_4, mw_5⟩
theorem ls_J0_1059 : zLs RJ0 1059 yJ3_checkIndex_8e157 cJ3_checkIndex_8e157 3 (some .int) := ⟨mw_9, mw_12, mw_10, mw_11⟩
theorem ls_J1_9 : zLs RJ1 9 yJ0_checkIndex_df160 cJ0_checkIndex_df160 2 none := ⟨mw_13, mw_15, mw_4, mw_14⟩
theorem lk_J0_492 : zLk RJ0 492 yJ0_isLatin1_aae02 cJ0_isLatin1_aae02 1 (some .boolean) := ⟨mw_16, mw_18, mw_19, mw_4, mw_17⟩
theorem ls_J0_495 : zLs RJ0 495 yJ1_charAt_3b067 cJ1_charAt_3b067 2 (some .char) := ⟨mw_20, mw_23, mw_21, mw_22⟩
theorem ls_J1_88 : zLs RJ1 88 yJ1_canEncode_9a6ad cJ1_canEncode_9a6ad 1 (some .boolean) := ⟨mw_24, mw_26, mw_21, mw_25⟩
theorem ls_J1_95 : zLs RJ1 95 yJ1_indexOfChar_4cfef cJ1_indexOfChar_4cfef 6 (some .int) := ⟨mw_34, mw_36, mw_21, mw_35⟩
theorem lk_J0_505 : zLk RJ0 505 yJ0_length_8abf5 cJ0_length_8abf5 1 (some .int) := ⟨mw_37, mw_39, mw_40, mw_4, mw_38⟩
theorem ls_J0_637 : zLs RJ0 637 yJ1_indexOf_4cfef cJ1_indexOf_4cfef 4 (some .int) := ⟨mw_41, mw_43, mw_21, mw_42⟩
theorem lk_J0_633 : zLk RJ0 633 yJ0_indexOf_7cf53 cJ0_indexOf_7cf53 3 (some .int) := ⟨mw_44, mw_46, mw_47, mw_4, mw_45⟩
theorem ls_X5_78 : zLs RX5 78 yX5_within cX5_within 3 (some .boolean) := ⟨mw_50, mw_53, mw_51, mw_52⟩
theorem ls_X5_257 : zLs RX5 257 yX5_kindAbove cX5_kindAbove 1 (some .int) := ⟨mw_54, mw_56, mw_51, mw_55⟩
theorem ls_X0_22 : zLs RX0 22 yJ7_fill_53178 cJ7_fill_53178 4 none := ⟨mw_63, mw_66, mw_64, mw_65⟩
theorem ls_X3_29 : zLs RX3 29 yX3_joined cX3_joined 3 (some .int) := ⟨mw_70, mw_73, mw_71, mw_72⟩
theorem ls_X3_25 : zLs RX3 25 yX3_changed cX3_changed 2 (some .int) := ⟨mw_74, mw_76, mw_71, mw_75⟩
theorem lk_X4_84 : zLk RX4 84 yX4_mostRue cX4_mostRue 3 (some .int) := ⟨mw_87, mw_90, mw_91, mw_88, mw_89⟩
theorem lk_X4_88 : zLk RX4 88 yX3_tell cX3_tell 7 (some .int) := ⟨mw_92, mw_94, mw_95, mw_71, mw_93⟩
theorem lk_X4_51 : zLk RX4 51 yX4_ruleTells cX4_ruleTells 3 (some .int) := ⟨mw_97, mw_99, mw_100, mw_88, mw_98⟩
theorem lk_X4_64 : zLk RX4 64 yX4_clogsOf cX4_clogsOf 3 (some .boolean) := ⟨mw_104, mw_106, mw_107, mw_88, mw_105⟩
theorem lk_X4_68 : zLk RX4 68 yX4_runsOf cX4_runsOf 4 (some .int) := ⟨mw_108, mw_110, mw_111, mw_88, mw_109⟩
theorem lk_X4_72 : zLk RX4 72 yX4_ruesOf cX4_ruesOf 4 (some .int) := ⟨mw_113, mw_115, mw_116, mw_88, mw_114⟩
theorem lk_X4_75 : zLk RX4 75 yX4_passDay cX4_passDay 2 none := ⟨mw_117, mw_119, mw_120, mw_88, mw_118⟩
theorem lk_X4_81 : zLk RX4 81 yX4_minutesOf cX4_minutesOf 2 (some .int) := ⟨mw_121, mw_123, mw_124, mw_88, mw_122⟩
theorem ls_X1_89 : zLs RX1 89 yJ6_bitCount_0f7a4 cJ6_bitCount_0f7a4 1 (some .int) := ⟨mw_127, mw_130, mw_128, mw_129⟩
theorem ls_X1_72 : zLs RX1 72 yX1_turned cX1_turned 3 (some .int) := ⟨mw_134, mw_137, mw_135, mw_136⟩
theorem ls_X1_76 : zLs RX1 76 yX1_sooner cX1_sooner 2 (some .int) := ⟨mw_140, mw_142, mw_135, mw_141⟩
theorem ls_X1_83 : zLs RX1 83 yX1_withSet cX1_withSet 6 (some .long) := ⟨mw_145, mw_147, mw_135, mw_146⟩
theorem lk_X1_68 : zLk RX1 68 yX1_turnSets cX1_turnSets 13 none := ⟨mw_152, mw_154, mw_155, mw_135, mw_153⟩
theorem ls_X1_45 : zLs RX1 45 yJ7_fill_d0a16 cJ7_fill_d0a16 5 none := ⟨mw_157, mw_159, mw_64, mw_158⟩
theorem lk_X1_51 : zLk RX1 51 yX1_passMinute cX1_passMinute 8 (some .long) := ⟨mw_161, mw_163, mw_164, mw_135, mw_162⟩
theorem lk_X1_26 : zLk RX1 26 yX1_lay cX1_lay 6 none := ⟨mw_166, mw_168, mw_169, mw_135, mw_167⟩
theorem lk_X1_30 : zLk RX1 30 yX1_timesLaid cX1_timesLaid 3 (some .int) := ⟨mw_170, mw_172, mw_173, mw_135, mw_171⟩
theorem lk_X2_68 : zLk RX2 68 yX2_isDigit cX2_isDigit 2 (some .boolean) := ⟨mw_182, mw_185, mw_186, mw_183, mw_184⟩
theorem lk_X2_94 : zLk RX2 94 yJ0_length_8abf5 cJ0_length_8abf5 1 (some .int) := ⟨mw_187, mw_39, mw_40, mw_4, mw_38⟩
theorem lk_X2_98 : zLk RX2 98 yJ0_charAt_5068e cJ0_charAt_5068e 2 (some .char) := ⟨mw_188, mw_190, mw_191, mw_4, mw_189⟩
theorem lk_X2_88 : zLk RX2 88 yX2_wordNumber cX2_wordNumber 8 (some .int) := ⟨mw_192, mw_194, mw_195, mw_183, mw_193⟩
theorem lk_X2_74 : zLk RX2 74 yX2_isLetter cX2_isLetter 2 (some .boolean) := ⟨mw_196, mw_198, mw_199, mw_183, mw_197⟩
theorem lk_X2_82 : zLk RX2 82 yJ0_indexOf_0f7a4 cJ0_indexOf_0f7a4 2 (some .int) := ⟨mw_200, mw_202, mw_203, mw_4, mw_201⟩
theorem lk_X2_77 : zLk RX2 77 yX2_nextWord cX2_nextWord 1 none := ⟨mw_204, mw_206, mw_207, mw_183, mw_205⟩
theorem lk_X2_71 : zLk RX2 71 yX2_nextNumber cX2_nextNumber 1 none := ⟨mw_208, mw_210, mw_211, mw_183, mw_209⟩
theorem lk_X2_44 : zLk RX2 44 yX2_readBoth cX2_readBoth 4 (some .boolean) := ⟨mw_212, mw_214, mw_215, mw_183, mw_213⟩
theorem lk_X2_31 : zLk RX2 31 yX2_next cX2_next 1 none := ⟨mw_216, mw_218, mw_219, mw_183, mw_217⟩
theorem lk_X2_49 : zLk RX2 49 yX2_emit cX2_emit 2 none := ⟨mw_220, mw_222, mw_223, mw_183, mw_221⟩
theorem lk_X2_53 : zLk RX2 53 yX2_readDenied cX2_readDenied 4 (some .boolean) := ⟨mw_224, mw_226, mw_227, mw_183, mw_225⟩
theorem lk_X2_56 : zLk RX2 56 yX2_readSum cX2_readSum 5 (some .boolean) := ⟨mw_228, mw_230, mw_231, mw_183, mw_229⟩
theorem lk_X2_59 : zLk RX2 59 yX2_readTerm cX2_readTerm 4 (some .boolean) := ⟨mw_232, mw_234, mw_235, mw_183, mw_233⟩
theorem lk_X2_62 : zLk RX2 62 yX2_readOne cX2_readOne 3 (some .boolean) := ⟨mw_236, mw_238, mw_239, mw_183, mw_237⟩
theorem lk_X2_40 : zLk RX2 40 yX2_readEither cX2_readEither 4 (some .boolean) := ⟨mw_240, mw_242, mw_243, mw_183, mw_241⟩
theorem lk_X5_64 : zLk RX5 64 yX2_add cX2_add 2 (some .int) := ⟨mw_246, mw_248, mw_249, mw_183, mw_247⟩
theorem lk_X5_128 : zLk RX5 128 yX2_read cX2_read 2 (some .int) := ⟨mw_251, mw_253, mw_254, mw_183, mw_252⟩
theorem lk_X5_134 : zLk RX5 134 yX3_become cX3_become 3 none := ⟨mw_256, mw_258, mw_259, mw_71, mw_257⟩
theorem lk_X5_106 : zLk RX5 106 yX4_has cX4_has 2 (some .boolean) := ⟨mw_261, mw_263, mw_264, mw_88, mw_262⟩
theorem lk_X5_71 : zLk RX5 71 yX5_held cX5_held 3 (some .int) := ⟨mw_265, mw_267, mw_268, mw_51, mw_266⟩
theorem ls_X5_75 : zLs RX5 75 yX5_heldMost cX5_heldMost 1 (some .int) := ⟨mw_269, mw_271, mw_51, mw_270⟩
theorem ls_X5_99 : zLs RX5 99 yX4_canBe cX4_canBe 3 (some .boolean) := ⟨mw_272, mw_274, mw_88, mw_273⟩
theorem lk_X5_102 : zLk RX5 102 yX4_come cX4_come 4 (some .int) := ⟨mw_275, mw_277, mw_278, mw_88, mw_276⟩
theorem lk_X5_113 : zLk RX5 113 yX4_runsOf cX4_runsOf 4 (some .int) := ⟨mw_279, mw_110, mw_111, mw_88, mw_109⟩
theorem lk_X5_116 : zLk RX5 116 yX4_clogsOf cX4_clogsOf 3 (some .boolean) := ⟨mw_280, mw_106, mw_107, mw_88, mw_105⟩
theorem lk_X5_119 : zLk RX5 119 yX4_ruesOf cX4_ruesOf 4 (some .int) := ⟨mw_281, mw_115, mw_116, mw_88, mw_114⟩
theorem lk_X5_122 : zLk RX5 122 yX4_minutesOf cX4_minutesOf 2 (some .int) := ⟨mw_282, mw_123, mw_124, mw_88, mw_122⟩
theorem lk_X5_141 : zLk RX5 141 yX4_passDay cX4_passDay 2 none := ⟨mw_283, mw_119, mw_120, mw_88, mw_118⟩
theorem lk_X5_144 : zLk RX5 144 yX4_rueOfAll cX4_rueOfAll 3 (some .int) := ⟨mw_284, mw_286, mw_287, mw_88, mw_285⟩
theorem lk_X5_147 : zLk RX5 147 yX4_drawOff cX4_drawOff 4 none := ⟨mw_288, mw_290, mw_291, mw_88, mw_289⟩
theorem lk_X5_151 : zLk RX5 151 yX4_become cX4_become 3 none := ⟨mw_293, mw_295, mw_296, mw_88, mw_294⟩
theorem lk_X5_154 : zLk RX5 154 yX4_passDays cX4_passDays 3 none := ⟨mw_297, mw_299, mw_300, mw_88, mw_298⟩
theorem lk_X5_158 : zLk RX5 158 yX4_longest cX4_longest 5 (some .int) := ⟨mw_301, mw_303, mw_304, mw_88, mw_302⟩
theorem lk_X5_161 : zLk RX5 161 yX4_whoClog cX4_whoClog 3 (some .int) := ⟨mw_305, mw_307, mw_308, mw_88, mw_306⟩
theorem lk_X5_164 : zLk RX5 164 yX4_mostRue cX4_mostRue 3 (some .int) := ⟨mw_309, mw_90, mw_91, mw_88, mw_89⟩
theorem lk_X5_197 : zLk RX5 197 yX1_timesOf cX1_timesOf 5 (some .int) := ⟨mw_311, mw_313, mw_314, mw_135, mw_312⟩
theorem lk_X5_199 : zLk RX5 199 yX1_lay cX1_lay 6 none := ⟨mw_315, mw_168, mw_169, mw_135, mw_167⟩
theorem lk_X5_167 : zLk RX5 167 yX5_isThree cX5_isThree 5 (some .boolean) := ⟨mw_316, mw_318, mw_319, mw_51, mw_317⟩
theorem lk_X5_172 : zLk RX5 172 yX5_timesOf cX5_timesOf 3 (some .int) := ⟨mw_320, mw_322, mw_323, mw_51, mw_321⟩
theorem ls_X5_176 : zLs RX5 176 yX5_isMinute cX5_isMinute 1 (some .boolean) := ⟨mw_325, mw_327, mw_51, mw_326⟩
theorem lk_X5_182 : zLk RX5 182 yX5_layGlasses cX5_layGlasses 2 none := ⟨mw_328, mw_330, mw_331, mw_51, mw_329⟩
theorem lk_X5_188 : zLk RX5 188 yX1_wayTill cX1_wayTill 7 (some .int) := ⟨mw_332, mw_334, mw_335, mw_135, mw_333⟩
theorem lk_X5_185 : zLk RX5 185 yX1_turnsTill cX1_turnsTill 4 (some .int) := ⟨mw_336, mw_338, mw_339, mw_135, mw_337⟩
theorem ls_X5_179 : zLs RX5 179 yX5_nextTold cX5_nextTold 3 (some .int) := ⟨mw_340, mw_342, mw_51, mw_341⟩
theorem lk_X5_229 : zLk RX5 229 yX0_at cX0_at 2 (some .int) := ⟨mw_343, mw_346, mw_347, mw_344, mw_345⟩
theorem lk_X5_210 : zLk RX5 210 yX5_choices cX5_choices 2 (some .int) := ⟨mw_349, mw_351, mw_352, mw_51, mw_350⟩
theorem lk_X5_206 : zLk RX5 206 yX5_firstOtherwise cX5_firstOtherwise 7 (some .int) := ⟨mw_353, mw_355, mw_356, mw_51, mw_354⟩
theorem lk_X5_213 : zLk RX5 213 yX0_become cX0_become 3 none := ⟨mw_357, mw_359, mw_360, mw_344, mw_358⟩
theorem lk_X5_216 : zLk RX5 216 yX0_put cX0_put 3 none := ⟨mw_361, mw_363, mw_364, mw_344, mw_362⟩
theorem ls_X5_233 : zLs RX5 233 yJ6_bitCount_0f7a4 cJ6_bitCount_0f7a4 1 (some .int) := ⟨mw_366, mw_130, mw_128, mw_129⟩
theorem lk_X5_219 : zLk RX5 219 yX5_clogsBySeed cX5_clogsBySeed 6 (some .int) := ⟨mw_367, mw_369, mw_370, mw_51, mw_368⟩
theorem ls_X5_222 : zLs RX5 222 yX5_greatestShared cX5_greatestShared 4 (some .int) := ⟨mw_371, mw_373, mw_51, mw_372⟩
theorem lk_X5_238 : zLk RX5 238 yX0_holds cX0_holds 3 (some .boolean) := ⟨mw_376, mw_378, mw_379, mw_344, mw_377⟩
theorem lk_X5_251 : zLk RX5 251 yX5_person cX5_person 4 (some .int) := ⟨mw_384, mw_386, mw_387, mw_51, mw_385⟩
theorem ls_X5_254 : zLs RX5 254 yX5_isUnder cX5_isUnder 4 (some .boolean) := ⟨mw_388, mw_390, mw_51, mw_389⟩
theorem ls_X6_88 : zLs RX6 88 yX6_within cX6_within 3 (some .boolean) := ⟨mw_392, mw_395, mw_393, mw_394⟩
theorem lk_X6_92 : zLk RX6 92 yX6_isOne cX6_isOne 2 (some .boolean) := ⟨mw_396, mw_398, mw_399, mw_393, mw_397⟩
theorem lk_X6_102 : zLk RX6 102 yX6_isOf cX6_isOf 3 (some .boolean) := ⟨mw_405, mw_407, mw_408, mw_393, mw_406⟩
theorem lk_X6_106 : zLk RX6 106 yX6_get cX6_get 3 (some .int) := ⟨mw_409, mw_411, mw_412, mw_393, mw_410⟩
theorem ls_X6_214 : zLs RX6 214 yX6_both cX6_both 3 (some .int) := ⟨mw_420, mw_422, mw_393, mw_421⟩
theorem lk_X6_218 : zLk RX6 218 yX6_mostRue cX6_mostRue 3 (some .int) := ⟨mw_423, mw_425, mw_426, mw_393, mw_424⟩
theorem lk_X6_221 : zLk RX6 221 yX6_ruled cX6_ruled 6 (some .int) := ⟨mw_427, mw_429, mw_430, mw_393, mw_428⟩
theorem lk_X6_224 : zLk RX6 224 yX6_ruledFor cX6_ruledFor 3 (some .int) := ⟨mw_431, mw_433, mw_434, mw_393, mw_432⟩
theorem ls_X6_227 : zLs RX6 227 yX6_bound cX6_bound 3 (some .int) := ⟨mw_435, mw_437, mw_393, mw_436⟩
theorem lk_X6_114 : zLk RX6 114 yX6_isClogged cX6_isClogged 3 (some .boolean) := ⟨mw_438, mw_440, mw_441, mw_393, mw_439⟩
theorem lk_X6_110 : zLk RX6 110 yX6_runsOf cX6_runsOf 4 (some .int) := ⟨mw_442, mw_444, mw_445, mw_393, mw_443⟩
theorem lk_X6_117 : zLk RX6 117 yX6_ruesOf cX6_ruesOf 3 (some .int) := ⟨mw_446, mw_448, mw_449, mw_393, mw_447⟩
theorem lk_X6_120 : zLk RX6 120 yX6_minutes cX6_minutes 2 (some .int) := ⟨mw_450, mw_452, mw_453, mw_393, mw_451⟩
theorem ls_X6_138 : zLs RX6 138 yX6_isLetter cX6_isLetter 1 (some .boolean) := ⟨mw_459, mw_461, mw_393, mw_460⟩
theorem ls_X6_149 : zLs RX6 149 yX6_isDigit cX6_isDigit 1 (some .boolean) := ⟨mw_462, mw_464, mw_393, mw_463⟩
theorem ls_X6_155 : zLs RX6 155 yX6_isSign cX6_isSign 1 (some .boolean) := ⟨mw_465, mw_467, mw_393, mw_466⟩
theorem lk_X6_141 : zLk RX6 141 yX6_named cX6_named 1 (some .int) := ⟨mw_470, mw_472, mw_473, mw_393, mw_471⟩
theorem lk_X6_145 : zLk RX6 145 yX6_isKey cX6_isKey 1 (some .boolean) := ⟨mw_474, mw_476, mw_477, mw_393, mw_475⟩
theorem lk_X6_158 : zLk RX6 158 yX6_next cX6_next 2 none := ⟨mw_478, mw_480, mw_481, mw_393, mw_479⟩
theorem ls_X6_167 : zLs RX6 167 yX6_rank cX6_rank 1 (some .int) := ⟨mw_485, mw_487, mw_393, mw_486⟩
theorem lk_X6_77 : zLk RX6 77 yX6_codes cX6_codes 2 none := ⟨mw_488, mw_490, mw_491, mw_393, mw_489⟩
theorem lk_X6_173 : zLk RX6 173 yX6_lays cX6_lays 2 none := ⟨mw_493, mw_495, mw_496, mw_393, mw_494⟩
theorem lk_X6_183 : zLk RX6 183 yX6_push cX6_push 2 none := ⟨mw_498, mw_500, mw_501, mw_393, mw_499⟩
theorem lk_X6_196 : zLk RX6 196 yX6_signed cX6_signed 1 (some .int) := ⟨mw_504, mw_506, mw_507, mw_393, mw_505⟩
theorem lk_X6_193 : zLk RX6 193 yX6_closes cX6_closes 1 (some .boolean) := ⟨mw_508, mw_510, mw_511, mw_393, mw_509⟩
theorem lk_X6_189 : zLk RX6 189 yX6_one cX6_one 4 (some .boolean) := ⟨mw_512, mw_514, mw_515, mw_393, mw_513⟩
theorem lk_X6_199 : zLk RX6 199 yX6_takes cX6_takes 2 (some .boolean) := ⟨mw_516, mw_518, mw_519, mw_393, mw_517⟩
theorem lk_X6_202 : zLk RX6 202 yX6_goesOn cX6_goesOn 2 (some .boolean) := ⟨mw_520, mw_522, mw_523, mw_393, mw_521⟩
theorem lk_X6_206 : zLk RX6 206 yX6_part cX6_part 3 (some .boolean) := ⟨mw_526, mw_528, mw_529, mw_393, mw_527⟩
theorem lk_X6_230 : zLk RX6 230 yX6_goes cX6_goes 2 none := ⟨mw_533, mw_535, mw_536, mw_393, mw_534⟩
theorem lk_X6_233 : zLk RX6 233 yX6_allRue cX6_allRue 3 (some .int) := ⟨mw_537, mw_539, mw_540, mw_393, mw_538⟩
theorem lk_X6_236 : zLk RX6 236 yX6_drawsOff cX6_drawsOff 4 none := ⟨mw_541, mw_543, mw_544, mw_393, mw_542⟩
theorem lk_X6_246 : zLk RX6 246 yX6_keeps cX6_keeps 2 none := ⟨mw_549, mw_551, mw_552, mw_393, mw_550⟩
theorem lk_X6_249 : zLk RX6 249 yX6_restores cX6_restores 2 none := ⟨mw_553, mw_555, mw_556, mw_393, mw_554⟩
theorem lk_X6_252 : zLk RX6 252 yX6_longest cX6_longest 5 (some .int) := ⟨mw_557, mw_559, mw_560, mw_393, mw_558⟩
theorem lk_X6_255 : zLk RX6 255 yX6_clogged cX6_clogged 3 (some .int) := ⟨mw_561, mw_563, mw_564, mw_393, mw_562⟩
theorem lk_X6_272 : zLk RX6 272 yX6_turned cX6_turned 7 none := ⟨mw_571, mw_573, mw_574, mw_393, mw_572⟩
theorem lk_X6_276 : zLk RX6 276 yX6_areThree cX6_areThree 5 (some .boolean) := ⟨mw_575, mw_577, mw_578, mw_393, mw_576⟩
theorem lk_X6_281 : zLk RX6 281 yX6_pours cX6_pours 2 none := ⟨mw_579, mw_581, mw_582, mw_393, mw_580⟩
theorem lk_X6_284 : zLk RX6 284 yX6_toldTimes cX6_toldTimes 6 (some .long) := ⟨mw_583, mw_585, mw_586, mw_393, mw_584⟩
theorem ls_X6_295 : zLs RX6 295 yX6_sizeOf cX6_sizeOf 1 (some .int) := ⟨mw_588, mw_590, mw_393, mw_589⟩
theorem lk_X6_288 : zLk RX6 288 yX6_isWay cX6_isWay 4 (some .boolean) := ⟨mw_592, mw_594, mw_595, mw_393, mw_593⟩
theorem lk_X6_291 : zLk RX6 291 yX6_byFirst cX6_byFirst 6 (some .int) := ⟨mw_596, mw_598, mw_599, mw_393, mw_597⟩
theorem ls_X6_298 : zLs RX6 298 yX6_isMinute cX6_isMinute 1 (some .boolean) := ⟨mw_600, mw_602, mw_393, mw_601⟩
theorem lk_X6_304 : zLk RX6 304 yX6_counts cX6_counts 6 none := ⟨mw_603, mw_605, mw_606, mw_393, mw_604⟩
theorem lk_X6_307 : zLk RX6 307 yX6_wayTo cX6_wayTo 7 (some .int) := ⟨mw_607, mw_609, mw_610, mw_393, mw_608⟩
theorem lk_X6_301 : zLk RX6 301 yX6_nextTold cX6_nextTold 5 (some .int) := ⟨mw_611, mw_613, mw_614, mw_393, mw_612⟩
theorem lk_X6_310 : zLk RX6 310 yX6_isTold cX6_isTold 3 (some .boolean) := ⟨mw_615, mw_617, mw_618, mw_393, mw_616⟩
theorem lk_X6_316 : zLk RX6 316 yX6_daysFor cX6_daysFor 5 (some .int) := ⟨mw_619, mw_621, mw_622, mw_393, mw_620⟩
theorem lk_X6_313 : zLk RX6 313 yX6_drawFor cX6_drawFor 8 (some .int) := ⟨mw_623, mw_625, mw_626, mw_393, mw_624⟩
theorem lk_X6_319 : zLk RX6 319 yX6_wrong cX6_wrong 5 (some .int) := ⟨mw_629, mw_631, mw_632, mw_393, mw_630⟩
theorem lk_X6_322 : zLk RX6 322 yX6_isSo cX6_isSo 3 (some .boolean) := ⟨mw_633, mw_635, mw_636, mw_393, mw_634⟩
theorem ls_X6_325 : zLs RX6 325 yX6_isSheet cX6_isSheet 1 (some .boolean) := ⟨mw_637, mw_639, mw_393, mw_638⟩
theorem lk_X6_328 : zLk RX6 328 yX6_kindsSo cX6_kindsSo 6 (some .int) := ⟨mw_641, mw_643, mw_644, mw_393, mw_642⟩
theorem lk_X6_331 : zLk RX6 331 yX6_numbersSo cX6_numbersSo 6 (some .int) := ⟨mw_645, mw_647, mw_648, mw_393, mw_646⟩
theorem lk_X6_334 : zLk RX6 334 yX6_wetsSo cX6_wetsSo 6 (some .int) := ⟨mw_649, mw_651, mw_652, mw_393, mw_650⟩
theorem lk_X6_337 : zLk RX6 337 yX6_ruesSo cX6_ruesSo 8 (some .int) := ⟨mw_653, mw_655, mw_656, mw_393, mw_654⟩
theorem lk_X6_340 : zLk RX6 340 yX6_textsSo cX6_textsSo 6 (some .int) := ⟨mw_657, mw_659, mw_660, mw_393, mw_658⟩
theorem lk_X6_343 : zLk RX6 343 yX6_peopleSo cX6_peopleSo 4 (some .int) := ⟨mw_661, mw_663, mw_664, mw_393, mw_662⟩
theorem lk_X6_346 : zLk RX6 346 yX6_sheet cX6_sheet 5 (some .int) := ⟨mw_665, mw_667, mw_668, mw_393, mw_666⟩
theorem lk_X6_350 : zLk RX6 350 yX6_byLot cX6_byLot 7 (some .int) := ⟨mw_670, mw_672, mw_673, mw_393, mw_671⟩
theorem lk_X6_372 : zLk RX6 372 yX6_person cX6_person 4 (some .int) := ⟨mw_684, mw_686, mw_687, mw_393, mw_685⟩
theorem ds_J0_coder_7d493 : zDs yJ0_coder_7d493 0 := ⟨by decide +kernel, by decide +kernel, by decide +kernel⟩
theorem ds_J3_checkIndex_8e157 : zDs yJ3_checkIndex_8e157 3 := ⟨by decide +kernel, by decide +kernel, by decide +kernel⟩
theorem ds_J0_checkIndex_df160 : zDs yJ0_checkIndex_df160 2 := ⟨by decide +kernel, by decide +kernel, by decide +kernel⟩
theorem ds_J0_isLatin1_aae02 : zDs yJ0_isLatin1_aae02 0 := ⟨by decide +kernel, by decide +kernel, by decide +kernel⟩
theorem ds_J1_charAt_3b067 : zDs yJ1_charAt_3b067 2 := ⟨by decide +kernel, by decide +kernel, by decide +kernel⟩
theorem ds_J1_canEncode_9a6ad : zDs yJ1_canEncode_9a6ad 1 := ⟨by decide +kernel, by decide +kernel, by decide +kernel⟩
theorem ds_J1_indexOfChar_4cfef : zDs yJ1_indexOfChar_4cfef 4 := ⟨by decide +kernel, by decide +kernel, by decide +kernel⟩
theorem ds_J0_length_8abf5 : zDs yJ0_length_8abf5 0 := ⟨by decide +kernel, by decide +kernel, by decide +kernel⟩
theorem ds_J1_indexOf_4cfef : zDs yJ1_indexOf_4cfef 4 := ⟨by decide +kernel, by decide +kernel, by decide +kernel⟩
theorem ds_J0_indexOf_7cf53 : zDs yJ0_indexOf_7cf53 2 := ⟨by decide +kernel, by decide +kernel, by decide +kernel⟩
theorem ds_X5_within : zDs yX5_within 3 := ⟨by decide +kernel, by decide +kernel, by decide +kernel⟩
theorem ds_X5_kindAbove : zDs yX5_kindAbove 1 := ⟨by decide +kernel, by decide +kernel, by decide +kernel⟩
theorem ds_J7_fill_53178 : zDs yJ7_fill_53178 2 := ⟨by decide +kernel, by decide +kernel, by decide +kernel⟩
theorem ds_X3_joined : zDs yX3_joined 3 := ⟨by decide +kernel, by decide +kernel, by decide +kernel⟩
theorem ds_X3_changed : zDs yX3_changed 2 := ⟨by decide +kernel, by decide +kernel, by decide +kernel⟩
theorem ds_X4_mostRue : zDs yX4_mostRue 0 := ⟨by decide +kernel, by decide +kernel, by decide +kernel⟩
theorem ds_X3_tell : zDs yX3_tell 2 := ⟨by decide +kernel, by decide +kernel, by decide +kernel⟩
theorem ds_X4_ruleTells : zDs yX4_ruleTells 2 := ⟨by decide +kernel, by decide +kernel, by decide +kernel⟩
theorem ds_X5_bounded : zDs yX5_bounded 3 := ⟨by decide +kernel, by decide +kernel, by decide +kernel⟩
theorem ds_X4_clogsOf : zDs yX4_clogsOf 1 := ⟨by decide +kernel, by decide +kernel, by decide +kernel⟩
theorem ds_X4_runsOf : zDs yX4_runsOf 1 := ⟨by decide +kernel, by decide +kernel, by decide +kernel⟩
theorem ds_X4_ruesOf : zDs yX4_ruesOf 1 := ⟨by decide +kernel, by decide +kernel, by decide +kernel⟩
theorem ds_X4_passDay : zDs yX4_passDay 0 := ⟨by decide +kernel, by decide +kernel, by decide +kernel⟩
theorem ds_X4_minutesOf : zDs yX4_minutesOf 1 := ⟨by decide +kernel, by decide +kernel, by decide +kernel⟩
theorem ds_J6_bitCount_0f7a4 : zDs yJ6_bitCount_0f7a4 1 := ⟨by decide +kernel, by decide +kernel, by decide +kernel⟩
theorem ds_X1_turned : zDs yX1_turned 3 := ⟨by decide +kernel, by decide +kernel, by decide +kernel⟩
theorem ds_X1_sooner : zDs yX1_sooner 2 := ⟨by decide +kernel, by decide +kernel, by decide +kernel⟩
theorem ds_X1_withSet : zDs yX1_withSet 2 := ⟨by decide +kernel, by decide +kernel, by decide +kernel⟩
theorem ds_X1_turnSets : zDs yX1_turnSets 3 := ⟨by decide +kernel, by decide +kernel, by decide +kernel⟩
theorem ds_J7_fill_d0a16 : zDs yJ7_fill_d0a16 2 := ⟨by decide +kernel, by decide +kernel, by decide +kernel⟩
theorem ds_X1_passMinute : zDs yX1_passMinute 1 := ⟨by decide +kernel, by decide +kernel, by decide +kernel⟩
theorem ds_X1_lay : zDs yX1_lay 3 := ⟨by decide +kernel, by decide +kernel, by decide +kernel⟩
theorem ds_X1_timesLaid : zDs yX1_timesLaid 0 := ⟨by decide +kernel, by decide +kernel, by decide +kernel⟩
theorem ds_X2_isDigit : zDs yX2_isDigit 1 := ⟨by decide +kernel, by decide +kernel, by decide +kernel⟩
theorem ds_J0_charAt_5068e : zDs yJ0_charAt_5068e 1 := ⟨by decide +kernel, by decide +kernel, by decide +kernel⟩
theorem ds_X2_wordNumber : zDs yX2_wordNumber 2 := ⟨by decide +kernel, by decide +kernel, by decide +kernel⟩
theorem ds_X2_isLetter : zDs yX2_isLetter 1 := ⟨by decide +kernel, by decide +kernel, by decide +kernel⟩
theorem ds_J0_indexOf_0f7a4 : zDs yJ0_indexOf_0f7a4 1 := ⟨by decide +kernel, by decide +kernel, by decide +kernel⟩
theorem ds_X2_nextWord : zDs yX2_nextWord 0 := ⟨by decide +kernel, by decide +kernel, by decide +kernel⟩
theorem ds_X2_nextNumber : zDs yX2_nextNumber 0 := ⟨by decide +kernel, by decide +kernel, by decide +kernel⟩
theorem ds_X2_readBoth : zDs yX2_readBoth 1 := ⟨by decide +kernel, by decide +kernel, by decide +kernel⟩
theorem ds_X2_next : zDs yX2_next 0 := ⟨by decide +kernel, by decide +kernel, by decide +kernel⟩
theorem ds_X2_emit : zDs yX2_emit 1 := ⟨by decide +kernel, by decide +kernel, by decide +kernel⟩
theorem ds_X2_readDenied : zDs yX2_readDenied 1 := ⟨by decide +kernel, by decide +kernel, by decide +kernel⟩
theorem ds_X2_readSum : zDs yX2_readSum 1 := ⟨by decide +kernel, by decide +kernel, by decide +kernel⟩
theorem ds_X2_readTerm : zDs yX2_readTerm 1 := ⟨by decide +kernel, by decide +kernel, by decide +kernel⟩
theorem ds_X2_readOne : zDs yX2_readOne 1 := ⟨by decide +kernel, by decide +kernel, by decide +kernel⟩
theorem ds_X2_readEither : zDs yX2_readEither 1 := ⟨by decide +kernel, by decide +kernel, by decide +kernel⟩
theorem ds_X2_add : zDs yX2_add 1 := ⟨by decide +kernel, by decide +kernel, by decide +kernel⟩
theorem ds_X2_read : zDs yX2_read 0 := ⟨by decide +kernel, by decide +kernel, by decide +kernel⟩
theorem ds_X3_become : zDs yX3_become 1 := ⟨by decide +kernel, by decide +kernel, by decide +kernel⟩
theorem ds_X4_has : zDs yX4_has 1 := ⟨by decide +kernel, by decide +kernel, by decide +kernel⟩
theorem ds_X5_held : zDs yX5_held 2 := ⟨by decide +kernel, by decide +kernel, by decide +kernel⟩
theorem ds_X5_heldMost : zDs yX5_heldMost 1 := ⟨by decide +kernel, by decide +kernel, by decide +kernel⟩
theorem ds_X4_canBe : zDs yX4_canBe 3 := ⟨by decide +kernel, by decide +kernel, by decide +kernel⟩
theorem ds_X4_come : zDs yX4_come 3 := ⟨by decide +kernel, by decide +kernel, by decide +kernel⟩
theorem ds_X4_rueOfAll : zDs yX4_rueOfAll 0 := ⟨by decide +kernel, by decide +kernel, by decide +kernel⟩
theorem ds_X4_drawOff : zDs yX4_drawOff 3 := ⟨by decide +kernel, by decide +kernel, by decide +kernel⟩
theorem ds_X4_become : zDs yX4_become 1 := ⟨by decide +kernel, by decide +kernel, by decide +kernel⟩
theorem ds_X4_passDays : zDs yX4_passDays 1 := ⟨by decide +kernel, by decide +kernel, by decide +kernel⟩
theorem ds_X4_longest : zDs yX4_longest 0 := ⟨by decide +kernel, by decide +kernel, by decide +kernel⟩
theorem ds_X4_whoClog : zDs yX4_whoClog 0 := ⟨by decide +kernel, by decide +kernel, by decide +kernel⟩
theorem ds_X1_timesOf : zDs yX1_timesOf 3 := ⟨by decide +kernel, by decide +kernel, by decide +kernel⟩
theorem ds_X5_isThree : zDs yX5_isThree 1 := ⟨by decide +kernel, by decide +kernel, by decide +kernel⟩
theorem ds_X5_timesOf : zDs yX5_timesOf 2 := ⟨by decide +kernel, by decide +kernel, by decide +kernel⟩
theorem ds_X5_isMinute : zDs yX5_isMinute 1 := ⟨by decide +kernel, by decide +kernel, by decide +kernel⟩
theorem ds_X5_layGlasses : zDs yX5_layGlasses 1 := ⟨by decide +kernel, by decide +kernel, by decide +kernel⟩
theorem ds_X1_wayTill : zDs yX1_wayTill 1 := ⟨by decide +kernel, by decide +kernel, by decide +kernel⟩
theorem ds_X1_turnsTill : zDs yX1_turnsTill 1 := ⟨by decide +kernel, by decide +kernel, by decide +kernel⟩
theorem ds_X5_nextTold : zDs yX5_nextTold 2 := ⟨by decide +kernel, by decide +kernel, by decide +kernel⟩
theorem ds_X0_at : zDs yX0_at 1 := ⟨by decide +kernel, by decide +kernel, by decide +kernel⟩
theorem ds_X5_choices : zDs yX5_choices 1 := ⟨by decide +kernel, by decide +kernel, by decide +kernel⟩
theorem ds_X5_firstOtherwise : zDs yX5_firstOtherwise 4 := ⟨by decide +kernel, by decide +kernel, by decide +kernel⟩
theorem ds_X0_become : zDs yX0_become 2 := ⟨by decide +kernel, by decide +kernel, by decide +kernel⟩
theorem ds_X0_put : zDs yX0_put 2 := ⟨by decide +kernel, by decide +kernel, by decide +kernel⟩
theorem ds_X5_clogsBySeed : zDs yX5_clogsBySeed 2 := ⟨by decide +kernel, by decide +kernel, by decide +kernel⟩
theorem ds_X5_greatestShared : zDs yX5_greatestShared 2 := ⟨by decide +kernel, by decide +kernel, by decide +kernel⟩
theorem ds_X0_holds : zDs yX0_holds 2 := ⟨by decide +kernel, by decide +kernel, by decide +kernel⟩
theorem ds_X5_person : zDs yX5_person 3 := ⟨by decide +kernel, by decide +kernel, by decide +kernel⟩
theorem ds_X5_isUnder : zDs yX5_isUnder 2 := ⟨by decide +kernel, by decide +kernel, by decide +kernel⟩
theorem ds_X6_within : zDs yX6_within 3 := ⟨by decide +kernel, by decide +kernel, by decide +kernel⟩
theorem ds_X6_isOne : zDs yX6_isOne 1 := ⟨by decide +kernel, by decide +kernel, by decide +kernel⟩
theorem ds_X6_isOf : zDs yX6_isOf 2 := ⟨by decide +kernel, by decide +kernel, by decide +kernel⟩
theorem ds_X6_get : zDs yX6_get 2 := ⟨by decide +kernel, by decide +kernel, by decide +kernel⟩
theorem ds_X6_both : zDs yX6_both 3 := ⟨by decide +kernel, by decide +kernel, by decide +kernel⟩
theorem ds_X6_mostRue : zDs yX6_mostRue 0 := ⟨by decide +kernel, by decide +kernel, by decide +kernel⟩
theorem ds_X6_ruled : zDs yX6_ruled 1 := ⟨by decide +kernel, by decide +kernel, by decide +kernel⟩
theorem ds_X6_ruledFor : zDs yX6_ruledFor 2 := ⟨by decide +kernel, by decide +kernel, by decide +kernel⟩
theorem ds_X6_bound : zDs yX6_bound 3 := ⟨by decide +kernel, by decide +kernel, by decide +kernel⟩
theorem ds_X6_isClogged : zDs yX6_isClogged 1 := ⟨by decide +kernel, by decide +kernel, by decide +kernel⟩
theorem ds_X6_runsOf : zDs yX6_runsOf 1 := ⟨by decide +kernel, by decide +kernel, by decide +kernel⟩
theorem ds_X6_ruesOf : zDs yX6_ruesOf 1 := ⟨by decide +kernel, by decide +kernel, by decide +kernel⟩
theorem ds_X6_minutes : zDs yX6_minutes 1 := ⟨by decide +kernel, by decide +kernel, by decide +kernel⟩
theorem ds_X6_isLetter : zDs yX6_isLetter 1 := ⟨by decide +kernel, by decide +kernel, by decide +kernel⟩
theorem ds_X6_isDigit : zDs yX6_isDigit 1 := ⟨by decide +kernel, by decide +kernel, by decide +kernel⟩
theorem ds_X6_isSign : zDs yX6_isSign 1 := ⟨by decide +kernel, by decide +kernel, by decide +kernel⟩
theorem ds_X6_named : zDs yX6_named 0 := ⟨by decide +kernel, by decide +kernel, by decide +kernel⟩
theorem ds_X6_isKey : zDs yX6_isKey 0 := ⟨by decide +kernel, by decide +kernel, by decide +kernel⟩
theorem ds_X6_next : zDs yX6_next 0 := ⟨by decide +kernel, by decide +kernel, by decide +kernel⟩
theorem ds_X6_rank : zDs yX6_rank 1 := ⟨by decide +kernel, by decide +kernel, by decide +kernel⟩
theorem ds_X6_codes : zDs yX6_codes 1 := ⟨by decide +kernel, by decide +kernel, by decide +kernel⟩
theorem ds_X6_lays : zDs yX6_lays 1 := ⟨by decide +kernel, by decide +kernel, by decide +kernel⟩
theorem ds_X6_push : zDs yX6_push 1 := ⟨by decide +kernel, by decide +kernel, by decide +kernel⟩
theorem ds_X6_signed : zDs yX6_signed 0 := ⟨by decide +kernel, by decide +kernel, by decide +kernel⟩
theorem ds_X6_closes : zDs yX6_closes 0 := ⟨by decide +kernel, by decide +kernel, by decide +kernel⟩
theorem ds_X6_one : zDs yX6_one 1 := ⟨by decide +kernel, by decide +kernel, by decide +kernel⟩
theorem ds_X6_takes : zDs yX6_takes 1 := ⟨by decide +kernel, by decide +kernel, by decide +kernel⟩
theorem ds_X6_goesOn : zDs yX6_goesOn 0 := ⟨by decide +kernel, by decide +kernel, by decide +kernel⟩
theorem ds_X6_part : zDs yX6_part 2 := ⟨by decide +kernel, by decide +kernel, by decide +kernel⟩
theorem ds_X6_goes : zDs yX6_goes 0 := ⟨by decide +kernel, by decide +kernel, by decide +kernel⟩
theorem ds_X6_allRue : zDs yX6_allRue 0 := ⟨by decide +kernel, by decide +kernel, by decide +kernel⟩
theorem ds_X6_drawsOff : zDs yX6_drawsOff 3 := ⟨by decide +kernel, by decide +kernel, by decide +kernel⟩
theorem ds_X6_keeps : zDs yX6_keeps 0 := ⟨by decide +kernel, by decide +kernel, by decide +kernel⟩
theorem ds_X6_restores : zDs yX6_restores 0 := ⟨by decide +kernel, by decide +kernel, by decide +kernel⟩
theorem ds_X6_longest : zDs yX6_longest 0 := ⟨by decide +kernel, by decide +kernel, by decide +kernel⟩
theorem ds_X6_clogged : zDs yX6_clogged 0 := ⟨by decide +kernel, by decide +kernel, by decide +kernel⟩
theorem ds_X6_turned : zDs yX6_turned 2 := ⟨by decide +kernel, by decide +kernel, by decide +kernel⟩
theorem ds_X6_areThree : zDs yX6_areThree 1 := ⟨by decide +kernel, by decide +kernel, by decide +kernel⟩
theorem ds_X6_pours : zDs yX6_pours 1 := ⟨by decide +kernel, by decide +kernel, by decide +kernel⟩
theorem ds_X6_toldTimes : zDs yX6_toldTimes 0 := ⟨by decide +kernel, by decide +kernel, by decide +kernel⟩
theorem ds_X6_sizeOf : zDs yX6_sizeOf 1 := ⟨by decide +kernel, by decide +kernel, by decide +kernel⟩
theorem ds_X6_isWay : zDs yX6_isWay 3 := ⟨by decide +kernel, by decide +kernel, by decide +kernel⟩
theorem ds_X6_byFirst : zDs yX6_byFirst 4 := ⟨by decide +kernel, by decide +kernel, by decide +kernel⟩
theorem ds_X6_isMinute : zDs yX6_isMinute 1 := ⟨by decide +kernel, by decide +kernel, by decide +kernel⟩
theorem ds_X6_counts : zDs yX6_counts 1 := ⟨by decide +kernel, by decide +kernel, by decide +kernel⟩
theorem ds_X6_wayTo : zDs yX6_wayTo 1 := ⟨by decide +kernel, by decide +kernel, by decide +kernel⟩
theorem ds_X6_nextTold : zDs yX6_nextTold 1 := ⟨by decide +kernel, by decide +kernel, by decide +kernel⟩
theorem ds_X6_isTold : zDs yX6_isTold 2 := ⟨by decide +kernel, by decide +kernel, by decide +kernel⟩
theorem ds_X6_daysFor : zDs yX6_daysFor 2 := ⟨by decide +kernel, by decide +kernel, by decide +kernel⟩
theorem ds_X6_drawFor : zDs yX6_drawFor 2 := ⟨by decide +kernel, by decide +kernel, by decide +kernel⟩
theorem ds_X6_wrong : zDs yX6_wrong 2 := ⟨by decide +kernel, by decide +kernel, by decide +kernel⟩
theorem ds_X6_isSo : zDs yX6_isSo 2 := ⟨by decide +kernel, by decide +kernel, by decide +kernel⟩
theorem ds_X6_isSheet : zDs yX6_isSheet 1 := ⟨by decide +kernel, by decide +kernel, by decide +kernel⟩
theorem ds_X6_kindsSo : zDs yX6_kindsSo 2 := ⟨by decide +kernel, by decide +kernel, by decide +kernel⟩
theorem ds_X6_numbersSo : zDs yX6_numbersSo 2 := ⟨by decide +kernel, by decide +kernel, by decide +kernel⟩
theorem ds_X6_wetsSo : zDs yX6_wetsSo 2 := ⟨by decide +kernel, by decide +kernel, by decide +kernel⟩
theorem ds_X6_ruesSo : zDs yX6_ruesSo 3 := ⟨by decide +kernel, by decide +kernel, by decide +kernel⟩
theorem ds_X6_textsSo : zDs yX6_textsSo 2 := ⟨by decide +kernel, by decide +kernel, by decide +kernel⟩
theorem ds_X6_peopleSo : zDs yX6_peopleSo 1 := ⟨by decide +kernel, by decide +kernel, by decide +kernel⟩
theorem ds_X6_sheet : zDs yX6_sheet 3 := ⟨by decide +kernel, by decide +kernel, by decide +kernel⟩
theorem ds_X6_byLot : zDs yX6_byLot 2 := ⟨by decide +kernel, by decide +kernel, by decide +kernel⟩
theorem ds_X6_person : zDs yX6_person 3 := ⟨by decide +kernel, by decide +kernel, by decide +kernel⟩

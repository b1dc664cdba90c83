set_option maxRecDepth 20000 in
theorem mm_0 : Cond.initialized RZL ∈ tbg := in_tables_1_1 (List.mem_of_getElem? (i := 0) (by decide +kernel)) (by decide +kernel)
set_option maxRecDepth 20000 in
theorem mm_1 : Cond.initialized RZQ ∈ tbg := in_tables_1_1 (List.mem_of_getElem? (i := 1) (by decide +kernel)) (by decide +kernel)
set_option maxRecDepth 20000 in
theorem mm_2 : Cond.initialized "java/lang/Math" ∈ tbg := in_tables_1_1 (List.mem_of_getElem? (i := 2) (by decide +kernel)) (by decide +kernel)
set_option maxRecDepth 20000 in
theorem mm_3 : Cond.initialized RZP ∈ tbg := in_tables_1_1 (List.mem_of_getElem? (i := 3) (by decide +kernel)) (by decide +kernel)
set_option maxRecDepth 20000 in
theorem mm_4 : Cond.initialized RZY ∈ tbg := in_tables_1_1 (List.mem_of_getElem? (i := 4) (by decide +kernel)) (by decide +kernel)
set_option maxRecDepth 20000 in
theorem mm_5 : Cond.initialized RZB ∈ tbg := in_tables_1_1 (List.mem_of_getElem? (i := 5) (by decide +kernel)) (by decide +kernel)
set_option maxRecDepth 20000 in
theorem mm_6 : Cond.initialized RZS ∈ tbg := in_tables_1_1 (List.mem_of_getElem? (i := 6) (by decide +kernel)) (by decide +kernel)
set_option maxRecDepth 20000 in
theorem mm_7 : Cond.initialized RZT ∈ tbg := in_tables_1_1 (List.mem_of_getElem? (i := 7) (by decide +kernel)) (by decide +kernel)
set_option maxRecDepth 20000 in
theorem mm_8 : Cond.initialized RZM ∈ tbg := in_tables_1_1 (List.mem_of_getElem? (i := 8) (by decide +kernel)) (by decide +kernel)
set_option maxRecDepth 20000 in
theorem mm_9 : Cond.initialized "java/lang/Throwable" ∈ tbg := in_tables_1_1 (List.mem_of_getElem? (i := 9) (by decide +kernel)) (by decide +kernel)
set_option maxRecDepth 20000 in
theorem mm_10 : Cond.initialized "java/lang/Exception" ∈ tbg := in_tables_1_1 (List.mem_of_getElem? (i := 10) (by decide +kernel)) (by decide +kernel)
set_option maxRecDepth 20000 in
theorem mm_11 : Cond.initialized "java/lang/RuntimeException" ∈ tbg := in_tables_1_1 (List.mem_of_getElem? (i := 11) (by decide +kernel)) (by decide +kernel)
set_option maxRecDepth 20000 in
theorem mm_12 : Cond.initialized "java/lang/IndexOutOfBoundsException" ∈ tbg := in_tables_1_1 (List.mem_of_getElem? (i := 12) (by decide +kernel)) (by decide +kernel)
set_option maxRecDepth 20000 in
theorem mm_13 : Cond.initialized "java/lang/IllegalArgumentException" ∈ tbg := in_tables_1_1 (List.mem_of_getElem? (i := 13) (by decide +kernel)) (by decide +kernel)
set_option maxRecDepth 20000 in
theorem mm_14 : Cond.initialized RZK ∈ tbg := in_tables_1_1 (List.mem_of_getElem? (i := 14) (by decide +kernel)) (by decide +kernel)
set_option maxRecDepth 20000 in
theorem mm_15 : Cond.initialized "java/lang/IllegalStateException" ∈ tbg := in_tables_1_1 (List.mem_of_getElem? (i := 15) (by decide +kernel)) (by decide +kernel)
set_option maxRecDepth 20000 in
theorem mm_16 : Cond.initialized RZO ∈ tbg := in_tables_1_1 (List.mem_of_getElem? (i := 16) (by decide +kernel)) (by decide +kernel)
set_option maxRecDepth 20000 in
theorem mm_17 : Cond.classLink RZL 8 RZQ ∈ tbg := in_tables_1_1 (List.mem_of_getElem? (i := 17) (by decide +kernel)) (by decide +kernel)
set_option maxRecDepth 20000 in
theorem mm_18 : Cond.instantiable RZQ 7 ∈ tbg := in_tables_1_1 (List.mem_of_getElem? (i := 18) (by decide +kernel)) (by decide +kernel)
set_option maxRecDepth 20000 in
theorem mm_19 : Cond.methodLink RZL 75 yZQ_init ∈ tbg := in_tables_1_1 (List.mem_of_getElem? (i := 19) (by decide +kernel)) (by decide +kernel)
set_option maxRecDepth 20000 in
theorem mm_20 : Cond.instanceMethod yZQ_init ∈ tbg := in_tables_1_1 (List.mem_of_getElem? (i := 20) (by decide +kernel)) (by decide +kernel)
set_option maxRecDepth 20000 in
theorem mm_21 : Cond.code yZQ_init cZQ_init 5 none ∈ tbg := in_tables_1_1 (List.mem_of_getElem? (i := 21) rfl) rfl
set_option maxRecDepth 20000 in
theorem mm_22 : Cond.methodLink RZQ 1 objectInit ∈ tbg := in_tables_1_1 (List.mem_of_getElem? (i := 22) (by decide +kernel)) (by decide +kernel)
set_option maxRecDepth 20000 in
theorem mm_23 : Cond.instanceMethod objectInit ∈ tbg := in_tables_1_1 (List.mem_of_getElem? (i := 23) (by decide +kernel)) (by decide +kernel)
set_option maxRecDepth 20000 in
theorem mm_24 : Cond.code objectInit ⟨#[0xb1]⟩ 1 none ∈ tbg := in_tables_1_1 (List.mem_of_getElem? (i := 24) rfl) rfl
set_option maxRecDepth 20000 in
theorem mm_25 : Cond.methodLink RZQ 9 yZJ_min ∈ tbg := in_tables_1_1 (List.mem_of_getElem? (i := 25) (by decide +kernel)) (by decide +kernel)
set_option maxRecDepth 20000 in
theorem mm_26 : Cond.static yZJ_min ∈ tbg := in_tables_1_1 (List.mem_of_getElem? (i := 26) (by decide +kernel)) (by decide +kernel)
set_option maxRecDepth 20000 in
theorem mm_27 : Cond.code yZJ_min cZJ_min 2 (some .int) ∈ tbg := in_tables_1_1 (List.mem_of_getElem? (i := 27) rfl) rfl
set_option maxRecDepth 20000 in
theorem mm_28 : Cond.methodLink RZQ 15 yZJ_max ∈ tbg := in_tables_1_1 (List.mem_of_getElem? (i := 28) (by decide +kernel)) (by decide +kernel)
set_option maxRecDepth 20000 in
theorem mm_29 : Cond.static yZJ_max ∈ tbg := in_tables_1_1 (List.mem_of_getElem? (i := 29) (by decide +kernel)) (by decide +kernel)
set_option maxRecDepth 20000 in
theorem mm_30 : Cond.code yZJ_max cZJ_max 2 (some .int) ∈ tbg := in_tables_1_1 (List.mem_of_getElem? (i := 30) rfl) rfl
set_option maxRecDepth 20000 in
theorem mm_31 : Cond.classLink RZQ 18 RZP ∈ tbg := in_tables_1_1 (List.mem_of_getElem? (i := 31) (by decide +kernel)) (by decide +kernel)
set_option maxRecDepth 20000 in
theorem mm_32 : Cond.instantiable RZP 3 ∈ tbg := in_tables_1_1 (List.mem_of_getElem? (i := 32) (by decide +kernel)) (by decide +kernel)
set_option maxRecDepth 20000 in
theorem mm_33 : Cond.methodLink RZQ 20 yZP_init ∈ tbg := in_tables_1_1 (List.mem_of_getElem? (i := 33) (by decide +kernel)) (by decide +kernel)
set_option maxRecDepth 20000 in
theorem mm_34 : Cond.instanceMethod yZP_init ∈ tbg := in_tables_1_1 (List.mem_of_getElem? (i := 34) (by decide +kernel)) (by decide +kernel)
set_option maxRecDepth 20000 in
theorem mm_35 : Cond.code yZP_init cZP_init 3 none ∈ tbg := in_tables_1_1 (List.mem_of_getElem? (i := 35) rfl) rfl
set_option maxRecDepth 20000 in
theorem mm_36 : Cond.methodLink RZP 1 objectInit ∈ tbg := in_tables_1_1 (List.mem_of_getElem? (i := 36) (by decide +kernel)) (by decide +kernel)
set_option maxRecDepth 20000 in
theorem mm_37 : Cond.fieldLink RZP 7 "TilePyramid$Picture" "columns" "I" ∈ tbg := in_tables_1_1 (List.mem_of_getElem? (i := 37) (by decide +kernel)) (by decide +kernel)
set_option maxRecDepth 20000 in
theorem mm_38 : Cond.fieldLink RZY 15 "TilePyramid$Picture" "columns" "I" ∈ tbg := in_tables_1_1 (List.mem_of_getElem? (i := 38) (by decide +kernel)) (by decide +kernel)
set_option maxRecDepth 20000 in
theorem mm_39 : Cond.fieldLink RZS 50 "TilePyramid$Picture" "columns" "I" ∈ tbg := in_tables_1_1 (List.mem_of_getElem? (i := 39) (by decide +kernel)) (by decide +kernel)
set_option maxRecDepth 20000 in
theorem mm_40 : Cond.fieldLink RZQ 131 "TilePyramid$Picture" "columns" "I" ∈ tbg := in_tables_1_1 (List.mem_of_getElem? (i := 40) (by decide +kernel)) (by decide +kernel)
set_option maxRecDepth 20000 in
theorem mm_41 : Cond.fieldLink RZP 13 "TilePyramid$Picture" "rows" "I" ∈ tbg := in_tables_1_1 (List.mem_of_getElem? (i := 41) (by decide +kernel)) (by decide +kernel)
set_option maxRecDepth 20000 in
theorem mm_42 : Cond.fieldLink RZY 21 "TilePyramid$Picture" "rows" "I" ∈ tbg := in_tables_1_1 (List.mem_of_getElem? (i := 42) (by decide +kernel)) (by decide +kernel)
set_option maxRecDepth 20000 in
theorem mm_43 : Cond.fieldLink RZS 18 "TilePyramid$Picture" "rows" "I" ∈ tbg := in_tables_1_1 (List.mem_of_getElem? (i := 43) (by decide +kernel)) (by decide +kernel)
set_option maxRecDepth 20000 in
theorem mm_44 : Cond.fieldLink RZQ 128 "TilePyramid$Picture" "rows" "I" ∈ tbg := in_tables_1_1 (List.mem_of_getElem? (i := 44) (by decide +kernel)) (by decide +kernel)
set_option maxRecDepth 20000 in
theorem mm_45 : Cond.fieldLink RZP 16 "TilePyramid$Picture" "samples" "[I" ∈ tbg := in_tables_1_1 (List.mem_of_getElem? (i := 45) (by decide +kernel)) (by decide +kernel)
set_option maxRecDepth 20000 in
theorem mm_46 : Cond.laysFinal "TilePyramid$Picture" "TilePyramid$Picture" "columns" "I" ∈ tbg := in_tables_1_1 (List.mem_of_getElem? (i := 46) (by decide +kernel)) (by decide +kernel)
set_option maxRecDepth 20000 in
theorem mm_47 : Cond.soleField "TilePyramid$Picture" "columns" ∈ tbg := in_tables_1_1 (List.mem_of_getElem? (i := 47) (by decide +kernel)) (by decide +kernel)
set_option maxRecDepth 20000 in
theorem mm_48 : Cond.laysFinal "TilePyramid$Picture" "TilePyramid$Picture" "rows" "I" ∈ tbg := in_tables_1_1 (List.mem_of_getElem? (i := 48) (by decide +kernel)) (by decide +kernel)
set_option maxRecDepth 20000 in
theorem mm_49 : Cond.soleField "TilePyramid$Picture" "rows" ∈ tbg := in_tables_1_1 (List.mem_of_getElem? (i := 49) (by decide +kernel)) (by decide +kernel)
set_option maxRecDepth 20000 in
theorem mm_50 : Cond.laysFinal "TilePyramid$Picture" "TilePyramid$Picture" "samples" "[I" ∈ tbg := in_tables_1_1 (List.mem_of_getElem? (i := 50) (by decide +kernel)) (by decide +kernel)
set_option maxRecDepth 20000 in
theorem mm_51 : Cond.soleField "TilePyramid$Picture" "samples" ∈ tbg := in_tables_1_1 (List.mem_of_getElem? (i := 51) (by decide +kernel)) (by decide +kernel)
set_option maxRecDepth 20000 in
theorem mm_52 : Cond.superclass "TilePyramid$Picture" "java/lang/Object" ∈ tbg := in_tables_1_1 (List.mem_of_getElem? (i := 52) (by decide +kernel)) (by decide +kernel)
set_option maxRecDepth 20000 in
theorem mm_53 : Cond.arrayClass .int ∈ tbg := in_tables_1_1 (List.mem_of_getElem? (i := 53) (by decide +kernel)) (by decide +kernel)
set_option maxRecDepth 20000 in
theorem mm_54 : Cond.classLink RZQ 30 RZY ∈ tbg := in_tables_1_1 (List.mem_of_getElem? (i := 54) (by decide +kernel)) (by decide +kernel)
set_option maxRecDepth 20000 in
theorem mm_55 : Cond.instantiable RZY 2 ∈ tbg := in_tables_1_1 (List.mem_of_getElem? (i := 55) (by decide +kernel)) (by decide +kernel)
set_option maxRecDepth 20000 in
theorem mm_56 : Cond.methodLink RZQ 32 yZY_init ∈ tbg := in_tables_1_1 (List.mem_of_getElem? (i := 56) (by decide +kernel)) (by decide +kernel)
set_option maxRecDepth 20000 in
theorem mm_57 : Cond.instanceMethod yZY_init ∈ tbg := in_tables_1_1 (List.mem_of_getElem? (i := 57) (by decide +kernel)) (by decide +kernel)
set_option maxRecDepth 20000 in
theorem mm_58 : Cond.code yZY_init cZY_init 5 none ∈ tbg := in_tables_1_1 (List.mem_of_getElem? (i := 58) rfl) rfl
set_option maxRecDepth 20000 in
theorem mm_59 : Cond.methodLink RZY 3 objectInit ∈ tbg := in_tables_1_1 (List.mem_of_getElem? (i := 59) (by decide +kernel)) (by decide +kernel)
set_option maxRecDepth 20000 in
theorem mm_60 : Cond.methodLink RZY 24 yZJ_max ∈ tbg := in_tables_1_1 (List.mem_of_getElem? (i := 60) (by decide +kernel)) (by decide +kernel)
set_option maxRecDepth 20000 in
theorem mm_61 : Cond.fieldLink RZY 9 "TilePyramid$Pyramid" "base" "LTilePyramid$Picture;" ∈ tbg := in_tables_1_1 (List.mem_of_getElem? (i := 61) (by decide +kernel)) (by decide +kernel)
set_option maxRecDepth 20000 in
theorem mm_62 : Cond.fieldLink RZY 30 "TilePyramid$Pyramid" "count" "I" ∈ tbg := in_tables_1_1 (List.mem_of_getElem? (i := 62) (by decide +kernel)) (by decide +kernel)
set_option maxRecDepth 20000 in
theorem mm_63 : Cond.fieldLink RZQ 89 "TilePyramid$Pyramid" "count" "I" ∈ tbg := in_tables_1_1 (List.mem_of_getElem? (i := 63) (by decide +kernel)) (by decide +kernel)
set_option maxRecDepth 20000 in
theorem mm_64 : Cond.laysFinal "TilePyramid$Pyramid" "TilePyramid$Pyramid" "base" "LTilePyramid$Picture;" ∈ tbg := in_tables_1_1 (List.mem_of_getElem? (i := 64) (by decide +kernel)) (by decide +kernel)
set_option maxRecDepth 20000 in
theorem mm_65 : Cond.soleField "TilePyramid$Pyramid" "base" ∈ tbg := in_tables_1_1 (List.mem_of_getElem? (i := 65) (by decide +kernel)) (by decide +kernel)
set_option maxRecDepth 20000 in
theorem mm_66 : Cond.laysFinal "TilePyramid$Pyramid" "TilePyramid$Pyramid" "count" "I" ∈ tbg := in_tables_1_1 (List.mem_of_getElem? (i := 66) (by decide +kernel)) (by decide +kernel)
set_option maxRecDepth 20000 in
theorem mm_67 : Cond.soleField "TilePyramid$Pyramid" "count" ∈ tbg := in_tables_1_1 (List.mem_of_getElem? (i := 67) (by decide +kernel)) (by decide +kernel)
set_option maxRecDepth 20000 in
theorem mm_68 : Cond.superclass "TilePyramid$Pyramid" "java/lang/Object" ∈ tbg := in_tables_1_1 (List.mem_of_getElem? (i := 68) (by decide +kernel)) (by decide +kernel)
set_option maxRecDepth 20000 in
theorem mm_69 : Cond.classLink RZQ 39 RZB ∈ tbg := in_tables_1_1 (List.mem_of_getElem? (i := 69) (by decide +kernel)) (by decide +kernel)
set_option maxRecDepth 20000 in
theorem mm_70 : Cond.instantiable RZB 2 ∈ tbg := in_tables_1_1 (List.mem_of_getElem? (i := 70) (by decide +kernel)) (by decide +kernel)
set_option maxRecDepth 20000 in
theorem mm_72 : Cond.instanceMethod yZB_init ∈ tbg := in_tables_1_1 (List.mem_of_getElem? (i := 72) (by decide +kernel)) (by decide +kernel)
set_option maxRecDepth 20000 in
theorem mm_73 : Cond.code yZB_init cZB_init 1 none ∈ tbg := in_tables_1_1 (List.mem_of_getElem? (i := 73) rfl) rfl
set_option maxRecDepth 20000 in
theorem mm_74 : Cond.methodLink RZB 3 objectInit ∈ tbg := in_tables_1_1 (List.mem_of_getElem? (i := 74) (by decide +kernel)) (by decide +kernel)
set_option maxRecDepth 20000 in
theorem mm_75 : Cond.fieldLink RZB 9 "TilePyramid$ByteRow" "bytes" "[I" ∈ tbg := in_tables_1_1 (List.mem_of_getElem? (i := 75) (by decide +kernel)) (by decide +kernel)
set_option maxRecDepth 20000 in
theorem mm_76 : Cond.fieldLink RZO 19 "TilePyramid$ByteRow" "bytes" "[I" ∈ tbg := in_tables_1_1 (List.mem_of_getElem? (i := 76) (by decide +kernel)) (by decide +kernel)
set_option maxRecDepth 20000 in
theorem mm_77 : Cond.fieldLink RZQ 172 "TilePyramid$ByteRow" "bytes" "[I" ∈ tbg := in_tables_1_1 (List.mem_of_getElem? (i := 77) (by decide +kernel)) (by decide +kernel)
set_option maxRecDepth 20000 in
theorem mm_78 : Cond.fieldLink RZB 15 "TilePyramid$ByteRow" "length" "I" ∈ tbg := in_tables_1_1 (List.mem_of_getElem? (i := 78) (by decide +kernel)) (by decide +kernel)
set_option maxRecDepth 20000 in
theorem mm_79 : Cond.fieldLink RZO 9 "TilePyramid$ByteRow" "length" "I" ∈ tbg := in_tables_1_1 (List.mem_of_getElem? (i := 79) (by decide +kernel)) (by decide +kernel)
set_option maxRecDepth 20000 in
theorem mm_80 : Cond.fieldLink RZK 9 "TilePyramid$ByteRow" "length" "I" ∈ tbg := in_tables_1_1 (List.mem_of_getElem? (i := 80) (by decide +kernel)) (by decide +kernel)
set_option maxRecDepth 20000 in
theorem mm_81 : Cond.fieldLink RZQ 150 "TilePyramid$ByteRow" "length" "I" ∈ tbg := in_tables_1_1 (List.mem_of_getElem? (i := 81) (by decide +kernel)) (by decide +kernel)
set_option maxRecDepth 20000 in
theorem mm_82 : Cond.laysFinal "TilePyramid$ByteRow" "TilePyramid$ByteRow" "bytes" "[I" ∈ tbg := in_tables_1_1 (List.mem_of_getElem? (i := 82) (by decide +kernel)) (by decide +kernel)
set_option maxRecDepth 20000 in
theorem mm_83 : Cond.soleField "TilePyramid$ByteRow" "bytes" ∈ tbg := in_tables_1_1 (List.mem_of_getElem? (i := 83) (by decide +kernel)) (by decide +kernel)
set_option maxRecDepth 20000 in
theorem mm_84 : Cond.lays "TilePyramid$ByteRow" "TilePyramid$ByteRow" "length" "I" ∈ tbg := in_tables_1_1 (List.mem_of_getElem? (i := 84) (by decide +kernel)) (by decide +kernel)
set_option maxRecDepth 20000 in
theorem mm_85 : Cond.soleField "TilePyramid$ByteRow" "length" ∈ tbg := in_tables_1_1 (List.mem_of_getElem? (i := 85) (by decide +kernel)) (by decide +kernel)
set_option maxRecDepth 20000 in
theorem mm_86 : Cond.superclass "TilePyramid$ByteRow" "java/lang/Object" ∈ tbg := in_tables_1_1 (List.mem_of_getElem? (i := 86) (by decide +kernel)) (by decide +kernel)
set_option maxRecDepth 20000 in
theorem mm_87 : Cond.classLink RZQ 46 RZS ∈ tbg := in_tables_1_1 (List.mem_of_getElem? (i := 87) (by decide +kernel)) (by decide +kernel)
set_option maxRecDepth 20000 in
theorem mm_88 : Cond.instantiable RZS 5 ∈ tbg := in_tables_1_1 (List.mem_of_getElem? (i := 88) (by decide +kernel)) (by decide +kernel)
set_option maxRecDepth 20000 in
theorem mm_89 : Cond.methodLink RZQ 48 yZS_init ∈ tbg := in_tables_1_1 (List.mem_of_getElem? (i := 89) (by decide +kernel)) (by decide +kernel)
set_option maxRecDepth 20000 in
theorem mm_90 : Cond.instanceMethod yZS_init ∈ tbg := in_tables_1_1 (List.mem_of_getElem? (i := 90) (by decide +kernel)) (by decide +kernel)
set_option maxRecDepth 20000 in
theorem mm_91 : Cond.code yZS_init cZS_init 3 none ∈ tbg := in_tables_1_1 (List.mem_of_getElem? (i := 91) rfl) rfl
set_option maxRecDepth 20000 in
theorem mm_92 : Cond.methodLink RZS 3 objectInit ∈ tbg := in_tables_1_1 (List.mem_of_getElem? (i := 92) (by decide +kernel)) (by decide +kernel)
set_option maxRecDepth 20000 in
theorem mm_93 : Cond.fieldLink RZS 9 "TilePyramid$SeamFinder" "under" "LTilePyramid$Picture;" ∈ tbg := in_tables_1_1 (List.mem_of_getElem? (i := 93) (by decide +kernel)) (by decide +kernel)
set_option maxRecDepth 20000 in
theorem mm_94 : Cond.fieldLink RZS 15 "TilePyramid$SeamFinder" "over" "LTilePyramid$Picture;" ∈ tbg := in_tables_1_1 (List.mem_of_getElem? (i := 94) (by decide +kernel)) (by decide +kernel)
set_option maxRecDepth 20000 in
theorem mm_95 : Cond.fieldLink RZS 24 "TilePyramid$SeamFinder" "leastCosts" "[I" ∈ tbg := in_tables_1_1 (List.mem_of_getElem? (i := 95) (by decide +kernel)) (by decide +kernel)
set_option maxRecDepth 20000 in
theorem mm_96 : Cond.fieldLink RZS 28 "TilePyramid$SeamFinder" "path" "[I" ∈ tbg := in_tables_1_1 (List.mem_of_getElem? (i := 96) (by decide +kernel)) (by decide +kernel)
set_option maxRecDepth 20000 in
theorem mm_97 : Cond.fieldLink RZQ 218 "TilePyramid$SeamFinder" "path" "[I" ∈ tbg := in_tables_1_1 (List.mem_of_getElem? (i := 97) (by decide +kernel)) (by decide +kernel)
set_option maxRecDepth 20000 in
theorem mm_98 : Cond.fieldLink RZS 42 "TilePyramid$SeamFinder" "found" "Z" ∈ tbg := in_tables_1_1 (List.mem_of_getElem? (i := 98) (by decide +kernel)) (by decide +kernel)
set_option maxRecDepth 20000 in
theorem mm_99 : Cond.fieldLink RZQ 214 "TilePyramid$SeamFinder" "found" "Z" ∈ tbg := in_tables_1_1 (List.mem_of_getElem? (i := 99) (by decide +kernel)) (by decide +kernel)
set_option maxRecDepth 20000 in
theorem mm_100 : Cond.laysFinal "TilePyramid$SeamFinder" "TilePyramid$SeamFinder" "under" "LTilePyramid$Picture;" ∈ tbg := in_tables_1_1 (List.mem_of_getElem? (i := 100) (by decide +kernel)) (by decide +kernel)
set_option maxRecDepth 20000 in
theorem mm_101 : Cond.soleField "TilePyramid$SeamFinder" "under" ∈ tbg := in_tables_1_1 (List.mem_of_getElem? (i := 101) (by decide +kernel)) (by decide +kernel)
set_option maxRecDepth 20000 in
theorem mm_102 : Cond.laysFinal "TilePyramid$SeamFinder" "TilePyramid$SeamFinder" "over" "LTilePyramid$Picture;" ∈ tbg := in_tables_1_1 (List.mem_of_getElem? (i := 102) (by decide +kernel)) (by decide +kernel)
set_option maxRecDepth 20000 in
theorem mm_103 : Cond.soleField "TilePyramid$SeamFinder" "over" ∈ tbg := in_tables_1_1 (List.mem_of_getElem? (i := 103) (by decide +kernel)) (by decide +kernel)
set_option maxRecDepth 20000 in
theorem mm_104 : Cond.laysFinal "TilePyramid$SeamFinder" "TilePyramid$SeamFinder" "leastCosts" "[I" ∈ tbg := in_tables_1_1 (List.mem_of_getElem? (i := 104) (by decide +kernel)) (by decide +kernel)
set_option maxRecDepth 20000 in
theorem mm_105 : Cond.soleField "TilePyramid$SeamFinder" "leastCosts" ∈ tbg := in_tables_1_1 (List.mem_of_getElem? (i := 105) (by decide +kernel)) (by decide +kernel)
set_option maxRecDepth 20000 in
theorem mm_106 : Cond.laysFinal "TilePyramid$SeamFinder" "TilePyramid$SeamFinder" "path" "[I" ∈ tbg := in_tables_1_1 (List.mem_of_getElem? (i := 106) (by decide +kernel)) (by decide +kernel)
set_option maxRecDepth 20000 in
theorem mm_107 : Cond.soleField "TilePyramid$SeamFinder" "path" ∈ tbg := in_tables_1_1 (List.mem_of_getElem? (i := 107) (by decide +kernel)) (by decide +kernel)
set_option maxRecDepth 20000 in
theorem mm_108 : Cond.lays "TilePyramid$SeamFinder" "TilePyramid$SeamFinder" "found" "Z" ∈ tbg := in_tables_1_1 (List.mem_of_getElem? (i := 108) (by decide +kernel)) (by decide +kernel)
set_option maxRecDepth 20000 in
theorem mm_109 : Cond.soleField "TilePyramid$SeamFinder" "found" ∈ tbg := in_tables_1_1 (List.mem_of_getElem? (i := 109) (by decide +kernel)) (by decide +kernel)
set_option maxRecDepth 20000 in
theorem mm_110 : Cond.superclass "TilePyramid$SeamFinder" "java/lang/Object" ∈ tbg := in_tables_1_1 (List.mem_of_getElem? (i := 110) (by decide +kernel)) (by decide +kernel)
set_option maxRecDepth 20000 in
theorem mm_111 : Cond.classLink RZQ 55 RZT ∈ tbg := in_tables_1_1 (List.mem_of_getElem? (i := 111) (by decide +kernel)) (by decide +kernel)
set_option maxRecDepth 20000 in
theorem mm_112 : Cond.instantiable RZT 3 ∈ tbg := in_tables_1_1 (List.mem_of_getElem? (i := 112) (by decide +kernel)) (by decide +kernel)
set_option maxRecDepth 20000 in
theorem mm_114 : Cond.instanceMethod yZT_init ∈ tbg := in_tables_1_1 (List.mem_of_getElem? (i := 114) (by decide +kernel)) (by decide +kernel)
set_option maxRecDepth 20000 in
theorem mm_115 : Cond.code yZT_init cZT_init 1 none ∈ tbg := in_tables_1_1 (List.mem_of_getElem? (i := 115) rfl) rfl
set_option maxRecDepth 20000 in
theorem mm_116 : Cond.methodLink RZT 3 objectInit ∈ tbg := in_tables_1_1 (List.mem_of_getElem? (i := 116) (by decide +kernel)) (by decide +kernel)
set_option maxRecDepth 20000 in
theorem mm_117 : Cond.fieldLink RZT 9 "TilePyramid$Tile" "samples" "[I" ∈ tbg := in_tables_1_1 (List.mem_of_getElem? (i := 117) (by decide +kernel)) (by decide +kernel)
set_option maxRecDepth 20000 in
theorem mm_118 : Cond.fieldLink RZQ 192 "TilePyramid$Tile" "samples" "[I" ∈ tbg := in_tables_1_1 (List.mem_of_getElem? (i := 118) (by decide +kernel)) (by decide +kernel)
set_option maxRecDepth 20000 in
theorem mm_119 : Cond.fieldLink RZT 15 "TilePyramid$Tile" "columns" "I" ∈ tbg := in_tables_1_1 (List.mem_of_getElem? (i := 119) (by decide +kernel)) (by decide +kernel)
set_option maxRecDepth 20000 in
theorem mm_120 : Cond.fieldLink RZK 15 "TilePyramid$Tile" "columns" "I" ∈ tbg := in_tables_1_1 (List.mem_of_getElem? (i := 120) (by decide +kernel)) (by decide +kernel)
set_option maxRecDepth 20000 in
theorem mm_121 : Cond.fieldLink RZO 42 "TilePyramid$Tile" "columns" "I" ∈ tbg := in_tables_1_1 (List.mem_of_getElem? (i := 121) (by decide +kernel)) (by decide +kernel)
set_option maxRecDepth 20000 in
theorem mm_122 : Cond.fieldLink RZY 91 "TilePyramid$Tile" "columns" "I" ∈ tbg := in_tables_1_1 (List.mem_of_getElem? (i := 122) (by decide +kernel)) (by decide +kernel)
set_option maxRecDepth 20000 in
theorem mm_123 : Cond.fieldLink RZQ 197 "TilePyramid$Tile" "columns" "I" ∈ tbg := in_tables_1_1 (List.mem_of_getElem? (i := 123) (by decide +kernel)) (by decide +kernel)
set_option maxRecDepth 20000 in
theorem mm_124 : Cond.fieldLink RZT 19 "TilePyramid$Tile" "rows" "I" ∈ tbg := in_tables_1_1 (List.mem_of_getElem? (i := 124) (by decide +kernel)) (by decide +kernel)
set_option maxRecDepth 20000 in
theorem mm_125 : Cond.fieldLink RZK 24 "TilePyramid$Tile" "rows" "I" ∈ tbg := in_tables_1_1 (List.mem_of_getElem? (i := 125) (by decide +kernel)) (by decide +kernel)
set_option maxRecDepth 20000 in
theorem mm_126 : Cond.fieldLink RZO 35 "TilePyramid$Tile" "rows" "I" ∈ tbg := in_tables_1_1 (List.mem_of_getElem? (i := 126) (by decide +kernel)) (by decide +kernel)
set_option maxRecDepth 20000 in
theorem mm_127 : Cond.fieldLink RZY 90 "TilePyramid$Tile" "rows" "I" ∈ tbg := in_tables_1_1 (List.mem_of_getElem? (i := 127) (by decide +kernel)) (by decide +kernel)
set_option maxRecDepth 20000 in
theorem mm_128 : Cond.fieldLink RZQ 201 "TilePyramid$Tile" "rows" "I" ∈ tbg := in_tables_1_1 (List.mem_of_getElem? (i := 128) (by decide +kernel)) (by decide +kernel)
set_option maxRecDepth 20000 in
theorem mm_129 : Cond.laysFinal "TilePyramid$Tile" "TilePyramid$Tile" "samples" "[I" ∈ tbg := in_tables_1_1 (List.mem_of_getElem? (i := 129) (by decide +kernel)) (by decide +kernel)
set_option maxRecDepth 20000 in
theorem mm_130 : Cond.soleField "TilePyramid$Tile" "samples" ∈ tbg := in_tables_1_1 (List.mem_of_getElem? (i := 130) (by decide +kernel)) (by decide +kernel)
set_option maxRecDepth 20000 in
theorem mm_131 : Cond.lays "TilePyramid$Tile" "TilePyramid$Tile" "columns" "I" ∈ tbg := in_tables_1_1 (List.mem_of_getElem? (i := 131) (by decide +kernel)) (by decide +kernel)
set_option maxRecDepth 20000 in
theorem mm_132 : Cond.soleField "TilePyramid$Tile" "columns" ∈ tbg := in_tables_1_1 (List.mem_of_getElem? (i := 132) (by decide +kernel)) (by decide +kernel)
set_option maxRecDepth 20000 in
theorem mm_133 : Cond.lays "TilePyramid$Tile" "TilePyramid$Tile" "rows" "I" ∈ tbg := in_tables_1_1 (List.mem_of_getElem? (i := 133) (by decide +kernel)) (by decide +kernel)
set_option maxRecDepth 20000 in
theorem mm_134 : Cond.soleField "TilePyramid$Tile" "rows" ∈ tbg := in_tables_1_1 (List.mem_of_getElem? (i := 134) (by decide +kernel)) (by decide +kernel)
set_option maxRecDepth 20000 in
theorem mm_135 : Cond.superclass "TilePyramid$Tile" "java/lang/Object" ∈ tbg := in_tables_1_1 (List.mem_of_getElem? (i := 135) (by decide +kernel)) (by decide +kernel)
set_option maxRecDepth 20000 in
theorem mm_136 : Cond.fieldLink RZQ 23 "TilePyramid" "picture" "LTilePyramid$Picture;" ∈ tbg := in_tables_1_1 (List.mem_of_getElem? (i := 136) (by decide +kernel)) (by decide +kernel)
set_option maxRecDepth 20000 in
theorem mm_137 : Cond.fieldLink RZQ 27 "TilePyramid" "overlay" "LTilePyramid$Picture;" ∈ tbg := in_tables_1_1 (List.mem_of_getElem? (i := 137) (by decide +kernel)) (by decide +kernel)
set_option maxRecDepth 20000 in
theorem mm_138 : Cond.fieldLink RZQ 35 "TilePyramid" "pyramid" "LTilePyramid$Pyramid;" ∈ tbg := in_tables_1_1 (List.mem_of_getElem? (i := 138) (by decide +kernel)) (by decide +kernel)
set_option maxRecDepth 20000 in
theorem mm_139 : Cond.fieldLink RZQ 42 "TilePyramid" "buffer" "LTilePyramid$ByteRow;" ∈ tbg := in_tables_1_1 (List.mem_of_getElem? (i := 139) (by decide +kernel)) (by decide +kernel)
set_option maxRecDepth 20000 in
theorem mm_140 : Cond.fieldLink RZQ 51 "TilePyramid" "seamFinder" "LTilePyramid$SeamFinder;" ∈ tbg := in_tables_1_1 (List.mem_of_getElem? (i := 140) (by decide +kernel)) (by decide +kernel)
set_option maxRecDepth 20000 in
theorem mm_141 : Cond.fieldLink RZQ 58 "TilePyramid" "latestTile" "LTilePyramid$Tile;" ∈ tbg := in_tables_1_1 (List.mem_of_getElem? (i := 141) (by decide +kernel)) (by decide +kernel)
set_option maxRecDepth 20000 in
theorem mm_142 : Cond.fieldLink RZQ 62 "TilePyramid" "workTile" "LTilePyramid$Tile;" ∈ tbg := in_tables_1_1 (List.mem_of_getElem? (i := 142) (by decide +kernel)) (by decide +kernel)
set_option maxRecDepth 20000 in
theorem mm_143 : Cond.laysFinal "TilePyramid" "TilePyramid" "picture" "LTilePyramid$Picture;" ∈ tbg := in_tables_1_1 (List.mem_of_getElem? (i := 143) (by decide +kernel)) (by decide +kernel)
set_option maxRecDepth 20000 in
theorem mm_144 : Cond.soleField "TilePyramid" "picture" ∈ tbg := in_tables_1_1 (List.mem_of_getElem? (i := 144) (by decide +kernel)) (by decide +kernel)
set_option maxRecDepth 20000 in
theorem mm_145 : Cond.laysFinal "TilePyramid" "TilePyramid" "overlay" "LTilePyramid$Picture;" ∈ tbg := in_tables_1_1 (List.mem_of_getElem? (i := 145) (by decide +kernel)) (by decide +kernel)
set_option maxRecDepth 20000 in
theorem mm_146 : Cond.soleField "TilePyramid" "overlay" ∈ tbg := in_tables_1_1 (List.mem_of_getElem? (i := 146) (by decide +kernel)) (by decide +kernel)
set_option maxRecDepth 20000 in
theorem mm_147 : Cond.laysFinal "TilePyramid" "TilePyramid" "pyramid" "LTilePyramid$Pyramid;" ∈ tbg := in_tables_1_1 (List.mem_of_getElem? (i := 147) (by decide +kernel)) (by decide +kernel)
set_option maxRecDepth 20000 in
theorem mm_148 : Cond.soleField "TilePyramid" "pyramid" ∈ tbg := in_tables_1_1 (List.mem_of_getElem? (i := 148) (by decide +kernel)) (by decide +kernel)
set_option maxRecDepth 20000 in
theorem mm_149 : Cond.laysFinal "TilePyramid" "TilePyramid" "buffer" "LTilePyramid$ByteRow;" ∈ tbg := in_tables_1_1 (List.mem_of_getElem? (i := 149) (by decide +kernel)) (by decide +kernel)
set_option maxRecDepth 20000 in
theorem mm_150 : Cond.soleField "TilePyramid" "buffer" ∈ tbg := in_tables_1_1 (List.mem_of_getElem? (i := 150) (by decide +kernel)) (by decide +kernel)
set_option maxRecDepth 20000 in
theorem mm_151 : Cond.laysFinal "TilePyramid" "TilePyramid" "seamFinder" "LTilePyramid$SeamFinder;" ∈ tbg := in_tables_1_1 (List.mem_of_getElem? (i := 151) (by decide +kernel)) (by decide +kernel)
set_option maxRecDepth 20000 in
theorem mm_152 : Cond.soleField "TilePyramid" "seamFinder" ∈ tbg := in_tables_1_1 (List.mem_of_getElem? (i := 152) (by decide +kernel)) (by decide +kernel)
set_option maxRecDepth 20000 in
theorem mm_153 : Cond.lays "TilePyramid" "TilePyramid" "latestTile" "LTilePyramid$Tile;" ∈ tbg := in_tables_1_1 (List.mem_of_getElem? (i := 153) (by decide +kernel)) (by decide +kernel)
set_option maxRecDepth 20000 in
theorem mm_154 : Cond.soleField "TilePyramid" "latestTile" ∈ tbg := in_tables_1_1 (List.mem_of_getElem? (i := 154) (by decide +kernel)) (by decide +kernel)
set_option maxRecDepth 20000 in
theorem mm_155 : Cond.lays "TilePyramid" "TilePyramid" "workTile" "LTilePyramid$Tile;" ∈ tbg := in_tables_1_1 (List.mem_of_getElem? (i := 155) (by decide +kernel)) (by decide +kernel)
set_option maxRecDepth 20000 in
theorem mm_156 : Cond.soleField "TilePyramid" "workTile" ∈ tbg := in_tables_1_1 (List.mem_of_getElem? (i := 156) (by decide +kernel)) (by decide +kernel)
set_option maxRecDepth 20000 in
theorem mm_157 : Cond.superclass "TilePyramid" "java/lang/Object" ∈ tbg := in_tables_1_1 (List.mem_of_getElem? (i := 157) (by decide +kernel)) (by decide +kernel)
set_option maxRecDepth 20000 in
theorem mm_158 : Cond.methodLink RZL 93 yZQ_levels ∈ tbg := in_tables_1_1 (List.mem_of_getElem? (i := 158) (by decide +kernel)) (by decide +kernel)
set_option maxRecDepth 20000 in
theorem mm_159 : Cond.instanceMethod yZQ_levels ∈ tbg := in_tables_1_1 (List.mem_of_getElem? (i := 159) (by decide +kernel)) (by decide +kernel)
set_option maxRecDepth 20000 in
theorem mm_160 : Cond.selects RZQ yZQ_levels yZQ_levels ∈ tbg := in_tables_1_1 (List.mem_of_getElem? (i := 160) (by decide +kernel)) (by decide +kernel)
set_option maxRecDepth 20000 in
theorem mm_161 : Cond.code yZQ_levels cZQ_levels 1 (some .int) ∈ tbg := in_tables_1_1 (List.mem_of_getElem? (i := 161) rfl) rfl
set_option maxRecDepth 20000 in
theorem mm_162 : Cond.methodLink RZL 121 yZQ_clear ∈ tbg := in_tables_1_1 (List.mem_of_getElem? (i := 162) (by decide +kernel)) (by decide +kernel)
set_option maxRecDepth 20000 in
theorem mm_163 : Cond.instanceMethod yZQ_clear ∈ tbg := in_tables_1_1 (List.mem_of_getElem? (i := 163) (by decide +kernel)) (by decide +kernel)
set_option maxRecDepth 20000 in
theorem mm_164 : Cond.selects RZQ yZQ_clear yZQ_clear ∈ tbg := in_tables_1_1 (List.mem_of_getElem? (i := 164) (by decide +kernel)) (by decide +kernel)
set_option maxRecDepth 20000 in
theorem mm_165 : Cond.code yZQ_clear cZQ_clear 2 (some .int) ∈ tbg := in_tables_1_1 (List.mem_of_getElem? (i := 165) rfl) rfl
set_option maxRecDepth 20000 in
theorem mm_166 : Cond.methodLink RZL 131 yZQ_open ∈ tbg := in_tables_1_1 (List.mem_of_getElem? (i := 166) (by decide +kernel)) (by decide +kernel)
set_option maxRecDepth 20000 in
theorem mm_167 : Cond.instanceMethod yZQ_open ∈ tbg := in_tables_1_1 (List.mem_of_getElem? (i := 167) (by decide +kernel)) (by decide +kernel)
set_option maxRecDepth 20000 in
theorem mm_168 : Cond.selects RZQ yZQ_open yZQ_open ∈ tbg := in_tables_1_1 (List.mem_of_getElem? (i := 168) (by decide +kernel)) (by decide +kernel)
set_option maxRecDepth 20000 in
theorem mm_169 : Cond.code yZQ_open cZQ_open 2 (some .int) ∈ tbg := in_tables_1_1 (List.mem_of_getElem? (i := 169) rfl) rfl
set_option maxRecDepth 20000 in
theorem mm_170 : Cond.methodLink RZQ 178 yZO_isSumRight ∈ tbg := in_tables_1_1 (List.mem_of_getElem? (i := 170) (by decide +kernel)) (by decide +kernel)
set_option maxRecDepth 20000 in
theorem mm_171 : Cond.static yZO_isSumRight ∈ tbg := in_tables_1_1 (List.mem_of_getElem? (i := 171) (by decide +kernel)) (by decide +kernel)
set_option maxRecDepth 20000 in
theorem mm_172 : Cond.code yZO_isSumRight cZO_isSumRight 2 (some .boolean) ∈ tbg := in_tables_1_1 (List.mem_of_getElem? (i := 172) rfl) rfl
set_option maxRecDepth 20000 in
theorem mm_173 : Cond.methodLink RZO 15 yZB_sumOfFirst ∈ tbg := in_tables_1_1 (List.mem_of_getElem? (i := 173) (by decide +kernel)) (by decide +kernel)
set_option maxRecDepth 20000 in
theorem mm_174 : Cond.instanceMethod yZB_sumOfFirst ∈ tbg := in_tables_1_1 (List.mem_of_getElem? (i := 174) (by decide +kernel)) (by decide +kernel)
set_option maxRecDepth 20000 in
theorem mm_175 : Cond.selects RZB yZB_sumOfFirst yZB_sumOfFirst ∈ tbg := in_tables_1_1 (List.mem_of_getElem? (i := 175) (by decide +kernel)) (by decide +kernel)
set_option maxRecDepth 20000 in
theorem mm_176 : Cond.code yZB_sumOfFirst cZB_sumOfFirst 4 (some .int) ∈ tbg := in_tables_1_1 (List.mem_of_getElem? (i := 176) rfl) rfl
set_option maxRecDepth 20000 in
theorem mm_177 : Cond.constant RZB 23 65521 ∈ tbg := in_tables_1_1 (List.mem_of_getElem? (i := 177) (by decide +kernel)) (by decide +kernel)
set_option maxRecDepth 20000 in
theorem mm_178 : Cond.methodLink RZQ 184 yZO_openTile ∈ tbg := in_tables_1_1 (List.mem_of_getElem? (i := 178) (by decide +kernel)) (by decide +kernel)
set_option maxRecDepth 20000 in
theorem mm_179 : Cond.static yZO_openTile ∈ tbg := in_tables_1_1 (List.mem_of_getElem? (i := 179) (by decide +kernel)) (by decide +kernel)
set_option maxRecDepth 20000 in
theorem mm_180 : Cond.code yZO_openTile cZO_openTile 5 (some .boolean) ∈ tbg := in_tables_1_1 (List.mem_of_getElem? (i := 180) rfl) rfl
set_option maxRecDepth 20000 in
theorem mm_181 : Cond.methodLink RZO 23 yZO_isSide ∈ tbg := in_tables_1_1 (List.mem_of_getElem? (i := 181) (by decide +kernel)) (by decide +kernel)
set_option maxRecDepth 20000 in
theorem mm_182 : Cond.static yZO_isSide ∈ tbg := in_tables_1_1 (List.mem_of_getElem? (i := 182) (by decide +kernel)) (by decide +kernel)
set_option maxRecDepth 20000 in
theorem mm_183 : Cond.code yZO_isSide cZO_isSide 1 (some .boolean) ∈ tbg := in_tables_1_1 (List.mem_of_getElem? (i := 183) rfl) rfl
set_option maxRecDepth 20000 in
theorem mm_184 : Cond.methodLink RZO 29 yZT_setSize ∈ tbg := in_tables_1_1 (List.mem_of_getElem? (i := 184) (by decide +kernel)) (by decide +kernel)
set_option maxRecDepth 20000 in
theorem mm_185 : Cond.instanceMethod yZT_setSize ∈ tbg := in_tables_1_1 (List.mem_of_getElem? (i := 185) (by decide +kernel)) (by decide +kernel)
set_option maxRecDepth 20000 in
theorem mm_186 : Cond.selects RZT yZT_setSize yZT_setSize ∈ tbg := in_tables_1_1 (List.mem_of_getElem? (i := 186) (by decide +kernel)) (by decide +kernel)
set_option maxRecDepth 20000 in
theorem mm_187 : Cond.code yZT_setSize cZT_setSize 3 none ∈ tbg := in_tables_1_1 (List.mem_of_getElem? (i := 187) rfl) rfl
set_option maxRecDepth 20000 in
theorem mm_188 : Cond.methodLink RZO 38 yZO_openRow ∈ tbg := in_tables_1_1 (List.mem_of_getElem? (i := 188) (by decide +kernel)) (by decide +kernel)
set_option maxRecDepth 20000 in
theorem mm_189 : Cond.static yZO_openRow ∈ tbg := in_tables_1_1 (List.mem_of_getElem? (i := 189) (by decide +kernel)) (by decide +kernel)
set_option maxRecDepth 20000 in
theorem mm_190 : Cond.code yZO_openRow cZO_openRow 13 (some .int) ∈ tbg := in_tables_1_1 (List.mem_of_getElem? (i := 190) rfl) rfl
set_option maxRecDepth 20000 in
theorem mm_191 : Cond.methodLink RZO 45 yZB_bitsFrom ∈ tbg := in_tables_1_1 (List.mem_of_getElem? (i := 191) (by decide +kernel)) (by decide +kernel)
set_option maxRecDepth 20000 in
theorem mm_192 : Cond.instanceMethod yZB_bitsFrom ∈ tbg := in_tables_1_1 (List.mem_of_getElem? (i := 192) (by decide +kernel)) (by decide +kernel)
set_option maxRecDepth 20000 in
theorem mm_193 : Cond.selects RZB yZB_bitsFrom yZB_bitsFrom ∈ tbg := in_tables_1_1 (List.mem_of_getElem? (i := 193) (by decide +kernel)) (by decide +kernel)
set_option maxRecDepth 20000 in
theorem mm_194 : Cond.code yZB_bitsFrom cZB_bitsFrom 6 (some .int) ∈ tbg := in_tables_1_1 (List.mem_of_getElem? (i := 194) rfl) rfl
set_option maxRecDepth 20000 in
theorem mm_195 : Cond.methodLink RZO 49 yZT_formerSample ∈ tbg := in_tables_1_1 (List.mem_of_getElem? (i := 195) (by decide +kernel)) (by decide +kernel)
set_option maxRecDepth 20000 in
theorem mm_196 : Cond.instanceMethod yZT_formerSample ∈ tbg := in_tables_1_1 (List.mem_of_getElem? (i := 196) (by decide +kernel)) (by decide +kernel)
set_option maxRecDepth 20000 in
theorem mm_197 : Cond.selects RZT yZT_formerSample yZT_formerSample ∈ tbg := in_tables_1_1 (List.mem_of_getElem? (i := 197) (by decide +kernel)) (by decide +kernel)
set_option maxRecDepth 20000 in
theorem mm_198 : Cond.code yZT_formerSample cZT_formerSample 3 (some .int) ∈ tbg := in_tables_1_1 (List.mem_of_getElem? (i := 198) rfl) rfl
set_option maxRecDepth 20000 in
theorem mm_199 : Cond.methodLink RZT 22 yZT_sampleAt ∈ tbg := in_tables_1_1 (List.mem_of_getElem? (i := 199) (by decide +kernel)) (by decide +kernel)
set_option maxRecDepth 20000 in
theorem mm_200 : Cond.instanceMethod yZT_sampleAt ∈ tbg := in_tables_1_1 (List.mem_of_getElem? (i := 200) (by decide +kernel)) (by decide +kernel)
set_option maxRecDepth 20000 in
theorem mm_201 : Cond.selects RZT yZT_sampleAt yZT_sampleAt ∈ tbg := in_tables_1_1 (List.mem_of_getElem? (i := 201) (by decide +kernel)) (by decide +kernel)
set_option maxRecDepth 20000 in
theorem mm_202 : Cond.code yZT_sampleAt cZT_sampleAt 3 (some .int) ∈ tbg := in_tables_1_1 (List.mem_of_getElem? (i := 202) rfl) rfl
set_option maxRecDepth 20000 in
theorem mm_203 : Cond.methodLink RZO 52 yZO_differenceOf ∈ tbg := in_tables_1_1 (List.mem_of_getElem? (i := 203) (by decide +kernel)) (by decide +kernel)
set_option maxRecDepth 20000 in
theorem mm_204 : Cond.static yZO_differenceOf ∈ tbg := in_tables_1_1 (List.mem_of_getElem? (i := 204) (by decide +kernel)) (by decide +kernel)
set_option maxRecDepth 20000 in
theorem mm_205 : Cond.code yZO_differenceOf cZO_differenceOf 1 (some .int) ∈ tbg := in_tables_1_1 (List.mem_of_getElem? (i := 205) rfl) rfl
set_option maxRecDepth 20000 in
theorem mm_207 : Cond.static yZQ_isSample ∈ tbg := in_tables_1_1 (List.mem_of_getElem? (i := 207) (by decide +kernel)) (by decide +kernel)
set_option maxRecDepth 20000 in
theorem mm_208 : Cond.code yZQ_isSample cZQ_isSample 1 (some .boolean) ∈ tbg := in_tables_1_1 (List.mem_of_getElem? (i := 208) rfl) rfl
set_option maxRecDepth 20000 in
theorem mm_209 : Cond.methodLink RZO 58 yZT_setSample ∈ tbg := in_tables_1_1 (List.mem_of_getElem? (i := 209) (by decide +kernel)) (by decide +kernel)
set_option maxRecDepth 20000 in
theorem mm_210 : Cond.instanceMethod yZT_setSample ∈ tbg := in_tables_1_1 (List.mem_of_getElem? (i := 210) (by decide +kernel)) (by decide +kernel)
set_option maxRecDepth 20000 in
theorem mm_211 : Cond.selects RZT yZT_setSample yZT_setSample ∈ tbg := in_tables_1_1 (List.mem_of_getElem? (i := 211) (by decide +kernel)) (by decide +kernel)
set_option maxRecDepth 20000 in
theorem mm_212 : Cond.code yZT_setSample cZT_setSample 4 none ∈ tbg := in_tables_1_1 (List.mem_of_getElem? (i := 212) rfl) rfl
set_option maxRecDepth 20000 in
theorem mm_213 : Cond.methodLink RZO 62 yZJ_max ∈ tbg := in_tables_1_1 (List.mem_of_getElem? (i := 213) (by decide +kernel)) (by decide +kernel)
set_option maxRecDepth 20000 in
theorem mm_215 : Cond.static yZQ_bitsNeeded ∈ tbg := in_tables_1_1 (List.mem_of_getElem? (i := 215) (by decide +kernel)) (by decide +kernel)
set_option maxRecDepth 20000 in
theorem mm_216 : Cond.code yZQ_bitsNeeded cZQ_bitsNeeded 2 (some .int) ∈ tbg := in_tables_1_1 (List.mem_of_getElem? (i := 216) rfl) rfl
set_option maxRecDepth 20000 in
theorem mm_217 : Cond.methodLink RZQ 188 yZT_sampleCount ∈ tbg := in_tables_1_1 (List.mem_of_getElem? (i := 217) (by decide +kernel)) (by decide +kernel)
set_option maxRecDepth 20000 in
theorem mm_218 : Cond.instanceMethod yZT_sampleCount ∈ tbg := in_tables_1_1 (List.mem_of_getElem? (i := 218) (by decide +kernel)) (by decide +kernel)
set_option maxRecDepth 20000 in
theorem mm_219 : Cond.selects RZT yZT_sampleCount yZT_sampleCount ∈ tbg := in_tables_1_1 (List.mem_of_getElem? (i := 219) (by decide +kernel)) (by decide +kernel)
set_option maxRecDepth 20000 in
theorem mm_220 : Cond.code yZT_sampleCount cZT_sampleCount 1 (some .int) ∈ tbg := in_tables_1_1 (List.mem_of_getElem? (i := 220) rfl) rfl
set_option maxRecDepth 20000 in
theorem mm_221 : Cond.methodLink RZL 69 yZL_cell ∈ tbg := in_tables_1_1 (List.mem_of_getElem? (i := 221) (by decide +kernel)) (by decide +kernel)
set_option maxRecDepth 20000 in
theorem mm_222 : Cond.static yZL_cell ∈ tbg := in_tables_1_1 (List.mem_of_getElem? (i := 222) (by decide +kernel)) (by decide +kernel)
set_option maxRecDepth 20000 in
theorem mm_223 : Cond.code yZL_cell cZL_cell 2 (some .int) ∈ tbg := in_tables_1_1 (List.mem_of_getElem? (i := 223) rfl) rfl
set_option maxRecDepth 20000 in
theorem mm_224 : Cond.methodLink RZL 81 yZL_put ∈ tbg := in_tables_1_1 (List.mem_of_getElem? (i := 224) (by decide +kernel)) (by decide +kernel)
set_option maxRecDepth 20000 in
theorem mm_225 : Cond.static yZL_put ∈ tbg := in_tables_1_1 (List.mem_of_getElem? (i := 225) (by decide +kernel)) (by decide +kernel)
set_option maxRecDepth 20000 in
theorem mm_226 : Cond.codeWith yZL_put cZL_put 6 (some .int) [(0, 12, 15, 13), (0, 12, 19, 15)] ∈ tbg := in_tables_1_1 (List.mem_of_getElem? (i := 226) rfl) rfl
set_option maxRecDepth 20000 in
theorem mm_227 : Cond.classLink RZL 13 "java/lang/IndexOutOfBoundsException" ∈ tbg := in_tables_1_1 (List.mem_of_getElem? (i := 227) (by decide +kernel)) (by decide +kernel)
set_option maxRecDepth 20000 in
theorem mm_228 : Cond.classLink RZL 15 "java/lang/IllegalArgumentException" ∈ tbg := in_tables_1_1 (List.mem_of_getElem? (i := 228) (by decide +kernel)) (by decide +kernel)
set_option maxRecDepth 20000 in
theorem mm_229 : Cond.methodLink RZL 7 yZQ_put ∈ tbg := in_tables_1_1 (List.mem_of_getElem? (i := 229) (by decide +kernel)) (by decide +kernel)
set_option maxRecDepth 20000 in
theorem mm_230 : Cond.instanceMethod yZQ_put ∈ tbg := in_tables_1_1 (List.mem_of_getElem? (i := 230) (by decide +kernel)) (by decide +kernel)
set_option maxRecDepth 20000 in
theorem mm_231 : Cond.selects RZQ yZQ_put yZQ_put ∈ tbg := in_tables_1_1 (List.mem_of_getElem? (i := 231) (by decide +kernel)) (by decide +kernel)
set_option maxRecDepth 20000 in
theorem mm_232 : Cond.code yZQ_put cZQ_put 4 (some .int) ∈ tbg := in_tables_1_1 (List.mem_of_getElem? (i := 232) rfl) rfl
set_option maxRecDepth 20000 in
theorem mm_233 : Cond.methodLink RZQ 65 yZQ_replaceSample ∈ tbg := in_tables_1_1 (List.mem_of_getElem? (i := 233) (by decide +kernel)) (by decide +kernel)
set_option maxRecDepth 20000 in
theorem mm_234 : Cond.static yZQ_replaceSample ∈ tbg := in_tables_1_1 (List.mem_of_getElem? (i := 234) (by decide +kernel)) (by decide +kernel)
set_option maxRecDepth 20000 in
theorem mm_235 : Cond.code yZQ_replaceSample cZQ_replaceSample 5 (some .int) ∈ tbg := in_tables_1_1 (List.mem_of_getElem? (i := 235) rfl) rfl
set_option maxRecDepth 20000 in
theorem mm_236 : Cond.methodLink RZQ 97 yZQ_isWithin ∈ tbg := in_tables_1_1 (List.mem_of_getElem? (i := 236) (by decide +kernel)) (by decide +kernel)
set_option maxRecDepth 20000 in
theorem mm_237 : Cond.static yZQ_isWithin ∈ tbg := in_tables_1_1 (List.mem_of_getElem? (i := 237) (by decide +kernel)) (by decide +kernel)
set_option maxRecDepth 20000 in
theorem mm_238 : Cond.code yZQ_isWithin cZQ_isWithin 2 (some .boolean) ∈ tbg := in_tables_1_1 (List.mem_of_getElem? (i := 238) rfl) rfl
set_option maxRecDepth 20000 in
theorem mm_239 : Cond.methodLink RZQ 73 yZQ_requirePlace ∈ tbg := in_tables_1_1 (List.mem_of_getElem? (i := 239) (by decide +kernel)) (by decide +kernel)
set_option maxRecDepth 20000 in
theorem mm_240 : Cond.static yZQ_requirePlace ∈ tbg := in_tables_1_2 (List.mem_of_getElem? (i := 0) (by decide +kernel)) (by decide +kernel)
set_option maxRecDepth 20000 in
theorem mm_241 : Cond.code yZQ_requirePlace cZQ_requirePlace 1 none ∈ tbg := in_tables_1_2 (List.mem_of_getElem? (i := 1) rfl) rfl
set_option maxRecDepth 20000 in
theorem mm_242 : Cond.classLink RZQ 225 "java/lang/IndexOutOfBoundsException" ∈ tbg := in_tables_1_2 (List.mem_of_getElem? (i := 2) (by decide +kernel)) (by decide +kernel)
set_option maxRecDepth 20000 in
theorem mm_243 : Cond.instantiable "java/lang/IndexOutOfBoundsException" 6 ∈ tbg := in_tables_1_2 (List.mem_of_getElem? (i := 3) (by decide +kernel)) (by decide +kernel)
set_option maxRecDepth 20000 in
theorem mm_251 : Cond.selects "java/lang/IndexOutOfBoundsException" ⟨"java/lang/Throwable", "fillInStackTrace", "(I)Ljava/lang/Throwable;"⟩ ⟨"java/lang/Throwable", "fillInStackTrace", "(I)Ljava/lang/Throwable;"⟩ ∈ tbg := in_tables_1_2 (List.mem_of_getElem? (i := 11) (by decide +kernel)) (by decide +kernel)
set_option maxRecDepth 20000 in
theorem mm_252 : Cond.selects "java/lang/IndexOutOfBoundsException" ⟨"java/lang/Throwable", "fillInStackTrace", "()Ljava/lang/Throwable;"⟩ ⟨"java/lang/Throwable", "fillInStackTrace", "()Ljava/lang/Throwable;"⟩ ∈ tbg := in_tables_1_2 (List.mem_of_getElem? (i := 12) (by decide +kernel)) (by decide +kernel)
set_option maxRecDepth 20000 in
theorem mm_253 : Cond.lays "java/lang/IndexOutOfBoundsException" "java/lang/Throwable" "cause" "Ljava/lang/Throwable;" ∈ tbg := in_tables_1_2 (List.mem_of_getElem? (i := 13) (by decide +kernel)) (by decide +kernel)
set_option maxRecDepth 20000 in
theorem mm_254 : Cond.lays "java/lang/Throwable" "java/lang/Throwable" "cause" "Ljava/lang/Throwable;" ∈ tbg := in_tables_1_2 (List.mem_of_getElem? (i := 14) (by decide +kernel)) (by decide +kernel)
set_option maxRecDepth 20000 in
theorem mm_255 : Cond.lays "java/lang/IndexOutOfBoundsException" "java/lang/Throwable" "stackTrace" "[Ljava/lang/StackTraceElement;" ∈ tbg := in_tables_1_2 (List.mem_of_getElem? (i := 15) (by decide +kernel)) (by decide +kernel)
set_option maxRecDepth 20000 in
theorem mm_256 : Cond.lays "java/lang/Throwable" "java/lang/Throwable" "stackTrace" "[Ljava/lang/StackTraceElement;" ∈ tbg := in_tables_1_2 (List.mem_of_getElem? (i := 16) (by decide +kernel)) (by decide +kernel)
set_option maxRecDepth 20000 in
theorem mm_257 : Cond.lays "java/lang/IndexOutOfBoundsException" "java/lang/Throwable" "suppressedExceptions" "Ljava/util/List;" ∈ tbg := in_tables_1_2 (List.mem_of_getElem? (i := 17) (by decide +kernel)) (by decide +kernel)
set_option maxRecDepth 20000 in
theorem mm_258 : Cond.lays "java/lang/Throwable" "java/lang/Throwable" "suppressedExceptions" "Ljava/util/List;" ∈ tbg := in_tables_1_2 (List.mem_of_getElem? (i := 18) (by decide +kernel)) (by decide +kernel)
set_option maxRecDepth 20000 in
theorem mm_259 : Cond.lays "java/lang/IndexOutOfBoundsException" "java/lang/Throwable" "detailMessage" "Ljava/lang/String;" ∈ tbg := in_tables_1_2 (List.mem_of_getElem? (i := 19) (by decide +kernel)) (by decide +kernel)
set_option maxRecDepth 20000 in
theorem mm_260 : Cond.lays "java/lang/Throwable" "java/lang/Throwable" "detailMessage" "Ljava/lang/String;" ∈ tbg := in_tables_1_2 (List.mem_of_getElem? (i := 20) (by decide +kernel)) (by decide +kernel)
set_option maxRecDepth 20000 in
theorem mm_261 : Cond.lays "java/lang/IndexOutOfBoundsException" "java/lang/Throwable" "backtrace" "Ljava/lang/Object;" ∈ tbg := in_tables_1_2 (List.mem_of_getElem? (i := 21) (by decide +kernel)) (by decide +kernel)
set_option maxRecDepth 20000 in
theorem mm_262 : Cond.lays "java/lang/Throwable" "java/lang/Throwable" "backtrace" "Ljava/lang/Object;" ∈ tbg := in_tables_1_2 (List.mem_of_getElem? (i := 22) (by decide +kernel)) (by decide +kernel)
set_option maxRecDepth 20000 in
theorem mm_263 : Cond.fieldLink "java/lang/Throwable" 198 "java/lang/Throwable" "backtrace" "Ljava/lang/Object;" ∈ tbg := in_tables_1_2 (List.mem_of_getElem? (i := 23) (by decide +kernel)) (by decide +kernel)
set_option maxRecDepth 20000 in
theorem mm_264 : Cond.superclass "java/lang/Throwable" "java/lang/Object" ∈ tbg := in_tables_1_2 (List.mem_of_getElem? (i := 24) (by decide +kernel)) (by decide +kernel)
set_option maxRecDepth 20000 in
theorem mm_265 : Cond.instanceMethod ⟨"java/lang/Throwable", "<init>", "()V"⟩ ∈ tbg := in_tables_1_2 (List.mem_of_getElem? (i := 25) (by decide +kernel)) (by decide +kernel)
set_option maxRecDepth 20000 in
theorem mm_266 : Cond.code ⟨"java/lang/Throwable", "<init>", "()V"⟩ prog_18_method_1_code 1 none ∈ tbg := in_tables_1_2 (List.mem_of_getElem? (i := 26) rfl) rfl
set_option maxRecDepth 20000 in
theorem mm_267 : Cond.methodLink "java/lang/Throwable" 1 objectInit ∈ tbg := in_tables_1_2 (List.mem_of_getElem? (i := 27) (by decide +kernel)) (by decide +kernel)
set_option maxRecDepth 20000 in
theorem mm_268 : Cond.fieldLink "java/lang/Throwable" 13 "java/lang/Throwable" "UNASSIGNED_STACK" "[Ljava/lang/StackTraceElement;" ∈ tbg := in_tables_1_2 (List.mem_of_getElem? (i := 28) (by decide +kernel)) (by decide +kernel)
set_option maxRecDepth 20000 in
theorem mm_270 : Cond.fieldLink "java/lang/Throwable" 20 "java/lang/Throwable" "SUPPRESSED_SENTINEL" "Ljava/util/List;" ∈ tbg := in_tables_1_2 (List.mem_of_getElem? (i := 30) (by decide +kernel)) (by decide +kernel)
set_option maxRecDepth 20000 in
theorem mm_272 : Cond.methodLink "java/lang/Throwable" 27 ⟨"java/lang/Throwable", "fillInStackTrace", "()Ljava/lang/Throwable;"⟩ ∈ tbg := in_tables_1_2 (List.mem_of_getElem? (i := 32) (by decide +kernel)) (by decide +kernel)
set_option maxRecDepth 20000 in
theorem mm_273 : Cond.instanceMethod ⟨"java/lang/Throwable", "fillInStackTrace", "()Ljava/lang/Throwable;"⟩ ∈ tbg := in_tables_1_2 (List.mem_of_getElem? (i := 33) (by decide +kernel)) (by decide +kernel)
set_option maxRecDepth 20000 in
theorem mm_274 : Cond.sameMethod "java/lang/Throwable" "java/lang/Throwable" "fillInStackTrace" "()Ljava/lang/Throwable;" ∈ tbg := in_tables_1_2 (List.mem_of_getElem? (i := 34) (by decide +kernel)) (by decide +kernel)
set_option maxRecDepth 20000 in
theorem mm_275 : Cond.selects "java/lang/IllegalArgumentException" ⟨"java/lang/Throwable", "fillInStackTrace", "()Ljava/lang/Throwable;"⟩ ⟨"java/lang/Throwable", "fillInStackTrace", "()Ljava/lang/Throwable;"⟩ ∈ tbg := in_tables_1_2 (List.mem_of_getElem? (i := 35) (by decide +kernel)) (by decide +kernel)
set_option maxRecDepth 20000 in
theorem mm_276 : Cond.selects "java/lang/IllegalStateException" ⟨"java/lang/Throwable", "fillInStackTrace", "()Ljava/lang/Throwable;"⟩ ⟨"java/lang/Throwable", "fillInStackTrace", "()Ljava/lang/Throwable;"⟩ ∈ tbg := in_tables_1_2 (List.mem_of_getElem? (i := 36) (by decide +kernel)) (by decide +kernel)
set_option maxRecDepth 20000 in
theorem mm_277 : Cond.codeSync ⟨"java/lang/Throwable", "fillInStackTrace", "()Ljava/lang/Throwable;"⟩ prog_18_method_18_code 1 (Option.some (Jvm.ClassFile.FieldType.object "java/lang/Throwable")) ∈ tbg := in_tables_1_2 (List.mem_of_getElem? (i := 37) rfl) rfl
set_option maxRecDepth 20000 in
theorem mm_278 : Cond.methodLink "java/lang/Throwable" 202 ⟨"java/lang/Throwable", "fillInStackTrace", "(I)Ljava/lang/Throwable;"⟩ ∈ tbg := in_tables_1_2 (List.mem_of_getElem? (i := 38) (by decide +kernel)) (by decide +kernel)
set_option maxRecDepth 20000 in
theorem mm_280 : Cond.instanceMethod ⟨"java/lang/Throwable", "fillInStackTrace", "(I)Ljava/lang/Throwable;"⟩ ∈ tbg := in_tables_1_2 (List.mem_of_getElem? (i := 40) (by decide +kernel)) (by decide +kernel)
set_option maxRecDepth 20000 in
theorem mm_281 : Cond.instantiable "java/lang/Throwable" 6 ∈ tbg := in_tables_1_2 (List.mem_of_getElem? (i := 41) (by decide +kernel)) (by decide +kernel)
set_option maxRecDepth 20000 in
theorem mm_282 : Cond.native ⟨"java/lang/Throwable", "fillInStackTrace", "(I)Ljava/lang/Throwable;"⟩ ∈ tbg := in_tables_1_2 (List.mem_of_getElem? (i := 42) (by decide +kernel)) (by decide +kernel)
set_option maxRecDepth 20000 in
theorem mm_284 : Cond.methodLink RZQ 229 ⟨"java/lang/IndexOutOfBoundsException", "<init>", "(Ljava/lang/String;)V"⟩ ∈ tbg := in_tables_1_2 (List.mem_of_getElem? (i := 44) (by decide +kernel)) (by decide +kernel)
set_option maxRecDepth 20000 in
theorem mm_285 : Cond.instanceMethod ⟨"java/lang/IndexOutOfBoundsException", "<init>", "(Ljava/lang/String;)V"⟩ ∈ tbg := in_tables_1_2 (List.mem_of_getElem? (i := 45) (by decide +kernel)) (by decide +kernel)
set_option maxRecDepth 20000 in
theorem mm_286 : Cond.code ⟨"java/lang/IndexOutOfBoundsException", "<init>", "(Ljava/lang/String;)V"⟩ prog_14_method_2_code 2 none ∈ tbg := in_tables_1_2 (List.mem_of_getElem? (i := 46) rfl) rfl
set_option maxRecDepth 20000 in
theorem mm_287 : Cond.methodLink "java/lang/IndexOutOfBoundsException" 7 ⟨"java/lang/RuntimeException", "<init>", "(Ljava/lang/String;)V"⟩ ∈ tbg := in_tables_1_2 (List.mem_of_getElem? (i := 47) (by decide +kernel)) (by decide +kernel)
set_option maxRecDepth 20000 in
theorem mm_288 : Cond.instanceMethod ⟨"java/lang/RuntimeException", "<init>", "(Ljava/lang/String;)V"⟩ ∈ tbg := in_tables_1_2 (List.mem_of_getElem? (i := 48) (by decide +kernel)) (by decide +kernel)
set_option maxRecDepth 20000 in
theorem mm_289 : Cond.code ⟨"java/lang/RuntimeException", "<init>", "(Ljava/lang/String;)V"⟩ prog_16_method_2_code 2 none ∈ tbg := in_tables_1_2 (List.mem_of_getElem? (i := 49) rfl) rfl
set_option maxRecDepth 20000 in
theorem mm_290 : Cond.methodLink "java/lang/RuntimeException" 7 ⟨"java/lang/Exception", "<init>", "(Ljava/lang/String;)V"⟩ ∈ tbg := in_tables_1_2 (List.mem_of_getElem? (i := 50) (by decide +kernel)) (by decide +kernel)
set_option maxRecDepth 20000 in
theorem mm_291 : Cond.instanceMethod ⟨"java/lang/Exception", "<init>", "(Ljava/lang/String;)V"⟩ ∈ tbg := in_tables_1_2 (List.mem_of_getElem? (i := 51) (by decide +kernel)) (by decide +kernel)
set_option maxRecDepth 20000 in
theorem mm_292 : Cond.code ⟨"java/lang/Exception", "<init>", "(Ljava/lang/String;)V"⟩ prog_11_method_2_code 2 none ∈ tbg := in_tables_1_2 (List.mem_of_getElem? (i := 52) rfl) rfl
set_option maxRecDepth 20000 in
theorem mm_293 : Cond.methodLink "java/lang/Exception" 7 ⟨"java/lang/Throwable", "<init>", "(Ljava/lang/String;)V"⟩ ∈ tbg := in_tables_1_2 (List.mem_of_getElem? (i := 53) (by decide +kernel)) (by decide +kernel)
set_option maxRecDepth 20000 in
theorem mm_294 : Cond.instanceMethod ⟨"java/lang/Throwable", "<init>", "(Ljava/lang/String;)V"⟩ ∈ tbg := in_tables_1_2 (List.mem_of_getElem? (i := 54) (by decide +kernel)) (by decide +kernel)
set_option maxRecDepth 20000 in
theorem mm_295 : Cond.code ⟨"java/lang/Throwable", "<init>", "(Ljava/lang/String;)V"⟩ prog_18_method_2_code 2 none ∈ tbg := in_tables_1_2 (List.mem_of_getElem? (i := 55) rfl) rfl
set_option maxRecDepth 20000 in
theorem mm_297 : Cond.fieldLink "java/lang/Throwable" 31 "java/lang/Throwable" "detailMessage" "Ljava/lang/String;" ∈ tbg := in_tables_1_2 (List.mem_of_getElem? (i := 57) (by decide +kernel)) (by decide +kernel)
set_option maxRecDepth 20000 in
theorem mm_298 : Cond.fieldLink "java/lang/Throwable" 7 "java/lang/Throwable" "cause" "Ljava/lang/Throwable;" ∈ tbg := in_tables_1_2 (List.mem_of_getElem? (i := 58) (by decide +kernel)) (by decide +kernel)
set_option maxRecDepth 20000 in
theorem mm_299 : Cond.fieldLink "java/lang/Throwable" 17 "java/lang/Throwable" "stackTrace" "[Ljava/lang/StackTraceElement;" ∈ tbg := in_tables_1_2 (List.mem_of_getElem? (i := 59) (by decide +kernel)) (by decide +kernel)
set_option maxRecDepth 20000 in
theorem mm_300 : Cond.fieldLink "java/lang/Throwable" 24 "java/lang/Throwable" "suppressedExceptions" "Ljava/util/List;" ∈ tbg := in_tables_1_2 (List.mem_of_getElem? (i := 60) (by decide +kernel)) (by decide +kernel)
set_option maxRecDepth 20000 in
theorem mm_301 : Cond.soleField "java/lang/Throwable" "backtrace" ∈ tbg := in_tables_1_2 (List.mem_of_getElem? (i := 61) (by decide +kernel)) (by decide +kernel)
set_option maxRecDepth 20000 in
theorem mm_302 : Cond.soleField "java/lang/Throwable" "detailMessage" ∈ tbg := in_tables_1_2 (List.mem_of_getElem? (i := 62) (by decide +kernel)) (by decide +kernel)
set_option maxRecDepth 20000 in
theorem mm_303 : Cond.soleField "java/lang/Throwable" "cause" ∈ tbg := in_tables_1_2 (List.mem_of_getElem? (i := 63) (by decide +kernel)) (by decide +kernel)
set_option maxRecDepth 20000 in
theorem mm_304 : Cond.soleField "java/lang/Throwable" "stackTrace" ∈ tbg := in_tables_1_2 (List.mem_of_getElem? (i := 64) (by decide +kernel)) (by decide +kernel)
set_option maxRecDepth 20000 in
theorem mm_305 : Cond.lays "java/lang/IndexOutOfBoundsException" "java/lang/Throwable" "depth" "I" ∈ tbg := in_tables_1_2 (List.mem_of_getElem? (i := 65) (by decide +kernel)) (by decide +kernel)
set_option maxRecDepth 20000 in
theorem mm_306 : Cond.soleField "java/lang/Throwable" "depth" ∈ tbg := in_tables_1_2 (List.mem_of_getElem? (i := 66) (by decide +kernel)) (by decide +kernel)
set_option maxRecDepth 20000 in
theorem mm_307 : Cond.soleField "java/lang/Throwable" "suppressedExceptions" ∈ tbg := in_tables_1_2 (List.mem_of_getElem? (i := 67) (by decide +kernel)) (by decide +kernel)
set_option maxRecDepth 20000 in
theorem mm_308 : Cond.superclass "java/lang/IndexOutOfBoundsException" "java/lang/RuntimeException" ∈ tbg := in_tables_1_2 (List.mem_of_getElem? (i := 68) (by decide +kernel)) (by decide +kernel)
set_option maxRecDepth 20000 in
theorem mm_309 : Cond.arrayClass .byte ∈ tbg := in_tables_1_2 (List.mem_of_getElem? (i := 69) (by decide +kernel)) (by decide +kernel)
set_option maxRecDepth 20000 in
theorem mm_310 : Cond.methodLink RZQ 77 yZQ_requireSample ∈ tbg := in_tables_1_2 (List.mem_of_getElem? (i := 70) (by decide +kernel)) (by decide +kernel)
set_option maxRecDepth 20000 in
theorem mm_311 : Cond.static yZQ_requireSample ∈ tbg := in_tables_1_2 (List.mem_of_getElem? (i := 71) (by decide +kernel)) (by decide +kernel)
set_option maxRecDepth 20000 in
theorem mm_312 : Cond.code yZQ_requireSample cZQ_requireSample 1 none ∈ tbg := in_tables_1_2 (List.mem_of_getElem? (i := 72) rfl) rfl
set_option maxRecDepth 20000 in
theorem mm_313 : Cond.methodLink RZQ 230 yZQ_isSample ∈ tbg := in_tables_1_2 (List.mem_of_getElem? (i := 73) (by decide +kernel)) (by decide +kernel)
set_option maxRecDepth 20000 in
theorem mm_314 : Cond.classLink RZQ 164 "java/lang/IllegalArgumentException" ∈ tbg := in_tables_1_2 (List.mem_of_getElem? (i := 74) (by decide +kernel)) (by decide +kernel)
set_option maxRecDepth 20000 in
theorem mm_315 : Cond.instantiable "java/lang/IllegalArgumentException" 6 ∈ tbg := in_tables_1_2 (List.mem_of_getElem? (i := 75) (by decide +kernel)) (by decide +kernel)
set_option maxRecDepth 20000 in
theorem mm_317 : Cond.selects "java/lang/IllegalArgumentException" ⟨"java/lang/Throwable", "fillInStackTrace", "(I)Ljava/lang/Throwable;"⟩ ⟨"java/lang/Throwable", "fillInStackTrace", "(I)Ljava/lang/Throwable;"⟩ ∈ tbg := in_tables_1_2 (List.mem_of_getElem? (i := 77) (by decide +kernel)) (by decide +kernel)
set_option maxRecDepth 20000 in
theorem mm_318 : Cond.lays "java/lang/IllegalArgumentException" "java/lang/Throwable" "cause" "Ljava/lang/Throwable;" ∈ tbg := in_tables_1_2 (List.mem_of_getElem? (i := 78) (by decide +kernel)) (by decide +kernel)
set_option maxRecDepth 20000 in
theorem mm_319 : Cond.lays "java/lang/IllegalArgumentException" "java/lang/Throwable" "stackTrace" "[Ljava/lang/StackTraceElement;" ∈ tbg := in_tables_1_2 (List.mem_of_getElem? (i := 79) (by decide +kernel)) (by decide +kernel)
set_option maxRecDepth 20000 in
theorem mm_320 : Cond.lays "java/lang/IllegalArgumentException" "java/lang/Throwable" "suppressedExceptions" "Ljava/util/List;" ∈ tbg := in_tables_1_2 (List.mem_of_getElem? (i := 80) (by decide +kernel)) (by decide +kernel)
set_option maxRecDepth 20000 in
theorem mm_321 : Cond.lays "java/lang/IllegalArgumentException" "java/lang/Throwable" "detailMessage" "Ljava/lang/String;" ∈ tbg := in_tables_1_2 (List.mem_of_getElem? (i := 81) (by decide +kernel)) (by decide +kernel)
set_option maxRecDepth 20000 in
theorem mm_322 : Cond.lays "java/lang/IllegalArgumentException" "java/lang/Throwable" "backtrace" "Ljava/lang/Object;" ∈ tbg := in_tables_1_2 (List.mem_of_getElem? (i := 82) (by decide +kernel)) (by decide +kernel)
set_option maxRecDepth 20000 in
theorem mm_324 : Cond.methodLink RZQ 168 ⟨"java/lang/IllegalArgumentException", "<init>", "(Ljava/lang/String;)V"⟩ ∈ tbg := in_tables_1_2 (List.mem_of_getElem? (i := 84) (by decide +kernel)) (by decide +kernel)
set_option maxRecDepth 20000 in
theorem mm_325 : Cond.instanceMethod ⟨"java/lang/IllegalArgumentException", "<init>", "(Ljava/lang/String;)V"⟩ ∈ tbg := in_tables_1_2 (List.mem_of_getElem? (i := 85) (by decide +kernel)) (by decide +kernel)
set_option maxRecDepth 20000 in
theorem mm_326 : Cond.code ⟨"java/lang/IllegalArgumentException", "<init>", "(Ljava/lang/String;)V"⟩ prog_12_method_2_code 2 none ∈ tbg := in_tables_1_2 (List.mem_of_getElem? (i := 86) rfl) rfl
set_option maxRecDepth 20000 in
theorem mm_327 : Cond.methodLink "java/lang/IllegalArgumentException" 7 ⟨"java/lang/RuntimeException", "<init>", "(Ljava/lang/String;)V"⟩ ∈ tbg := in_tables_1_2 (List.mem_of_getElem? (i := 87) (by decide +kernel)) (by decide +kernel)
set_option maxRecDepth 20000 in
theorem mm_328 : Cond.lays "java/lang/IllegalArgumentException" "java/lang/Throwable" "depth" "I" ∈ tbg := in_tables_1_2 (List.mem_of_getElem? (i := 88) (by decide +kernel)) (by decide +kernel)
set_option maxRecDepth 20000 in
theorem mm_329 : Cond.superclass "java/lang/IllegalArgumentException" "java/lang/RuntimeException" ∈ tbg := in_tables_1_2 (List.mem_of_getElem? (i := 89) (by decide +kernel)) (by decide +kernel)
set_option maxRecDepth 20000 in
theorem mm_330 : Cond.methodLink RZQ 134 yZP_sampleAt ∈ tbg := in_tables_1_2 (List.mem_of_getElem? (i := 90) (by decide +kernel)) (by decide +kernel)
set_option maxRecDepth 20000 in
theorem mm_331 : Cond.instanceMethod yZP_sampleAt ∈ tbg := in_tables_1_2 (List.mem_of_getElem? (i := 91) (by decide +kernel)) (by decide +kernel)
set_option maxRecDepth 20000 in
theorem mm_332 : Cond.selects RZP yZP_sampleAt yZP_sampleAt ∈ tbg := in_tables_1_2 (List.mem_of_getElem? (i := 92) (by decide +kernel)) (by decide +kernel)
set_option maxRecDepth 20000 in
theorem mm_333 : Cond.code yZP_sampleAt cZP_sampleAt 3 (some .int) ∈ tbg := in_tables_1_2 (List.mem_of_getElem? (i := 93) rfl) rfl
set_option maxRecDepth 20000 in
theorem mm_334 : Cond.methodLink RZQ 221 yZP_setSample ∈ tbg := in_tables_1_2 (List.mem_of_getElem? (i := 94) (by decide +kernel)) (by decide +kernel)
set_option maxRecDepth 20000 in
theorem mm_335 : Cond.instanceMethod yZP_setSample ∈ tbg := in_tables_1_2 (List.mem_of_getElem? (i := 95) (by decide +kernel)) (by decide +kernel)
set_option maxRecDepth 20000 in
theorem mm_336 : Cond.selects RZP yZP_setSample yZP_setSample ∈ tbg := in_tables_1_2 (List.mem_of_getElem? (i := 96) (by decide +kernel)) (by decide +kernel)
set_option maxRecDepth 20000 in
theorem mm_337 : Cond.code yZP_setSample cZP_setSample 4 none ∈ tbg := in_tables_1_2 (List.mem_of_getElem? (i := 97) rfl) rfl
set_option maxRecDepth 20000 in
theorem mm_338 : Cond.methodLink RZL 89 yZL_change ∈ tbg := in_tables_1_2 (List.mem_of_getElem? (i := 98) (by decide +kernel)) (by decide +kernel)
set_option maxRecDepth 20000 in
theorem mm_339 : Cond.static yZL_change ∈ tbg := in_tables_1_2 (List.mem_of_getElem? (i := 99) (by decide +kernel)) (by decide +kernel)
set_option maxRecDepth 20000 in
theorem mm_340 : Cond.codeWith yZL_change cZL_change 8 (some .int) [(0, 16, 19, 13), (0, 16, 23, 15)] ∈ tbg := in_tables_1_2 (List.mem_of_getElem? (i := 100) rfl) rfl
set_option maxRecDepth 20000 in
theorem mm_341 : Cond.methodLink RZL 17 yZQ_change ∈ tbg := in_tables_1_2 (List.mem_of_getElem? (i := 101) (by decide +kernel)) (by decide +kernel)
set_option maxRecDepth 20000 in
theorem mm_342 : Cond.instanceMethod yZQ_change ∈ tbg := in_tables_1_2 (List.mem_of_getElem? (i := 102) (by decide +kernel)) (by decide +kernel)
set_option maxRecDepth 20000 in
theorem mm_343 : Cond.selects RZQ yZQ_change yZQ_change ∈ tbg := in_tables_1_2 (List.mem_of_getElem? (i := 103) (by decide +kernel)) (by decide +kernel)
set_option maxRecDepth 20000 in
theorem mm_344 : Cond.code yZQ_change cZQ_change 6 (some .int) ∈ tbg := in_tables_1_2 (List.mem_of_getElem? (i := 104) rfl) rfl
set_option maxRecDepth 20000 in
theorem mm_345 : Cond.methodLink RZQ 69 yZY_hasPart ∈ tbg := in_tables_1_2 (List.mem_of_getElem? (i := 105) (by decide +kernel)) (by decide +kernel)
set_option maxRecDepth 20000 in
theorem mm_346 : Cond.instanceMethod yZY_hasPart ∈ tbg := in_tables_1_2 (List.mem_of_getElem? (i := 106) (by decide +kernel)) (by decide +kernel)
set_option maxRecDepth 20000 in
theorem mm_347 : Cond.selects RZY yZY_hasPart yZY_hasPart ∈ tbg := in_tables_1_2 (List.mem_of_getElem? (i := 107) (by decide +kernel)) (by decide +kernel)
set_option maxRecDepth 20000 in
theorem mm_348 : Cond.code yZY_hasPart cZY_hasPart 6 (some .boolean) ∈ tbg := in_tables_1_2 (List.mem_of_getElem? (i := 108) rfl) rfl
set_option maxRecDepth 20000 in
theorem mm_349 : Cond.methodLink RZY 48 yZY_hasPlace ∈ tbg := in_tables_1_2 (List.mem_of_getElem? (i := 109) (by decide +kernel)) (by decide +kernel)
set_option maxRecDepth 20000 in
theorem mm_350 : Cond.instanceMethod yZY_hasPlace ∈ tbg := in_tables_1_2 (List.mem_of_getElem? (i := 110) (by decide +kernel)) (by decide +kernel)
set_option maxRecDepth 20000 in
theorem mm_351 : Cond.selects RZY yZY_hasPlace yZY_hasPlace ∈ tbg := in_tables_1_2 (List.mem_of_getElem? (i := 111) (by decide +kernel)) (by decide +kernel)
set_option maxRecDepth 20000 in
theorem mm_352 : Cond.code yZY_hasPlace cZY_hasPlace 4 (some .boolean) ∈ tbg := in_tables_1_2 (List.mem_of_getElem? (i := 112) rfl) rfl
set_option maxRecDepth 20000 in
theorem mm_353 : Cond.methodLink RZY 37 yZY_hasLevel ∈ tbg := in_tables_1_2 (List.mem_of_getElem? (i := 113) (by decide +kernel)) (by decide +kernel)
set_option maxRecDepth 20000 in
theorem mm_354 : Cond.instanceMethod yZY_hasLevel ∈ tbg := in_tables_1_2 (List.mem_of_getElem? (i := 114) (by decide +kernel)) (by decide +kernel)
set_option maxRecDepth 20000 in
theorem mm_355 : Cond.selects RZY yZY_hasLevel yZY_hasLevel ∈ tbg := in_tables_1_2 (List.mem_of_getElem? (i := 115) (by decide +kernel)) (by decide +kernel)
set_option maxRecDepth 20000 in
theorem mm_356 : Cond.code yZY_hasLevel cZY_hasLevel 2 (some .boolean) ∈ tbg := in_tables_1_2 (List.mem_of_getElem? (i := 116) rfl) rfl
set_option maxRecDepth 20000 in
theorem mm_358 : Cond.methodLink RZY 41 yZY_columnsOf ∈ tbg := in_tables_1_2 (List.mem_of_getElem? (i := 118) (by decide +kernel)) (by decide +kernel)
set_option maxRecDepth 20000 in
theorem mm_359 : Cond.instanceMethod yZY_columnsOf ∈ tbg := in_tables_1_2 (List.mem_of_getElem? (i := 119) (by decide +kernel)) (by decide +kernel)
set_option maxRecDepth 20000 in
theorem mm_360 : Cond.selects RZY yZY_columnsOf yZY_columnsOf ∈ tbg := in_tables_1_2 (List.mem_of_getElem? (i := 120) (by decide +kernel)) (by decide +kernel)
set_option maxRecDepth 20000 in
theorem mm_361 : Cond.code yZY_columnsOf cZY_columnsOf 2 (some .int) ∈ tbg := in_tables_1_2 (List.mem_of_getElem? (i := 121) rfl) rfl
set_option maxRecDepth 20000 in
theorem mm_362 : Cond.methodLink RZY 55 yZY_halvedUp ∈ tbg := in_tables_1_2 (List.mem_of_getElem? (i := 122) (by decide +kernel)) (by decide +kernel)
set_option maxRecDepth 20000 in
theorem mm_363 : Cond.static yZY_halvedUp ∈ tbg := in_tables_1_2 (List.mem_of_getElem? (i := 123) (by decide +kernel)) (by decide +kernel)
set_option maxRecDepth 20000 in
theorem mm_364 : Cond.code yZY_halvedUp cZY_halvedUp 2 (some .int) ∈ tbg := in_tables_1_2 (List.mem_of_getElem? (i := 124) rfl) rfl
set_option maxRecDepth 20000 in
theorem mm_365 : Cond.methodLink RZY 45 yZY_rowsOf ∈ tbg := in_tables_1_2 (List.mem_of_getElem? (i := 125) (by decide +kernel)) (by decide +kernel)
set_option maxRecDepth 20000 in
theorem mm_366 : Cond.instanceMethod yZY_rowsOf ∈ tbg := in_tables_1_2 (List.mem_of_getElem? (i := 126) (by decide +kernel)) (by decide +kernel)
set_option maxRecDepth 20000 in
theorem mm_367 : Cond.selects RZY yZY_rowsOf yZY_rowsOf ∈ tbg := in_tables_1_2 (List.mem_of_getElem? (i := 127) (by decide +kernel)) (by decide +kernel)
set_option maxRecDepth 20000 in
theorem mm_368 : Cond.code yZY_rowsOf cZY_rowsOf 2 (some .int) ∈ tbg := in_tables_1_2 (List.mem_of_getElem? (i := 128) rfl) rfl
set_option maxRecDepth 20000 in
theorem mm_369 : Cond.methodLink RZQ 81 yZP_fillPart ∈ tbg := in_tables_1_2 (List.mem_of_getElem? (i := 129) (by decide +kernel)) (by decide +kernel)
set_option maxRecDepth 20000 in
theorem mm_370 : Cond.instanceMethod yZP_fillPart ∈ tbg := in_tables_1_2 (List.mem_of_getElem? (i := 130) (by decide +kernel)) (by decide +kernel)
set_option maxRecDepth 20000 in
theorem mm_371 : Cond.selects RZP yZP_fillPart yZP_fillPart ∈ tbg := in_tables_1_2 (List.mem_of_getElem? (i := 131) (by decide +kernel)) (by decide +kernel)
set_option maxRecDepth 20000 in
theorem mm_372 : Cond.code yZP_fillPart cZP_fillPart 8 none ∈ tbg := in_tables_1_2 (List.mem_of_getElem? (i := 132) rfl) rfl
set_option maxRecDepth 20000 in
theorem mm_373 : Cond.methodLink RZP 20 yZP_setSample ∈ tbg := in_tables_1_2 (List.mem_of_getElem? (i := 133) (by decide +kernel)) (by decide +kernel)
set_option maxRecDepth 20000 in
theorem mm_374 : Cond.methodLink RZQ 85 yZY_tilesOver ∈ tbg := in_tables_1_2 (List.mem_of_getElem? (i := 134) (by decide +kernel)) (by decide +kernel)
set_option maxRecDepth 20000 in
theorem mm_375 : Cond.instanceMethod yZY_tilesOver ∈ tbg := in_tables_1_2 (List.mem_of_getElem? (i := 135) (by decide +kernel)) (by decide +kernel)
set_option maxRecDepth 20000 in
theorem mm_376 : Cond.selects RZY yZY_tilesOver yZY_tilesOver ∈ tbg := in_tables_1_2 (List.mem_of_getElem? (i := 136) (by decide +kernel)) (by decide +kernel)
set_option maxRecDepth 20000 in
theorem mm_377 : Cond.code yZY_tilesOver cZY_tilesOver 7 (some .int) ∈ tbg := in_tables_1_2 (List.mem_of_getElem? (i := 137) rfl) rfl
set_option maxRecDepth 20000 in
theorem mm_378 : Cond.methodLink RZY 75 yZY_tilesOverSide ∈ tbg := in_tables_1_2 (List.mem_of_getElem? (i := 138) (by decide +kernel)) (by decide +kernel)
set_option maxRecDepth 20000 in
theorem mm_379 : Cond.static yZY_tilesOverSide ∈ tbg := in_tables_1_2 (List.mem_of_getElem? (i := 139) (by decide +kernel)) (by decide +kernel)
set_option maxRecDepth 20000 in
theorem mm_380 : Cond.code yZY_tilesOverSide cZY_tilesOverSide 5 (some .int) ∈ tbg := in_tables_1_2 (List.mem_of_getElem? (i := 140) rfl) rfl
set_option maxRecDepth 20000 in
theorem mm_381 : Cond.methodLink RZL 97 yZL_size ∈ tbg := in_tables_1_2 (List.mem_of_getElem? (i := 141) (by decide +kernel)) (by decide +kernel)
set_option maxRecDepth 20000 in
theorem mm_382 : Cond.static yZL_size ∈ tbg := in_tables_1_2 (List.mem_of_getElem? (i := 142) (by decide +kernel)) (by decide +kernel)
set_option maxRecDepth 20000 in
theorem mm_383 : Cond.codeWith yZL_size cZL_size 5 (some .int) [(0, 10, 13, 13)] ∈ tbg := in_tables_1_2 (List.mem_of_getElem? (i := 143) rfl) rfl
set_option maxRecDepth 20000 in
theorem mm_384 : Cond.methodLink RZL 21 yZQ_size ∈ tbg := in_tables_1_2 (List.mem_of_getElem? (i := 144) (by decide +kernel)) (by decide +kernel)
set_option maxRecDepth 20000 in
theorem mm_385 : Cond.instanceMethod yZQ_size ∈ tbg := in_tables_1_2 (List.mem_of_getElem? (i := 145) (by decide +kernel)) (by decide +kernel)
set_option maxRecDepth 20000 in
theorem mm_386 : Cond.selects RZQ yZQ_size yZQ_size ∈ tbg := in_tables_1_2 (List.mem_of_getElem? (i := 146) (by decide +kernel)) (by decide +kernel)
set_option maxRecDepth 20000 in
theorem mm_387 : Cond.code yZQ_size cZQ_size 3 (some .int) ∈ tbg := in_tables_1_2 (List.mem_of_getElem? (i := 147) rfl) rfl
set_option maxRecDepth 20000 in
theorem mm_388 : Cond.methodLink RZQ 93 yZY_hasLevel ∈ tbg := in_tables_1_2 (List.mem_of_getElem? (i := 148) (by decide +kernel)) (by decide +kernel)
set_option maxRecDepth 20000 in
theorem mm_389 : Cond.methodLink RZQ 101 yZY_columnsOf ∈ tbg := in_tables_1_2 (List.mem_of_getElem? (i := 149) (by decide +kernel)) (by decide +kernel)
set_option maxRecDepth 20000 in
theorem mm_390 : Cond.methodLink RZQ 105 yZY_rowsOf ∈ tbg := in_tables_1_2 (List.mem_of_getElem? (i := 150) (by decide +kernel)) (by decide +kernel)
set_option maxRecDepth 20000 in
theorem mm_391 : Cond.methodLink RZL 101 yZL_at ∈ tbg := in_tables_1_2 (List.mem_of_getElem? (i := 151) (by decide +kernel)) (by decide +kernel)
set_option maxRecDepth 20000 in
theorem mm_392 : Cond.static yZL_at ∈ tbg := in_tables_1_2 (List.mem_of_getElem? (i := 152) (by decide +kernel)) (by decide +kernel)
set_option maxRecDepth 20000 in
theorem mm_393 : Cond.codeWith yZL_at cZL_at 6 (some .int) [(0, 12, 15, 13)] ∈ tbg := in_tables_1_2 (List.mem_of_getElem? (i := 153) rfl) rfl
set_option maxRecDepth 20000 in
theorem mm_394 : Cond.methodLink RZL 25 yZQ_at ∈ tbg := in_tables_1_2 (List.mem_of_getElem? (i := 154) (by decide +kernel)) (by decide +kernel)
set_option maxRecDepth 20000 in
theorem mm_395 : Cond.instanceMethod yZQ_at ∈ tbg := in_tables_1_2 (List.mem_of_getElem? (i := 155) (by decide +kernel)) (by decide +kernel)
set_option maxRecDepth 20000 in
theorem mm_396 : Cond.selects RZQ yZQ_at yZQ_at ∈ tbg := in_tables_1_2 (List.mem_of_getElem? (i := 156) (by decide +kernel)) (by decide +kernel)
set_option maxRecDepth 20000 in
theorem mm_397 : Cond.code yZQ_at cZQ_at 4 (some .int) ∈ tbg := in_tables_1_2 (List.mem_of_getElem? (i := 157) rfl) rfl
set_option maxRecDepth 20000 in
theorem mm_398 : Cond.methodLink RZQ 108 yZY_hasPlace ∈ tbg := in_tables_1_2 (List.mem_of_getElem? (i := 158) (by decide +kernel)) (by decide +kernel)
set_option maxRecDepth 20000 in
theorem mm_399 : Cond.methodLink RZQ 112 yZY_roundedMean ∈ tbg := in_tables_1_2 (List.mem_of_getElem? (i := 159) (by decide +kernel)) (by decide +kernel)
set_option maxRecDepth 20000 in
theorem mm_400 : Cond.instanceMethod yZY_roundedMean ∈ tbg := in_tables_1_2 (List.mem_of_getElem? (i := 160) (by decide +kernel)) (by decide +kernel)
set_option maxRecDepth 20000 in
theorem mm_401 : Cond.selects RZY yZY_roundedMean yZY_roundedMean ∈ tbg := in_tables_1_2 (List.mem_of_getElem? (i := 161) (by decide +kernel)) (by decide +kernel)
set_option maxRecDepth 20000 in
theorem mm_402 : Cond.code yZY_roundedMean cZY_roundedMean 5 (some .int) ∈ tbg := in_tables_1_2 (List.mem_of_getElem? (i := 162) rfl) rfl
set_option maxRecDepth 20000 in
theorem mm_403 : Cond.methodLink RZY 69 yZY_countUnder ∈ tbg := in_tables_1_2 (List.mem_of_getElem? (i := 163) (by decide +kernel)) (by decide +kernel)
set_option maxRecDepth 20000 in
theorem mm_404 : Cond.instanceMethod yZY_countUnder ∈ tbg := in_tables_1_2 (List.mem_of_getElem? (i := 164) (by decide +kernel)) (by decide +kernel)
set_option maxRecDepth 20000 in
theorem mm_405 : Cond.selects RZY yZY_countUnder yZY_countUnder ∈ tbg := in_tables_1_2 (List.mem_of_getElem? (i := 165) (by decide +kernel)) (by decide +kernel)
set_option maxRecDepth 20000 in
theorem mm_406 : Cond.code yZY_countUnder cZY_countUnder 4 (some .int) ∈ tbg := in_tables_1_2 (List.mem_of_getElem? (i := 166) rfl) rfl
set_option maxRecDepth 20000 in
theorem mm_407 : Cond.methodLink RZY 61 yZY_reach ∈ tbg := in_tables_1_2 (List.mem_of_getElem? (i := 167) (by decide +kernel)) (by decide +kernel)
set_option maxRecDepth 20000 in
theorem mm_408 : Cond.static yZY_reach ∈ tbg := in_tables_1_2 (List.mem_of_getElem? (i := 168) (by decide +kernel)) (by decide +kernel)
set_option maxRecDepth 20000 in
theorem mm_409 : Cond.code yZY_reach cZY_reach 3 (some .int) ∈ tbg := in_tables_1_2 (List.mem_of_getElem? (i := 169) rfl) rfl
set_option maxRecDepth 20000 in
theorem mm_410 : Cond.methodLink RZY 58 yZJ_min ∈ tbg := in_tables_1_2 (List.mem_of_getElem? (i := 170) (by decide +kernel)) (by decide +kernel)
set_option maxRecDepth 20000 in
theorem mm_411 : Cond.methodLink RZY 72 yZY_totalUnder ∈ tbg := in_tables_1_2 (List.mem_of_getElem? (i := 171) (by decide +kernel)) (by decide +kernel)
set_option maxRecDepth 20000 in
theorem mm_412 : Cond.instanceMethod yZY_totalUnder ∈ tbg := in_tables_1_2 (List.mem_of_getElem? (i := 172) (by decide +kernel)) (by decide +kernel)
set_option maxRecDepth 20000 in
theorem mm_413 : Cond.selects RZY yZY_totalUnder yZY_totalUnder ∈ tbg := in_tables_1_2 (List.mem_of_getElem? (i := 173) (by decide +kernel)) (by decide +kernel)
set_option maxRecDepth 20000 in
theorem mm_414 : Cond.code yZY_totalUnder cZY_totalUnder 4 (some .int) ∈ tbg := in_tables_1_2 (List.mem_of_getElem? (i := 174) rfl) rfl
set_option maxRecDepth 20000 in
theorem mm_415 : Cond.methodLink RZY 65 yZP_sumOfPart ∈ tbg := in_tables_1_2 (List.mem_of_getElem? (i := 175) (by decide +kernel)) (by decide +kernel)
set_option maxRecDepth 20000 in
theorem mm_416 : Cond.instanceMethod yZP_sumOfPart ∈ tbg := in_tables_1_2 (List.mem_of_getElem? (i := 176) (by decide +kernel)) (by decide +kernel)
set_option maxRecDepth 20000 in
theorem mm_417 : Cond.selects RZP yZP_sumOfPart yZP_sumOfPart ∈ tbg := in_tables_1_2 (List.mem_of_getElem? (i := 177) (by decide +kernel)) (by decide +kernel)
set_option maxRecDepth 20000 in
theorem mm_418 : Cond.code yZP_sumOfPart cZP_sumOfPart 8 (some .int) ∈ tbg := in_tables_1_2 (List.mem_of_getElem? (i := 178) rfl) rfl
set_option maxRecDepth 20000 in
theorem mm_419 : Cond.methodLink RZP 24 yZP_sampleAt ∈ tbg := in_tables_1_2 (List.mem_of_getElem? (i := 179) (by decide +kernel)) (by decide +kernel)
set_option maxRecDepth 20000 in
theorem mm_420 : Cond.methodLink RZL 104 yZL_mean ∈ tbg := in_tables_1_2 (List.mem_of_getElem? (i := 180) (by decide +kernel)) (by decide +kernel)
set_option maxRecDepth 20000 in
theorem mm_421 : Cond.static yZL_mean ∈ tbg := in_tables_1_2 (List.mem_of_getElem? (i := 181) (by decide +kernel)) (by decide +kernel)
set_option maxRecDepth 20000 in
theorem mm_422 : Cond.codeWith yZL_mean cZL_mean 7 (some .int) [(0, 14, 17, 13)] ∈ tbg := in_tables_1_2 (List.mem_of_getElem? (i := 182) rfl) rfl
set_option maxRecDepth 20000 in
theorem mm_423 : Cond.methodLink RZL 28 yZQ_mean ∈ tbg := in_tables_1_2 (List.mem_of_getElem? (i := 183) (by decide +kernel)) (by decide +kernel)
set_option maxRecDepth 20000 in
theorem mm_424 : Cond.instanceMethod yZQ_mean ∈ tbg := in_tables_1_2 (List.mem_of_getElem? (i := 184) (by decide +kernel)) (by decide +kernel)
set_option maxRecDepth 20000 in
theorem mm_425 : Cond.selects RZQ yZQ_mean yZQ_mean ∈ tbg := in_tables_1_2 (List.mem_of_getElem? (i := 185) (by decide +kernel)) (by decide +kernel)
set_option maxRecDepth 20000 in
theorem mm_426 : Cond.code yZQ_mean cZQ_mean 8 (some .int) ∈ tbg := in_tables_1_2 (List.mem_of_getElem? (i := 186) rfl) rfl
set_option maxRecDepth 20000 in
theorem mm_427 : Cond.methodLink RZQ 116 yZY_totalUnder ∈ tbg := in_tables_1_2 (List.mem_of_getElem? (i := 187) (by decide +kernel)) (by decide +kernel)
set_option maxRecDepth 20000 in
theorem mm_428 : Cond.methodLink RZQ 119 yZY_countUnder ∈ tbg := in_tables_1_2 (List.mem_of_getElem? (i := 188) (by decide +kernel)) (by decide +kernel)
set_option maxRecDepth 20000 in
theorem mm_429 : Cond.methodLink RZQ 122 yZQ_greatestDivisor ∈ tbg := in_tables_1_2 (List.mem_of_getElem? (i := 189) (by decide +kernel)) (by decide +kernel)
set_option maxRecDepth 20000 in
theorem mm_430 : Cond.static yZQ_greatestDivisor ∈ tbg := in_tables_1_2 (List.mem_of_getElem? (i := 190) (by decide +kernel)) (by decide +kernel)
set_option maxRecDepth 20000 in
theorem mm_431 : Cond.code yZQ_greatestDivisor cZQ_greatestDivisor 6 (some .int) ∈ tbg := in_tables_1_2 (List.mem_of_getElem? (i := 191) rfl) rfl
set_option maxRecDepth 20000 in
theorem mm_432 : Cond.methodLink RZL 108 yZL_zoom ∈ tbg := in_tables_1_2 (List.mem_of_getElem? (i := 192) (by decide +kernel)) (by decide +kernel)
set_option maxRecDepth 20000 in
theorem mm_433 : Cond.static yZL_zoom ∈ tbg := in_tables_1_2 (List.mem_of_getElem? (i := 193) (by decide +kernel)) (by decide +kernel)
set_option maxRecDepth 20000 in
theorem mm_434 : Cond.codeWith yZL_zoom cZL_zoom 8 (some .int) [(0, 16, 19, 13)] ∈ tbg := in_tables_1_2 (List.mem_of_getElem? (i := 194) rfl) rfl
set_option maxRecDepth 20000 in
theorem mm_435 : Cond.methodLink RZL 32 yZQ_zoom ∈ tbg := in_tables_1_2 (List.mem_of_getElem? (i := 195) (by decide +kernel)) (by decide +kernel)
set_option maxRecDepth 20000 in
theorem mm_436 : Cond.instanceMethod yZQ_zoom ∈ tbg := in_tables_1_2 (List.mem_of_getElem? (i := 196) (by decide +kernel)) (by decide +kernel)
set_option maxRecDepth 20000 in
theorem mm_437 : Cond.selects RZQ yZQ_zoom yZQ_zoom ∈ tbg := in_tables_1_2 (List.mem_of_getElem? (i := 197) (by decide +kernel)) (by decide +kernel)
set_option maxRecDepth 20000 in
theorem mm_438 : Cond.code yZQ_zoom cZQ_zoom 9 (some .int) ∈ tbg := in_tables_1_2 (List.mem_of_getElem? (i := 198) rfl) rfl
set_option maxRecDepth 20000 in
theorem mm_439 : Cond.methodLink RZL 111 yZL_turned ∈ tbg := in_tables_1_2 (List.mem_of_getElem? (i := 199) (by decide +kernel)) (by decide +kernel)
set_option maxRecDepth 20000 in
theorem mm_440 : Cond.static yZL_turned ∈ tbg := in_tables_1_2 (List.mem_of_getElem? (i := 200) (by decide +kernel)) (by decide +kernel)
set_option maxRecDepth 20000 in
theorem mm_441 : Cond.codeWith yZL_turned cZL_turned 6 (some .int) [(0, 12, 15, 13)] ∈ tbg := in_tables_1_2 (List.mem_of_getElem? (i := 201) rfl) rfl
set_option maxRecDepth 20000 in
theorem mm_442 : Cond.methodLink RZL 35 yZQ_turned ∈ tbg := in_tables_1_2 (List.mem_of_getElem? (i := 202) (by decide +kernel)) (by decide +kernel)
set_option maxRecDepth 20000 in
theorem mm_443 : Cond.instanceMethod yZQ_turned ∈ tbg := in_tables_1_2 (List.mem_of_getElem? (i := 203) (by decide +kernel)) (by decide +kernel)
set_option maxRecDepth 20000 in
theorem mm_444 : Cond.selects RZQ yZQ_turned yZQ_turned ∈ tbg := in_tables_1_2 (List.mem_of_getElem? (i := 204) (by decide +kernel)) (by decide +kernel)
set_option maxRecDepth 20000 in
theorem mm_445 : Cond.code yZQ_turned cZQ_turned 8 (some .int) ∈ tbg := in_tables_1_2 (List.mem_of_getElem? (i := 205) rfl) rfl
set_option maxRecDepth 20000 in
theorem mm_446 : Cond.methodLink RZQ 125 yZJ_floorMod ∈ tbg := in_tables_1_2 (List.mem_of_getElem? (i := 206) (by decide +kernel)) (by decide +kernel)
set_option maxRecDepth 20000 in
theorem mm_447 : Cond.static yZJ_floorMod ∈ tbg := in_tables_1_2 (List.mem_of_getElem? (i := 207) (by decide +kernel)) (by decide +kernel)
set_option maxRecDepth 20000 in
theorem mm_448 : Cond.code yZJ_floorMod cZJ_floorMod 3 (some .int) ∈ tbg := in_tables_1_2 (List.mem_of_getElem? (i := 208) rfl) rfl
set_option maxRecDepth 20000 in
theorem mm_449 : Cond.methodLink RZL 114 yZL_pack ∈ tbg := in_tables_1_2 (List.mem_of_getElem? (i := 209) (by decide +kernel)) (by decide +kernel)
set_option maxRecDepth 20000 in
theorem mm_450 : Cond.static yZL_pack ∈ tbg := in_tables_1_2 (List.mem_of_getElem? (i := 210) (by decide +kernel)) (by decide +kernel)
set_option maxRecDepth 20000 in
theorem mm_451 : Cond.codeWith yZL_pack cZL_pack 6 (some .int) [(0, 12, 15, 13)] ∈ tbg := in_tables_1_2 (List.mem_of_getElem? (i := 211) rfl) rfl
set_option maxRecDepth 20000 in
theorem mm_452 : Cond.methodLink RZL 38 yZQ_pack ∈ tbg := in_tables_1_2 (List.mem_of_getElem? (i := 212) (by decide +kernel)) (by decide +kernel)
set_option maxRecDepth 20000 in
theorem mm_453 : Cond.instanceMethod yZQ_pack ∈ tbg := in_tables_1_2 (List.mem_of_getElem? (i := 213) (by decide +kernel)) (by decide +kernel)
set_option maxRecDepth 20000 in
theorem mm_454 : Cond.selects RZQ yZQ_pack yZQ_pack ∈ tbg := in_tables_1_2 (List.mem_of_getElem? (i := 214) (by decide +kernel)) (by decide +kernel)
set_option maxRecDepth 20000 in
theorem mm_455 : Cond.code yZQ_pack cZQ_pack 4 (some .int) ∈ tbg := in_tables_1_2 (List.mem_of_getElem? (i := 215) rfl) rfl
set_option maxRecDepth 20000 in
theorem mm_456 : Cond.methodLink RZQ 137 yZY_hasTile ∈ tbg := in_tables_1_2 (List.mem_of_getElem? (i := 216) (by decide +kernel)) (by decide +kernel)
set_option maxRecDepth 20000 in
theorem mm_457 : Cond.instanceMethod yZY_hasTile ∈ tbg := in_tables_1_2 (List.mem_of_getElem? (i := 217) (by decide +kernel)) (by decide +kernel)
set_option maxRecDepth 20000 in
theorem mm_458 : Cond.selects RZY yZY_hasTile yZY_hasTile ∈ tbg := in_tables_1_2 (List.mem_of_getElem? (i := 218) (by decide +kernel)) (by decide +kernel)
set_option maxRecDepth 20000 in
theorem mm_459 : Cond.code yZY_hasTile cZY_hasTile 4 (some .boolean) ∈ tbg := in_tables_1_2 (List.mem_of_getElem? (i := 219) rfl) rfl
set_option maxRecDepth 20000 in
theorem mm_460 : Cond.methodLink RZY 52 yZY_tilesAlong ∈ tbg := in_tables_1_2 (List.mem_of_getElem? (i := 220) (by decide +kernel)) (by decide +kernel)
set_option maxRecDepth 20000 in
theorem mm_461 : Cond.static yZY_tilesAlong ∈ tbg := in_tables_1_2 (List.mem_of_getElem? (i := 221) (by decide +kernel)) (by decide +kernel)
set_option maxRecDepth 20000 in
theorem mm_462 : Cond.code yZY_tilesAlong cZY_tilesAlong 1 (some .int) ∈ tbg := in_tables_1_2 (List.mem_of_getElem? (i := 222) rfl) rfl
set_option maxRecDepth 20000 in
theorem mm_463 : Cond.methodLink RZQ 140 yZY_cutTile ∈ tbg := in_tables_1_2 (List.mem_of_getElem? (i := 223) (by decide +kernel)) (by decide +kernel)
set_option maxRecDepth 20000 in
theorem mm_464 : Cond.instanceMethod yZY_cutTile ∈ tbg := in_tables_1_2 (List.mem_of_getElem? (i := 224) (by decide +kernel)) (by decide +kernel)
set_option maxRecDepth 20000 in
theorem mm_465 : Cond.selects RZY yZY_cutTile yZY_cutTile ∈ tbg := in_tables_1_2 (List.mem_of_getElem? (i := 225) (by decide +kernel)) (by decide +kernel)
set_option maxRecDepth 20000 in
theorem mm_466 : Cond.code yZY_cutTile cZY_cutTile 7 none ∈ tbg := in_tables_1_2 (List.mem_of_getElem? (i := 226) rfl) rfl
set_option maxRecDepth 20000 in
theorem mm_467 : Cond.methodLink RZY 78 yZY_tileColumns ∈ tbg := in_tables_1_2 (List.mem_of_getElem? (i := 227) (by decide +kernel)) (by decide +kernel)
set_option maxRecDepth 20000 in
theorem mm_468 : Cond.instanceMethod yZY_tileColumns ∈ tbg := in_tables_1_2 (List.mem_of_getElem? (i := 228) (by decide +kernel)) (by decide +kernel)
set_option maxRecDepth 20000 in
theorem mm_469 : Cond.selects RZY yZY_tileColumns yZY_tileColumns ∈ tbg := in_tables_1_2 (List.mem_of_getElem? (i := 229) (by decide +kernel)) (by decide +kernel)
set_option maxRecDepth 20000 in
theorem mm_470 : Cond.code yZY_tileColumns cZY_tileColumns 3 (some .int) ∈ tbg := in_tables_1_2 (List.mem_of_getElem? (i := 230) rfl) rfl
set_option maxRecDepth 20000 in
theorem mm_471 : Cond.methodLink RZY 81 yZY_tileRows ∈ tbg := in_tables_1_2 (List.mem_of_getElem? (i := 231) (by decide +kernel)) (by decide +kernel)
set_option maxRecDepth 20000 in
theorem mm_472 : Cond.instanceMethod yZY_tileRows ∈ tbg := in_tables_1_2 (List.mem_of_getElem? (i := 232) (by decide +kernel)) (by decide +kernel)
set_option maxRecDepth 20000 in
theorem mm_473 : Cond.selects RZY yZY_tileRows yZY_tileRows ∈ tbg := in_tables_1_2 (List.mem_of_getElem? (i := 233) (by decide +kernel)) (by decide +kernel)
set_option maxRecDepth 20000 in
theorem mm_474 : Cond.code yZY_tileRows cZY_tileRows 3 (some .int) ∈ tbg := in_tables_1_2 (List.mem_of_getElem? (i := 234) rfl) rfl
set_option maxRecDepth 20000 in
theorem mm_475 : Cond.methodLink RZY 84 yZT_setSize ∈ tbg := in_tables_1_2 (List.mem_of_getElem? (i := 235) (by decide +kernel)) (by decide +kernel)
set_option maxRecDepth 20000 in
theorem mm_476 : Cond.methodLink RZY 92 yZY_roundedMean ∈ tbg := in_tables_1_2 (List.mem_of_getElem? (i := 236) (by decide +kernel)) (by decide +kernel)
set_option maxRecDepth 20000 in
theorem mm_477 : Cond.methodLink RZY 95 yZT_setSample ∈ tbg := in_tables_1_2 (List.mem_of_getElem? (i := 237) (by decide +kernel)) (by decide +kernel)
set_option maxRecDepth 20000 in
theorem mm_478 : Cond.methodLink RZQ 144 yZK_packTile ∈ tbg := in_tables_1_2 (List.mem_of_getElem? (i := 238) (by decide +kernel)) (by decide +kernel)
set_option maxRecDepth 20000 in
theorem mm_479 : Cond.static yZK_packTile ∈ tbg := in_tables_1_2 (List.mem_of_getElem? (i := 239) (by decide +kernel)) (by decide +kernel)
set_option maxRecDepth 20000 in
theorem mm_480 : Cond.code yZK_packTile cZK_packTile 3 none ∈ tbg := in_tables_1_3 (List.mem_of_getElem? (i := 0) rfl) rfl
set_option maxRecDepth 20000 in
theorem mm_481 : Cond.methodLink RZK 20 yZB_append ∈ tbg := in_tables_1_3 (List.mem_of_getElem? (i := 1) (by decide +kernel)) (by decide +kernel)
set_option maxRecDepth 20000 in
theorem mm_482 : Cond.instanceMethod yZB_append ∈ tbg := in_tables_1_3 (List.mem_of_getElem? (i := 2) (by decide +kernel)) (by decide +kernel)
set_option maxRecDepth 20000 in
theorem mm_483 : Cond.selects RZB yZB_append yZB_append ∈ tbg := in_tables_1_3 (List.mem_of_getElem? (i := 3) (by decide +kernel)) (by decide +kernel)
set_option maxRecDepth 20000 in
theorem mm_484 : Cond.code yZB_append cZB_append 2 none ∈ tbg := in_tables_1_3 (List.mem_of_getElem? (i := 4) rfl) rfl
set_option maxRecDepth 20000 in
theorem mm_485 : Cond.methodLink RZB 19 yZB_isFull ∈ tbg := in_tables_1_3 (List.mem_of_getElem? (i := 5) (by decide +kernel)) (by decide +kernel)
set_option maxRecDepth 20000 in
theorem mm_486 : Cond.instanceMethod yZB_isFull ∈ tbg := in_tables_1_3 (List.mem_of_getElem? (i := 6) (by decide +kernel)) (by decide +kernel)
set_option maxRecDepth 20000 in
theorem mm_487 : Cond.selects RZB yZB_isFull yZB_isFull ∈ tbg := in_tables_1_3 (List.mem_of_getElem? (i := 7) (by decide +kernel)) (by decide +kernel)
set_option maxRecDepth 20000 in
theorem mm_488 : Cond.code yZB_isFull cZB_isFull 1 (some .boolean) ∈ tbg := in_tables_1_3 (List.mem_of_getElem? (i := 8) rfl) rfl
set_option maxRecDepth 20000 in
theorem mm_489 : Cond.methodLink RZK 27 yZK_packRow ∈ tbg := in_tables_1_3 (List.mem_of_getElem? (i := 9) (by decide +kernel)) (by decide +kernel)
set_option maxRecDepth 20000 in
theorem mm_490 : Cond.static yZK_packRow ∈ tbg := in_tables_1_3 (List.mem_of_getElem? (i := 10) (by decide +kernel)) (by decide +kernel)
set_option maxRecDepth 20000 in
theorem mm_491 : Cond.code yZK_packRow cZK_packRow 7 none ∈ tbg := in_tables_1_3 (List.mem_of_getElem? (i := 11) rfl) rfl
set_option maxRecDepth 20000 in
theorem mm_492 : Cond.methodLink RZK 37 yZK_greatestNumber ∈ tbg := in_tables_1_3 (List.mem_of_getElem? (i := 12) (by decide +kernel)) (by decide +kernel)
set_option maxRecDepth 20000 in
theorem mm_493 : Cond.static yZK_greatestNumber ∈ tbg := in_tables_1_3 (List.mem_of_getElem? (i := 13) (by decide +kernel)) (by decide +kernel)
set_option maxRecDepth 20000 in
theorem mm_494 : Cond.code yZK_greatestNumber cZK_greatestNumber 4 (some .int) ∈ tbg := in_tables_1_3 (List.mem_of_getElem? (i := 14) rfl) rfl
set_option maxRecDepth 20000 in
theorem mm_495 : Cond.methodLink RZK 44 yZK_numberAt ∈ tbg := in_tables_1_3 (List.mem_of_getElem? (i := 15) (by decide +kernel)) (by decide +kernel)
set_option maxRecDepth 20000 in
theorem mm_496 : Cond.static yZK_numberAt ∈ tbg := in_tables_1_3 (List.mem_of_getElem? (i := 16) (by decide +kernel)) (by decide +kernel)
set_option maxRecDepth 20000 in
theorem mm_497 : Cond.code yZK_numberAt cZK_numberAt 4 (some .int) ∈ tbg := in_tables_1_3 (List.mem_of_getElem? (i := 17) rfl) rfl
set_option maxRecDepth 20000 in
theorem mm_498 : Cond.methodLink RZK 54 yZT_sampleAt ∈ tbg := in_tables_1_3 (List.mem_of_getElem? (i := 18) (by decide +kernel)) (by decide +kernel)
set_option maxRecDepth 20000 in
theorem mm_499 : Cond.methodLink RZK 57 yZT_formerSample ∈ tbg := in_tables_1_3 (List.mem_of_getElem? (i := 19) (by decide +kernel)) (by decide +kernel)
set_option maxRecDepth 20000 in
theorem mm_500 : Cond.methodLink RZK 48 yZJ_max ∈ tbg := in_tables_1_3 (List.mem_of_getElem? (i := 20) (by decide +kernel)) (by decide +kernel)
set_option maxRecDepth 20000 in
theorem mm_502 : Cond.methodLink RZK 33 yZB_sumOfFirst ∈ tbg := in_tables_1_3 (List.mem_of_getElem? (i := 22) (by decide +kernel)) (by decide +kernel)
set_option maxRecDepth 20000 in
theorem mm_503 : Cond.methodLink RZL 117 yZL_load ∈ tbg := in_tables_1_3 (List.mem_of_getElem? (i := 23) (by decide +kernel)) (by decide +kernel)
set_option maxRecDepth 20000 in
theorem mm_504 : Cond.static yZL_load ∈ tbg := in_tables_1_3 (List.mem_of_getElem? (i := 24) (by decide +kernel)) (by decide +kernel)
set_option maxRecDepth 20000 in
theorem mm_505 : Cond.codeWith yZL_load cZL_load 4 (some .int) [(0, 9, 12, 45), (0, 9, 15, 15)] ∈ tbg := in_tables_1_3 (List.mem_of_getElem? (i := 25) rfl) rfl
set_option maxRecDepth 20000 in
theorem mm_506 : Cond.classLink RZL 45 "java/lang/IllegalStateException" ∈ tbg := in_tables_1_3 (List.mem_of_getElem? (i := 26) (by decide +kernel)) (by decide +kernel)
set_option maxRecDepth 20000 in
theorem mm_507 : Cond.methodLink RZL 41 yZQ_load ∈ tbg := in_tables_1_3 (List.mem_of_getElem? (i := 27) (by decide +kernel)) (by decide +kernel)
set_option maxRecDepth 20000 in
theorem mm_508 : Cond.instanceMethod yZQ_load ∈ tbg := in_tables_1_3 (List.mem_of_getElem? (i := 28) (by decide +kernel)) (by decide +kernel)
set_option maxRecDepth 20000 in
theorem mm_509 : Cond.selects RZQ yZQ_load yZQ_load ∈ tbg := in_tables_1_3 (List.mem_of_getElem? (i := 29) (by decide +kernel)) (by decide +kernel)
set_option maxRecDepth 20000 in
theorem mm_510 : Cond.code yZQ_load cZQ_load 2 (some .int) ∈ tbg := in_tables_1_3 (List.mem_of_getElem? (i := 30) rfl) rfl
set_option maxRecDepth 20000 in
theorem mm_511 : Cond.methodLink RZQ 153 yZB_isFull ∈ tbg := in_tables_1_3 (List.mem_of_getElem? (i := 31) (by decide +kernel)) (by decide +kernel)
set_option maxRecDepth 20000 in
theorem mm_512 : Cond.classLink RZQ 157 "java/lang/IllegalStateException" ∈ tbg := in_tables_1_3 (List.mem_of_getElem? (i := 32) (by decide +kernel)) (by decide +kernel)
set_option maxRecDepth 20000 in
theorem mm_513 : Cond.instantiable "java/lang/IllegalStateException" 6 ∈ tbg := in_tables_1_3 (List.mem_of_getElem? (i := 33) (by decide +kernel)) (by decide +kernel)
set_option maxRecDepth 20000 in
theorem mm_515 : Cond.selects "java/lang/IllegalStateException" ⟨"java/lang/Throwable", "fillInStackTrace", "(I)Ljava/lang/Throwable;"⟩ ⟨"java/lang/Throwable", "fillInStackTrace", "(I)Ljava/lang/Throwable;"⟩ ∈ tbg := in_tables_1_3 (List.mem_of_getElem? (i := 35) (by decide +kernel)) (by decide +kernel)
set_option maxRecDepth 20000 in
theorem mm_516 : Cond.lays "java/lang/IllegalStateException" "java/lang/Throwable" "cause" "Ljava/lang/Throwable;" ∈ tbg := in_tables_1_3 (List.mem_of_getElem? (i := 36) (by decide +kernel)) (by decide +kernel)
set_option maxRecDepth 20000 in
theorem mm_517 : Cond.lays "java/lang/IllegalStateException" "java/lang/Throwable" "stackTrace" "[Ljava/lang/StackTraceElement;" ∈ tbg := in_tables_1_3 (List.mem_of_getElem? (i := 37) (by decide +kernel)) (by decide +kernel)
set_option maxRecDepth 20000 in
theorem mm_518 : Cond.lays "java/lang/IllegalStateException" "java/lang/Throwable" "suppressedExceptions" "Ljava/util/List;" ∈ tbg := in_tables_1_3 (List.mem_of_getElem? (i := 38) (by decide +kernel)) (by decide +kernel)
set_option maxRecDepth 20000 in
theorem mm_519 : Cond.lays "java/lang/IllegalStateException" "java/lang/Throwable" "detailMessage" "Ljava/lang/String;" ∈ tbg := in_tables_1_3 (List.mem_of_getElem? (i := 39) (by decide +kernel)) (by decide +kernel)
set_option maxRecDepth 20000 in
theorem mm_520 : Cond.lays "java/lang/IllegalStateException" "java/lang/Throwable" "backtrace" "Ljava/lang/Object;" ∈ tbg := in_tables_1_3 (List.mem_of_getElem? (i := 40) (by decide +kernel)) (by decide +kernel)
set_option maxRecDepth 20000 in
theorem mm_522 : Cond.methodLink RZQ 161 ⟨"java/lang/IllegalStateException", "<init>", "(Ljava/lang/String;)V"⟩ ∈ tbg := in_tables_1_3 (List.mem_of_getElem? (i := 42) (by decide +kernel)) (by decide +kernel)
set_option maxRecDepth 20000 in
theorem mm_523 : Cond.instanceMethod ⟨"java/lang/IllegalStateException", "<init>", "(Ljava/lang/String;)V"⟩ ∈ tbg := in_tables_1_3 (List.mem_of_getElem? (i := 43) (by decide +kernel)) (by decide +kernel)
set_option maxRecDepth 20000 in
theorem mm_524 : Cond.code ⟨"java/lang/IllegalStateException", "<init>", "(Ljava/lang/String;)V"⟩ prog_13_method_2_code 2 none ∈ tbg := in_tables_1_3 (List.mem_of_getElem? (i := 44) rfl) rfl
set_option maxRecDepth 20000 in
theorem mm_525 : Cond.methodLink "java/lang/IllegalStateException" 7 ⟨"java/lang/RuntimeException", "<init>", "(Ljava/lang/String;)V"⟩ ∈ tbg := in_tables_1_3 (List.mem_of_getElem? (i := 45) (by decide +kernel)) (by decide +kernel)
set_option maxRecDepth 20000 in
theorem mm_526 : Cond.lays "java/lang/IllegalStateException" "java/lang/Throwable" "depth" "I" ∈ tbg := in_tables_1_3 (List.mem_of_getElem? (i := 46) (by decide +kernel)) (by decide +kernel)
set_option maxRecDepth 20000 in
theorem mm_527 : Cond.superclass "java/lang/IllegalStateException" "java/lang/RuntimeException" ∈ tbg := in_tables_1_3 (List.mem_of_getElem? (i := 47) (by decide +kernel)) (by decide +kernel)
set_option maxRecDepth 20000 in
theorem mm_529 : Cond.methodLink RZQ 169 yZB_append ∈ tbg := in_tables_1_3 (List.mem_of_getElem? (i := 49) (by decide +kernel)) (by decide +kernel)
set_option maxRecDepth 20000 in
theorem mm_530 : Cond.methodLink RZL 125 yZL_byteAt ∈ tbg := in_tables_1_3 (List.mem_of_getElem? (i := 50) (by decide +kernel)) (by decide +kernel)
set_option maxRecDepth 20000 in
theorem mm_531 : Cond.static yZL_byteAt ∈ tbg := in_tables_1_3 (List.mem_of_getElem? (i := 51) (by decide +kernel)) (by decide +kernel)
set_option maxRecDepth 20000 in
theorem mm_532 : Cond.codeWith yZL_byteAt cZL_byteAt 4 (some .int) [(0, 9, 12, 13)] ∈ tbg := in_tables_1_3 (List.mem_of_getElem? (i := 52) rfl) rfl
set_option maxRecDepth 20000 in
theorem mm_533 : Cond.methodLink RZL 47 yZQ_byteAt ∈ tbg := in_tables_1_3 (List.mem_of_getElem? (i := 53) (by decide +kernel)) (by decide +kernel)
set_option maxRecDepth 20000 in
theorem mm_534 : Cond.instanceMethod yZQ_byteAt ∈ tbg := in_tables_1_3 (List.mem_of_getElem? (i := 54) (by decide +kernel)) (by decide +kernel)
set_option maxRecDepth 20000 in
theorem mm_535 : Cond.selects RZQ yZQ_byteAt yZQ_byteAt ∈ tbg := in_tables_1_3 (List.mem_of_getElem? (i := 55) (by decide +kernel)) (by decide +kernel)
set_option maxRecDepth 20000 in
theorem mm_536 : Cond.code yZQ_byteAt cZQ_byteAt 2 (some .int) ∈ tbg := in_tables_1_3 (List.mem_of_getElem? (i := 56) rfl) rfl
set_option maxRecDepth 20000 in
theorem mm_537 : Cond.methodLink RZL 128 yZL_poke ∈ tbg := in_tables_1_3 (List.mem_of_getElem? (i := 57) (by decide +kernel)) (by decide +kernel)
set_option maxRecDepth 20000 in
theorem mm_538 : Cond.static yZL_poke ∈ tbg := in_tables_1_3 (List.mem_of_getElem? (i := 58) (by decide +kernel)) (by decide +kernel)
set_option maxRecDepth 20000 in
theorem mm_539 : Cond.codeWith yZL_poke cZL_poke 5 (some .int) [(0, 10, 13, 13), (0, 10, 17, 15)] ∈ tbg := in_tables_1_3 (List.mem_of_getElem? (i := 59) rfl) rfl
set_option maxRecDepth 20000 in
theorem mm_540 : Cond.methodLink RZL 50 yZQ_poke ∈ tbg := in_tables_1_3 (List.mem_of_getElem? (i := 60) (by decide +kernel)) (by decide +kernel)
set_option maxRecDepth 20000 in
theorem mm_541 : Cond.instanceMethod yZQ_poke ∈ tbg := in_tables_1_3 (List.mem_of_getElem? (i := 61) (by decide +kernel)) (by decide +kernel)
set_option maxRecDepth 20000 in
theorem mm_542 : Cond.selects RZQ yZQ_poke yZQ_poke ∈ tbg := in_tables_1_3 (List.mem_of_getElem? (i := 62) (by decide +kernel)) (by decide +kernel)
set_option maxRecDepth 20000 in
theorem mm_543 : Cond.code yZQ_poke cZQ_poke 3 (some .int) ∈ tbg := in_tables_1_3 (List.mem_of_getElem? (i := 63) rfl) rfl
set_option maxRecDepth 20000 in
theorem mm_545 : Cond.methodLink RZL 135 yZL_opened ∈ tbg := in_tables_1_3 (List.mem_of_getElem? (i := 65) (by decide +kernel)) (by decide +kernel)
set_option maxRecDepth 20000 in
theorem mm_546 : Cond.static yZL_opened ∈ tbg := in_tables_1_3 (List.mem_of_getElem? (i := 66) (by decide +kernel)) (by decide +kernel)
set_option maxRecDepth 20000 in
theorem mm_547 : Cond.codeWith yZL_opened cZL_opened 4 (some .int) [(0, 9, 12, 13)] ∈ tbg := in_tables_1_3 (List.mem_of_getElem? (i := 67) rfl) rfl
set_option maxRecDepth 20000 in
theorem mm_548 : Cond.methodLink RZL 53 yZQ_opened ∈ tbg := in_tables_1_3 (List.mem_of_getElem? (i := 68) (by decide +kernel)) (by decide +kernel)
set_option maxRecDepth 20000 in
theorem mm_549 : Cond.instanceMethod yZQ_opened ∈ tbg := in_tables_1_3 (List.mem_of_getElem? (i := 69) (by decide +kernel)) (by decide +kernel)
set_option maxRecDepth 20000 in
theorem mm_550 : Cond.selects RZQ yZQ_opened yZQ_opened ∈ tbg := in_tables_1_3 (List.mem_of_getElem? (i := 70) (by decide +kernel)) (by decide +kernel)
set_option maxRecDepth 20000 in
theorem mm_551 : Cond.code yZQ_opened cZQ_opened 2 (some .int) ∈ tbg := in_tables_1_3 (List.mem_of_getElem? (i := 71) rfl) rfl
set_option maxRecDepth 20000 in
theorem mm_552 : Cond.methodLink RZL 138 yZL_restore ∈ tbg := in_tables_1_3 (List.mem_of_getElem? (i := 72) (by decide +kernel)) (by decide +kernel)
set_option maxRecDepth 20000 in
theorem mm_553 : Cond.static yZL_restore ∈ tbg := in_tables_1_3 (List.mem_of_getElem? (i := 73) (by decide +kernel)) (by decide +kernel)
set_option maxRecDepth 20000 in
theorem mm_554 : Cond.codeWith yZL_restore cZL_restore 5 (some .int) [(0, 17, 20, 13), (0, 17, 24, 45)] ∈ tbg := in_tables_1_3 (List.mem_of_getElem? (i := 74) rfl) rfl
set_option maxRecDepth 20000 in
theorem mm_555 : Cond.methodLink RZL 56 yZQ_restore ∈ tbg := in_tables_1_3 (List.mem_of_getElem? (i := 75) (by decide +kernel)) (by decide +kernel)
set_option maxRecDepth 20000 in
theorem mm_556 : Cond.instanceMethod yZQ_restore ∈ tbg := in_tables_1_3 (List.mem_of_getElem? (i := 76) (by decide +kernel)) (by decide +kernel)
set_option maxRecDepth 20000 in
theorem mm_557 : Cond.selects RZQ yZQ_restore yZQ_restore ∈ tbg := in_tables_1_3 (List.mem_of_getElem? (i := 77) (by decide +kernel)) (by decide +kernel)
set_option maxRecDepth 20000 in
theorem mm_558 : Cond.code yZQ_restore cZQ_restore 4 (some .boolean) ∈ tbg := in_tables_1_3 (List.mem_of_getElem? (i := 78) rfl) rfl
set_option maxRecDepth 20000 in
theorem mm_560 : Cond.methodLink RZQ 198 yZY_tileColumns ∈ tbg := in_tables_1_3 (List.mem_of_getElem? (i := 80) (by decide +kernel)) (by decide +kernel)
set_option maxRecDepth 20000 in
theorem mm_561 : Cond.methodLink RZQ 202 yZY_tileRows ∈ tbg := in_tables_1_3 (List.mem_of_getElem? (i := 81) (by decide +kernel)) (by decide +kernel)
set_option maxRecDepth 20000 in
theorem mm_562 : Cond.methodLink RZQ 205 yZY_layTile ∈ tbg := in_tables_1_3 (List.mem_of_getElem? (i := 82) (by decide +kernel)) (by decide +kernel)
set_option maxRecDepth 20000 in
theorem mm_563 : Cond.instanceMethod yZY_layTile ∈ tbg := in_tables_1_3 (List.mem_of_getElem? (i := 83) (by decide +kernel)) (by decide +kernel)
set_option maxRecDepth 20000 in
theorem mm_564 : Cond.selects RZY yZY_layTile yZY_layTile ∈ tbg := in_tables_1_3 (List.mem_of_getElem? (i := 84) (by decide +kernel)) (by decide +kernel)
set_option maxRecDepth 20000 in
theorem mm_565 : Cond.code yZY_layTile cZY_layTile 6 none ∈ tbg := in_tables_1_3 (List.mem_of_getElem? (i := 85) rfl) rfl
set_option maxRecDepth 20000 in
theorem mm_566 : Cond.methodLink RZY 99 yZT_sampleAt ∈ tbg := in_tables_1_3 (List.mem_of_getElem? (i := 86) (by decide +kernel)) (by decide +kernel)
set_option maxRecDepth 20000 in
theorem mm_567 : Cond.methodLink RZY 102 yZP_setSample ∈ tbg := in_tables_1_3 (List.mem_of_getElem? (i := 87) (by decide +kernel)) (by decide +kernel)
set_option maxRecDepth 20000 in
theorem mm_568 : Cond.methodLink RZL 141 yZL_strip ∈ tbg := in_tables_1_3 (List.mem_of_getElem? (i := 88) (by decide +kernel)) (by decide +kernel)
set_option maxRecDepth 20000 in
theorem mm_569 : Cond.static yZL_strip ∈ tbg := in_tables_1_3 (List.mem_of_getElem? (i := 89) (by decide +kernel)) (by decide +kernel)
set_option maxRecDepth 20000 in
theorem mm_570 : Cond.codeWith yZL_strip cZL_strip 6 (some .int) [(0, 12, 15, 13), (0, 12, 19, 15)] ∈ tbg := in_tables_1_3 (List.mem_of_getElem? (i := 90) rfl) rfl
set_option maxRecDepth 20000 in
theorem mm_571 : Cond.methodLink RZL 60 yZQ_strip ∈ tbg := in_tables_1_3 (List.mem_of_getElem? (i := 91) (by decide +kernel)) (by decide +kernel)
set_option maxRecDepth 20000 in
theorem mm_572 : Cond.instanceMethod yZQ_strip ∈ tbg := in_tables_1_3 (List.mem_of_getElem? (i := 92) (by decide +kernel)) (by decide +kernel)
set_option maxRecDepth 20000 in
theorem mm_573 : Cond.selects RZQ yZQ_strip yZQ_strip ∈ tbg := in_tables_1_3 (List.mem_of_getElem? (i := 93) (by decide +kernel)) (by decide +kernel)
set_option maxRecDepth 20000 in
theorem mm_574 : Cond.code yZQ_strip cZQ_strip 4 (some .int) ∈ tbg := in_tables_1_3 (List.mem_of_getElem? (i := 94) rfl) rfl
set_option maxRecDepth 20000 in
theorem mm_575 : Cond.methodLink RZL 144 yZL_seam ∈ tbg := in_tables_1_3 (List.mem_of_getElem? (i := 95) (by decide +kernel)) (by decide +kernel)
set_option maxRecDepth 20000 in
theorem mm_576 : Cond.static yZL_seam ∈ tbg := in_tables_1_3 (List.mem_of_getElem? (i := 96) (by decide +kernel)) (by decide +kernel)
set_option maxRecDepth 20000 in
theorem mm_577 : Cond.codeWith yZL_seam cZL_seam 4 (some .int) [(0, 9, 12, 15)] ∈ tbg := in_tables_1_3 (List.mem_of_getElem? (i := 97) rfl) rfl
set_option maxRecDepth 20000 in
theorem mm_578 : Cond.methodLink RZL 63 yZQ_seam ∈ tbg := in_tables_1_3 (List.mem_of_getElem? (i := 98) (by decide +kernel)) (by decide +kernel)
set_option maxRecDepth 20000 in
theorem mm_579 : Cond.instanceMethod yZQ_seam ∈ tbg := in_tables_1_3 (List.mem_of_getElem? (i := 99) (by decide +kernel)) (by decide +kernel)
set_option maxRecDepth 20000 in
theorem mm_580 : Cond.selects RZQ yZQ_seam yZQ_seam ∈ tbg := in_tables_1_3 (List.mem_of_getElem? (i := 100) (by decide +kernel)) (by decide +kernel)
set_option maxRecDepth 20000 in
theorem mm_581 : Cond.code yZQ_seam cZQ_seam 2 (some .int) ∈ tbg := in_tables_1_3 (List.mem_of_getElem? (i := 101) rfl) rfl
set_option maxRecDepth 20000 in
theorem mm_583 : Cond.methodLink RZQ 211 yZS_findLeast ∈ tbg := in_tables_1_3 (List.mem_of_getElem? (i := 103) (by decide +kernel)) (by decide +kernel)
set_option maxRecDepth 20000 in
theorem mm_584 : Cond.instanceMethod yZS_findLeast ∈ tbg := in_tables_1_3 (List.mem_of_getElem? (i := 104) (by decide +kernel)) (by decide +kernel)
set_option maxRecDepth 20000 in
theorem mm_585 : Cond.selects RZS yZS_findLeast yZS_findLeast ∈ tbg := in_tables_1_3 (List.mem_of_getElem? (i := 105) (by decide +kernel)) (by decide +kernel)
set_option maxRecDepth 20000 in
theorem mm_586 : Cond.code yZS_findLeast cZS_findLeast 4 (some .int) ∈ tbg := in_tables_1_3 (List.mem_of_getElem? (i := 106) rfl) rfl
set_option maxRecDepth 20000 in
theorem mm_587 : Cond.methodLink RZS 31 yZS_addUpRow ∈ tbg := in_tables_1_3 (List.mem_of_getElem? (i := 107) (by decide +kernel)) (by decide +kernel)
set_option maxRecDepth 20000 in
theorem mm_589 : Cond.instanceMethod yZS_addUpRow ∈ tbg := in_tables_1_3 (List.mem_of_getElem? (i := 109) (by decide +kernel)) (by decide +kernel)
set_option maxRecDepth 20000 in
theorem mm_590 : Cond.code yZS_addUpRow cZS_addUpRow 7 none ∈ tbg := in_tables_1_3 (List.mem_of_getElem? (i := 110) rfl) rfl
set_option maxRecDepth 20000 in
theorem mm_591 : Cond.methodLink RZS 46 yZP_sampleAt ∈ tbg := in_tables_1_3 (List.mem_of_getElem? (i := 111) (by decide +kernel)) (by decide +kernel)
set_option maxRecDepth 20000 in
theorem mm_592 : Cond.methodLink RZS 39 yZS_cheapestNear ∈ tbg := in_tables_1_3 (List.mem_of_getElem? (i := 112) (by decide +kernel)) (by decide +kernel)
set_option maxRecDepth 20000 in
theorem mm_594 : Cond.instanceMethod yZS_cheapestNear ∈ tbg := in_tables_1_3 (List.mem_of_getElem? (i := 114) (by decide +kernel)) (by decide +kernel)
set_option maxRecDepth 20000 in
theorem mm_595 : Cond.code yZS_cheapestNear cZS_cheapestNear 4 (some .int) ∈ tbg := in_tables_1_3 (List.mem_of_getElem? (i := 115) rfl) rfl
set_option maxRecDepth 20000 in
theorem mm_596 : Cond.methodLink RZS 53 yZJ_max ∈ tbg := in_tables_1_3 (List.mem_of_getElem? (i := 116) (by decide +kernel)) (by decide +kernel)
set_option maxRecDepth 20000 in
theorem mm_597 : Cond.methodLink RZS 58 yZJ_min ∈ tbg := in_tables_1_3 (List.mem_of_getElem? (i := 117) (by decide +kernel)) (by decide +kernel)
set_option maxRecDepth 20000 in
theorem mm_598 : Cond.methodLink RZS 35 yZS_cheapest ∈ tbg := in_tables_1_3 (List.mem_of_getElem? (i := 118) (by decide +kernel)) (by decide +kernel)
set_option maxRecDepth 20000 in
theorem mm_600 : Cond.instanceMethod yZS_cheapest ∈ tbg := in_tables_1_3 (List.mem_of_getElem? (i := 120) (by decide +kernel)) (by decide +kernel)
set_option maxRecDepth 20000 in
theorem mm_601 : Cond.code yZS_cheapest cZS_cheapest 6 (some .int) ∈ tbg := in_tables_1_3 (List.mem_of_getElem? (i := 121) rfl) rfl
set_option maxRecDepth 20000 in
theorem mm_602 : Cond.methodLink RZL 147 yZL_seamAt ∈ tbg := in_tables_1_3 (List.mem_of_getElem? (i := 122) (by decide +kernel)) (by decide +kernel)
set_option maxRecDepth 20000 in
theorem mm_603 : Cond.static yZL_seamAt ∈ tbg := in_tables_1_3 (List.mem_of_getElem? (i := 123) (by decide +kernel)) (by decide +kernel)
set_option maxRecDepth 20000 in
theorem mm_604 : Cond.codeWith yZL_seamAt cZL_seamAt 4 (some .int) [(0, 9, 12, 13)] ∈ tbg := in_tables_1_3 (List.mem_of_getElem? (i := 124) rfl) rfl
set_option maxRecDepth 20000 in
theorem mm_605 : Cond.methodLink RZL 66 yZQ_seamAt ∈ tbg := in_tables_1_3 (List.mem_of_getElem? (i := 125) (by decide +kernel)) (by decide +kernel)
set_option maxRecDepth 20000 in
theorem mm_606 : Cond.instanceMethod yZQ_seamAt ∈ tbg := in_tables_1_3 (List.mem_of_getElem? (i := 126) (by decide +kernel)) (by decide +kernel)
set_option maxRecDepth 20000 in
theorem mm_607 : Cond.selects RZQ yZQ_seamAt yZQ_seamAt ∈ tbg := in_tables_1_3 (List.mem_of_getElem? (i := 127) (by decide +kernel)) (by decide +kernel)
set_option maxRecDepth 20000 in
theorem mm_608 : Cond.code yZQ_seamAt cZQ_seamAt 2 (some .int) ∈ tbg := in_tables_1_3 (List.mem_of_getElem? (i := 128) rfl) rfl
set_option maxRecDepth 20000 in
theorem mm_609 : Cond.classLink RZL 78 RZM ∈ tbg := in_tables_1_3 (List.mem_of_getElem? (i := 129) (by decide +kernel)) (by decide +kernel)
set_option maxRecDepth 20000 in
theorem mm_610 : Cond.instantiable RZM 19 ∈ tbg := in_tables_1_3 (List.mem_of_getElem? (i := 130) (by decide +kernel)) (by decide +kernel)
set_option maxRecDepth 20000 in
theorem mm_611 : Cond.methodLink RZL 80 yZM_init ∈ tbg := in_tables_1_3 (List.mem_of_getElem? (i := 131) (by decide +kernel)) (by decide +kernel)
set_option maxRecDepth 20000 in
theorem mm_612 : Cond.instanceMethod yZM_init ∈ tbg := in_tables_1_3 (List.mem_of_getElem? (i := 132) (by decide +kernel)) (by decide +kernel)
set_option maxRecDepth 20000 in
theorem mm_613 : Cond.code yZM_init cZM_init 3 none ∈ tbg := in_tables_1_3 (List.mem_of_getElem? (i := 133) rfl) rfl
set_option maxRecDepth 20000 in
theorem mm_614 : Cond.methodLink RZM 1 objectInit ∈ tbg := in_tables_1_3 (List.mem_of_getElem? (i := 134) (by decide +kernel)) (by decide +kernel)
set_option maxRecDepth 20000 in
theorem mm_615 : Cond.methodLink RZM 34 yZM_held ∈ tbg := in_tables_1_3 (List.mem_of_getElem? (i := 135) (by decide +kernel)) (by decide +kernel)
set_option maxRecDepth 20000 in
theorem mm_616 : Cond.static yZM_held ∈ tbg := in_tables_1_3 (List.mem_of_getElem? (i := 136) (by decide +kernel)) (by decide +kernel)
set_option maxRecDepth 20000 in
theorem mm_617 : Cond.code yZM_held cZM_held 1 (some .int) ∈ tbg := in_tables_1_3 (List.mem_of_getElem? (i := 137) rfl) rfl
set_option maxRecDepth 20000 in
theorem mm_618 : Cond.fieldLink RZM 45 "TilePyramidModel" "thrown" "I" ∈ tbg := in_tables_1_3 (List.mem_of_getElem? (i := 138) (by decide +kernel)) (by decide +kernel)
set_option maxRecDepth 20000 in
theorem mm_619 : Cond.fieldLink RZM 38 "TilePyramidModel" "width" "I" ∈ tbg := in_tables_1_3 (List.mem_of_getElem? (i := 139) (by decide +kernel)) (by decide +kernel)
set_option maxRecDepth 20000 in
theorem mm_620 : Cond.fieldLink RZM 42 "TilePyramidModel" "height" "I" ∈ tbg := in_tables_1_3 (List.mem_of_getElem? (i := 140) (by decide +kernel)) (by decide +kernel)
set_option maxRecDepth 20000 in
theorem mm_621 : Cond.fieldLink RZM 7 "TilePyramidModel" "picture" "[I" ∈ tbg := in_tables_1_3 (List.mem_of_getElem? (i := 141) (by decide +kernel)) (by decide +kernel)
set_option maxRecDepth 20000 in
theorem mm_622 : Cond.fieldLink RZM 13 "TilePyramidModel" "strip" "[I" ∈ tbg := in_tables_1_3 (List.mem_of_getElem? (i := 142) (by decide +kernel)) (by decide +kernel)
set_option maxRecDepth 20000 in
theorem mm_623 : Cond.fieldLink RZM 16 "TilePyramidModel" "buffer" "[I" ∈ tbg := in_tables_1_3 (List.mem_of_getElem? (i := 143) (by decide +kernel)) (by decide +kernel)
set_option maxRecDepth 20000 in
theorem mm_624 : Cond.fieldLink RZM 101 "TilePyramidModel" "size" "I" ∈ tbg := in_tables_1_3 (List.mem_of_getElem? (i := 144) (by decide +kernel)) (by decide +kernel)
set_option maxRecDepth 20000 in
theorem mm_625 : Cond.fieldLink RZM 19 "TilePyramidModel" "tile" "[I" ∈ tbg := in_tables_1_3 (List.mem_of_getElem? (i := 145) (by decide +kernel)) (by decide +kernel)
set_option maxRecDepth 20000 in
theorem mm_626 : Cond.fieldLink RZM 22 "TilePyramidModel" "opening" "[I" ∈ tbg := in_tables_1_3 (List.mem_of_getElem? (i := 146) (by decide +kernel)) (by decide +kernel)
set_option maxRecDepth 20000 in
theorem mm_627 : Cond.fieldLink RZM 138 "TilePyramidModel" "columns" "I" ∈ tbg := in_tables_1_3 (List.mem_of_getElem? (i := 147) (by decide +kernel)) (by decide +kernel)
set_option maxRecDepth 20000 in
theorem mm_628 : Cond.fieldLink RZM 144 "TilePyramidModel" "rows" "I" ∈ tbg := in_tables_1_3 (List.mem_of_getElem? (i := 148) (by decide +kernel)) (by decide +kernel)
set_option maxRecDepth 20000 in
theorem mm_629 : Cond.fieldLink RZM 150 "TilePyramidModel" "tileColumns" "I" ∈ tbg := in_tables_1_3 (List.mem_of_getElem? (i := 149) (by decide +kernel)) (by decide +kernel)
set_option maxRecDepth 20000 in
theorem mm_630 : Cond.fieldLink RZM 153 "TilePyramidModel" "tileRows" "I" ∈ tbg := in_tables_1_3 (List.mem_of_getElem? (i := 150) (by decide +kernel)) (by decide +kernel)
set_option maxRecDepth 20000 in
theorem mm_631 : Cond.fieldLink RZM 135 "TilePyramidModel" "place" "I" ∈ tbg := in_tables_1_3 (List.mem_of_getElem? (i := 151) (by decide +kernel)) (by decide +kernel)
set_option maxRecDepth 20000 in
theorem mm_632 : Cond.fieldLink RZM 25 "TilePyramidModel" "costs" "[I" ∈ tbg := in_tables_1_3 (List.mem_of_getElem? (i := 152) (by decide +kernel)) (by decide +kernel)
set_option maxRecDepth 20000 in
theorem mm_633 : Cond.fieldLink RZM 28 "TilePyramidModel" "seams" "[I" ∈ tbg := in_tables_1_3 (List.mem_of_getElem? (i := 153) (by decide +kernel)) (by decide +kernel)
set_option maxRecDepth 20000 in
theorem mm_634 : Cond.fieldLink RZM 166 "TilePyramidModel" "hasSeam" "Z" ∈ tbg := in_tables_1_3 (List.mem_of_getElem? (i := 154) (by decide +kernel)) (by decide +kernel)
set_option maxRecDepth 20000 in
theorem mm_635 : Cond.fieldLink RZM 31 "TilePyramidModel" "packing" "[I" ∈ tbg := in_tables_1_3 (List.mem_of_getElem? (i := 155) (by decide +kernel)) (by decide +kernel)
set_option maxRecDepth 20000 in
theorem mm_636 : Cond.lays "TilePyramidModel" "TilePyramidModel" "thrown" "I" ∈ tbg := in_tables_1_3 (List.mem_of_getElem? (i := 156) (by decide +kernel)) (by decide +kernel)
set_option maxRecDepth 20000 in
theorem mm_637 : Cond.soleField "TilePyramidModel" "thrown" ∈ tbg := in_tables_1_3 (List.mem_of_getElem? (i := 157) (by decide +kernel)) (by decide +kernel)
set_option maxRecDepth 20000 in
theorem mm_638 : Cond.laysFinal "TilePyramidModel" "TilePyramidModel" "width" "I" ∈ tbg := in_tables_1_3 (List.mem_of_getElem? (i := 158) (by decide +kernel)) (by decide +kernel)
set_option maxRecDepth 20000 in
theorem mm_639 : Cond.soleField "TilePyramidModel" "width" ∈ tbg := in_tables_1_3 (List.mem_of_getElem? (i := 159) (by decide +kernel)) (by decide +kernel)
set_option maxRecDepth 20000 in
theorem mm_640 : Cond.laysFinal "TilePyramidModel" "TilePyramidModel" "height" "I" ∈ tbg := in_tables_1_3 (List.mem_of_getElem? (i := 160) (by decide +kernel)) (by decide +kernel)
set_option maxRecDepth 20000 in
theorem mm_641 : Cond.soleField "TilePyramidModel" "height" ∈ tbg := in_tables_1_3 (List.mem_of_getElem? (i := 161) (by decide +kernel)) (by decide +kernel)
set_option maxRecDepth 20000 in
theorem mm_642 : Cond.laysFinal "TilePyramidModel" "TilePyramidModel" "picture" "[I" ∈ tbg := in_tables_1_3 (List.mem_of_getElem? (i := 162) (by decide +kernel)) (by decide +kernel)
set_option maxRecDepth 20000 in
theorem mm_643 : Cond.soleField "TilePyramidModel" "picture" ∈ tbg := in_tables_1_3 (List.mem_of_getElem? (i := 163) (by decide +kernel)) (by decide +kernel)
set_option maxRecDepth 20000 in
theorem mm_644 : Cond.laysFinal "TilePyramidModel" "TilePyramidModel" "strip" "[I" ∈ tbg := in_tables_1_3 (List.mem_of_getElem? (i := 164) (by decide +kernel)) (by decide +kernel)
set_option maxRecDepth 20000 in
theorem mm_645 : Cond.soleField "TilePyramidModel" "strip" ∈ tbg := in_tables_1_3 (List.mem_of_getElem? (i := 165) (by decide +kernel)) (by decide +kernel)
set_option maxRecDepth 20000 in
theorem mm_646 : Cond.laysFinal "TilePyramidModel" "TilePyramidModel" "buffer" "[I" ∈ tbg := in_tables_1_3 (List.mem_of_getElem? (i := 166) (by decide +kernel)) (by decide +kernel)
set_option maxRecDepth 20000 in
theorem mm_647 : Cond.soleField "TilePyramidModel" "buffer" ∈ tbg := in_tables_1_3 (List.mem_of_getElem? (i := 167) (by decide +kernel)) (by decide +kernel)
set_option maxRecDepth 20000 in
theorem mm_648 : Cond.lays "TilePyramidModel" "TilePyramidModel" "size" "I" ∈ tbg := in_tables_1_3 (List.mem_of_getElem? (i := 168) (by decide +kernel)) (by decide +kernel)
set_option maxRecDepth 20000 in
theorem mm_649 : Cond.soleField "TilePyramidModel" "size" ∈ tbg := in_tables_1_3 (List.mem_of_getElem? (i := 169) (by decide +kernel)) (by decide +kernel)
set_option maxRecDepth 20000 in
theorem mm_650 : Cond.laysFinal "TilePyramidModel" "TilePyramidModel" "tile" "[I" ∈ tbg := in_tables_1_3 (List.mem_of_getElem? (i := 170) (by decide +kernel)) (by decide +kernel)
set_option maxRecDepth 20000 in
theorem mm_651 : Cond.soleField "TilePyramidModel" "tile" ∈ tbg := in_tables_1_3 (List.mem_of_getElem? (i := 171) (by decide +kernel)) (by decide +kernel)
set_option maxRecDepth 20000 in
theorem mm_652 : Cond.laysFinal "TilePyramidModel" "TilePyramidModel" "opening" "[I" ∈ tbg := in_tables_1_3 (List.mem_of_getElem? (i := 172) (by decide +kernel)) (by decide +kernel)
set_option maxRecDepth 20000 in
theorem mm_653 : Cond.soleField "TilePyramidModel" "opening" ∈ tbg := in_tables_1_3 (List.mem_of_getElem? (i := 173) (by decide +kernel)) (by decide +kernel)
set_option maxRecDepth 20000 in
theorem mm_654 : Cond.lays "TilePyramidModel" "TilePyramidModel" "columns" "I" ∈ tbg := in_tables_1_3 (List.mem_of_getElem? (i := 174) (by decide +kernel)) (by decide +kernel)
set_option maxRecDepth 20000 in
theorem mm_655 : Cond.soleField "TilePyramidModel" "columns" ∈ tbg := in_tables_1_3 (List.mem_of_getElem? (i := 175) (by decide +kernel)) (by decide +kernel)
set_option maxRecDepth 20000 in
theorem mm_656 : Cond.lays "TilePyramidModel" "TilePyramidModel" "rows" "I" ∈ tbg := in_tables_1_3 (List.mem_of_getElem? (i := 176) (by decide +kernel)) (by decide +kernel)
set_option maxRecDepth 20000 in
theorem mm_657 : Cond.soleField "TilePyramidModel" "rows" ∈ tbg := in_tables_1_3 (List.mem_of_getElem? (i := 177) (by decide +kernel)) (by decide +kernel)
set_option maxRecDepth 20000 in
theorem mm_658 : Cond.lays "TilePyramidModel" "TilePyramidModel" "tileColumns" "I" ∈ tbg := in_tables_1_3 (List.mem_of_getElem? (i := 178) (by decide +kernel)) (by decide +kernel)
set_option maxRecDepth 20000 in
theorem mm_659 : Cond.soleField "TilePyramidModel" "tileColumns" ∈ tbg := in_tables_1_3 (List.mem_of_getElem? (i := 179) (by decide +kernel)) (by decide +kernel)
set_option maxRecDepth 20000 in
theorem mm_660 : Cond.lays "TilePyramidModel" "TilePyramidModel" "tileRows" "I" ∈ tbg := in_tables_1_3 (List.mem_of_getElem? (i := 180) (by decide +kernel)) (by decide +kernel)
set_option maxRecDepth 20000 in
theorem mm_661 : Cond.soleField "TilePyramidModel" "tileRows" ∈ tbg := in_tables_1_3 (List.mem_of_getElem? (i := 181) (by decide +kernel)) (by decide +kernel)
set_option maxRecDepth 20000 in
theorem mm_662 : Cond.lays "TilePyramidModel" "TilePyramidModel" "place" "I" ∈ tbg := in_tables_1_3 (List.mem_of_getElem? (i := 182) (by decide +kernel)) (by decide +kernel)
set_option maxRecDepth 20000 in
theorem mm_663 : Cond.soleField "TilePyramidModel" "place" ∈ tbg := in_tables_1_3 (List.mem_of_getElem? (i := 183) (by decide +kernel)) (by decide +kernel)
set_option maxRecDepth 20000 in
theorem mm_664 : Cond.lays "TilePyramidModel" "TilePyramidModel" "bit" "I" ∈ tbg := in_tables_1_3 (List.mem_of_getElem? (i := 184) (by decide +kernel)) (by decide +kernel)
set_option maxRecDepth 20000 in
theorem mm_665 : Cond.soleField "TilePyramidModel" "bit" ∈ tbg := in_tables_1_3 (List.mem_of_getElem? (i := 185) (by decide +kernel)) (by decide +kernel)
set_option maxRecDepth 20000 in
theorem mm_666 : Cond.laysFinal "TilePyramidModel" "TilePyramidModel" "costs" "[I" ∈ tbg := in_tables_1_3 (List.mem_of_getElem? (i := 186) (by decide +kernel)) (by decide +kernel)
set_option maxRecDepth 20000 in
theorem mm_667 : Cond.soleField "TilePyramidModel" "costs" ∈ tbg := in_tables_1_3 (List.mem_of_getElem? (i := 187) (by decide +kernel)) (by decide +kernel)
set_option maxRecDepth 20000 in
theorem mm_668 : Cond.laysFinal "TilePyramidModel" "TilePyramidModel" "seams" "[I" ∈ tbg := in_tables_1_3 (List.mem_of_getElem? (i := 188) (by decide +kernel)) (by decide +kernel)
set_option maxRecDepth 20000 in
theorem mm_669 : Cond.soleField "TilePyramidModel" "seams" ∈ tbg := in_tables_1_3 (List.mem_of_getElem? (i := 189) (by decide +kernel)) (by decide +kernel)
set_option maxRecDepth 20000 in
theorem mm_670 : Cond.lays "TilePyramidModel" "TilePyramidModel" "hasSeam" "Z" ∈ tbg := in_tables_1_3 (List.mem_of_getElem? (i := 190) (by decide +kernel)) (by decide +kernel)
set_option maxRecDepth 20000 in
theorem mm_671 : Cond.soleField "TilePyramidModel" "hasSeam" ∈ tbg := in_tables_1_3 (List.mem_of_getElem? (i := 191) (by decide +kernel)) (by decide +kernel)
set_option maxRecDepth 20000 in
theorem mm_672 : Cond.laysFinal "TilePyramidModel" "TilePyramidModel" "packing" "[I" ∈ tbg := in_tables_1_3 (List.mem_of_getElem? (i := 192) (by decide +kernel)) (by decide +kernel)
set_option maxRecDepth 20000 in
theorem mm_673 : Cond.soleField "TilePyramidModel" "packing" ∈ tbg := in_tables_1_3 (List.mem_of_getElem? (i := 193) (by decide +kernel)) (by decide +kernel)
set_option maxRecDepth 20000 in
theorem mm_674 : Cond.superclass "TilePyramidModel" "java/lang/Object" ∈ tbg := in_tables_1_3 (List.mem_of_getElem? (i := 194) (by decide +kernel)) (by decide +kernel)
set_option maxRecDepth 20000 in
theorem mm_675 : Cond.methodLink RZL 85 yZM_thrown ∈ tbg := in_tables_1_3 (List.mem_of_getElem? (i := 195) (by decide +kernel)) (by decide +kernel)
set_option maxRecDepth 20000 in
theorem mm_676 : Cond.instanceMethod yZM_thrown ∈ tbg := in_tables_1_3 (List.mem_of_getElem? (i := 196) (by decide +kernel)) (by decide +kernel)
set_option maxRecDepth 20000 in
theorem mm_677 : Cond.selects RZM yZM_thrown yZM_thrown ∈ tbg := in_tables_1_3 (List.mem_of_getElem? (i := 197) (by decide +kernel)) (by decide +kernel)
set_option maxRecDepth 20000 in
theorem mm_678 : Cond.code yZM_thrown cZM_thrown 1 (some .int) ∈ tbg := in_tables_1_3 (List.mem_of_getElem? (i := 198) rfl) rfl
set_option maxRecDepth 20000 in
theorem mm_679 : Cond.methodLink RZL 84 yZM_put ∈ tbg := in_tables_1_3 (List.mem_of_getElem? (i := 199) (by decide +kernel)) (by decide +kernel)
set_option maxRecDepth 20000 in
theorem mm_680 : Cond.instanceMethod yZM_put ∈ tbg := in_tables_1_3 (List.mem_of_getElem? (i := 200) (by decide +kernel)) (by decide +kernel)
set_option maxRecDepth 20000 in
theorem mm_681 : Cond.selects RZM yZM_put yZM_put ∈ tbg := in_tables_1_3 (List.mem_of_getElem? (i := 201) (by decide +kernel)) (by decide +kernel)
set_option maxRecDepth 20000 in
theorem mm_682 : Cond.code yZM_put cZM_put 5 (some .int) ∈ tbg := in_tables_1_3 (List.mem_of_getElem? (i := 202) rfl) rfl
set_option maxRecDepth 20000 in
theorem mm_683 : Cond.methodLink RZM 52 yZM_isPlace ∈ tbg := in_tables_1_3 (List.mem_of_getElem? (i := 203) (by decide +kernel)) (by decide +kernel)
set_option maxRecDepth 20000 in
theorem mm_685 : Cond.instanceMethod yZM_isPlace ∈ tbg := in_tables_1_3 (List.mem_of_getElem? (i := 205) (by decide +kernel)) (by decide +kernel)
set_option maxRecDepth 20000 in
theorem mm_686 : Cond.code yZM_isPlace cZM_isPlace 3 (some .boolean) ∈ tbg := in_tables_1_3 (List.mem_of_getElem? (i := 206) rfl) rfl
set_option maxRecDepth 20000 in
theorem mm_687 : Cond.methodLink RZM 48 yZM_in ∈ tbg := in_tables_1_3 (List.mem_of_getElem? (i := 207) (by decide +kernel)) (by decide +kernel)
set_option maxRecDepth 20000 in
theorem mm_688 : Cond.static yZM_in ∈ tbg := in_tables_1_3 (List.mem_of_getElem? (i := 208) (by decide +kernel)) (by decide +kernel)
set_option maxRecDepth 20000 in
theorem mm_689 : Cond.code yZM_in cZM_in 3 (some .boolean) ∈ tbg := in_tables_1_3 (List.mem_of_getElem? (i := 209) rfl) rfl
set_option maxRecDepth 20000 in
theorem mm_690 : Cond.methodLink RZM 56 yZM_isByte ∈ tbg := in_tables_1_3 (List.mem_of_getElem? (i := 210) (by decide +kernel)) (by decide +kernel)
set_option maxRecDepth 20000 in
theorem mm_691 : Cond.static yZM_isByte ∈ tbg := in_tables_1_3 (List.mem_of_getElem? (i := 211) (by decide +kernel)) (by decide +kernel)
set_option maxRecDepth 20000 in
theorem mm_692 : Cond.code yZM_isByte cZM_isByte 1 (some .boolean) ∈ tbg := in_tables_1_3 (List.mem_of_getElem? (i := 212) rfl) rfl
set_option maxRecDepth 20000 in
theorem mm_693 : Cond.methodLink RZM 60 yZM_throwing ∈ tbg := in_tables_1_3 (List.mem_of_getElem? (i := 213) (by decide +kernel)) (by decide +kernel)
set_option maxRecDepth 20000 in
theorem mm_695 : Cond.instanceMethod yZM_throwing ∈ tbg := in_tables_1_3 (List.mem_of_getElem? (i := 215) (by decide +kernel)) (by decide +kernel)
set_option maxRecDepth 20000 in
theorem mm_696 : Cond.code yZM_throwing cZM_throwing 3 (some .boolean) ∈ tbg := in_tables_1_3 (List.mem_of_getElem? (i := 216) rfl) rfl
set_option maxRecDepth 20000 in
theorem mm_697 : Cond.methodLink RZL 92 yZM_change ∈ tbg := in_tables_1_3 (List.mem_of_getElem? (i := 217) (by decide +kernel)) (by decide +kernel)
set_option maxRecDepth 20000 in
theorem mm_698 : Cond.instanceMethod yZM_change ∈ tbg := in_tables_1_3 (List.mem_of_getElem? (i := 218) (by decide +kernel)) (by decide +kernel)
set_option maxRecDepth 20000 in
theorem mm_699 : Cond.selects RZM yZM_change yZM_change ∈ tbg := in_tables_1_3 (List.mem_of_getElem? (i := 219) (by decide +kernel)) (by decide +kernel)
set_option maxRecDepth 20000 in
theorem mm_700 : Cond.code yZM_change cZM_change 9 (some .int) ∈ tbg := in_tables_1_3 (List.mem_of_getElem? (i := 220) rfl) rfl
set_option maxRecDepth 20000 in
theorem mm_701 : Cond.methodLink RZM 72 yZM_isPart ∈ tbg := in_tables_1_3 (List.mem_of_getElem? (i := 221) (by decide +kernel)) (by decide +kernel)
set_option maxRecDepth 20000 in
theorem mm_702 : Cond.static yZM_isPart ∈ tbg := in_tables_1_3 (List.mem_of_getElem? (i := 222) (by decide +kernel)) (by decide +kernel)
set_option maxRecDepth 20000 in
theorem mm_703 : Cond.code yZM_isPart cZM_isPart 6 (some .boolean) ∈ tbg := in_tables_1_3 (List.mem_of_getElem? (i := 223) rfl) rfl
set_option maxRecDepth 20000 in
theorem mm_704 : Cond.methodLink RZM 68 yZM_many ∈ tbg := in_tables_1_3 (List.mem_of_getElem? (i := 224) (by decide +kernel)) (by decide +kernel)
set_option maxRecDepth 20000 in
theorem mm_706 : Cond.instanceMethod yZM_many ∈ tbg := in_tables_1_3 (List.mem_of_getElem? (i := 226) (by decide +kernel)) (by decide +kernel)
set_option maxRecDepth 20000 in
theorem mm_707 : Cond.code yZM_many cZM_many 2 (some .int) ∈ tbg := in_tables_1_3 (List.mem_of_getElem? (i := 227) rfl) rfl
set_option maxRecDepth 20000 in
theorem mm_708 : Cond.methodLink RZM 64 yZM_half ∈ tbg := in_tables_1_3 (List.mem_of_getElem? (i := 228) (by decide +kernel)) (by decide +kernel)
set_option maxRecDepth 20000 in
theorem mm_709 : Cond.static yZM_half ∈ tbg := in_tables_1_3 (List.mem_of_getElem? (i := 229) (by decide +kernel)) (by decide +kernel)
set_option maxRecDepth 20000 in
theorem mm_710 : Cond.code yZM_half cZM_half 4 (some .int) ∈ tbg := in_tables_1_3 (List.mem_of_getElem? (i := 230) rfl) rfl
set_option maxRecDepth 20000 in
theorem mm_711 : Cond.methodLink RZL 96 yZM_levels ∈ tbg := in_tables_1_3 (List.mem_of_getElem? (i := 231) (by decide +kernel)) (by decide +kernel)
set_option maxRecDepth 20000 in
theorem mm_712 : Cond.instanceMethod yZM_levels ∈ tbg := in_tables_1_3 (List.mem_of_getElem? (i := 232) (by decide +kernel)) (by decide +kernel)
set_option maxRecDepth 20000 in
theorem mm_713 : Cond.selects RZM yZM_levels yZM_levels ∈ tbg := in_tables_1_3 (List.mem_of_getElem? (i := 233) (by decide +kernel)) (by decide +kernel)
set_option maxRecDepth 20000 in
theorem mm_714 : Cond.code yZM_levels cZM_levels 1 (some .int) ∈ tbg := in_tables_1_3 (List.mem_of_getElem? (i := 234) rfl) rfl
set_option maxRecDepth 20000 in
theorem mm_715 : Cond.methodLink RZL 100 yZM_size ∈ tbg := in_tables_1_3 (List.mem_of_getElem? (i := 235) (by decide +kernel)) (by decide +kernel)
set_option maxRecDepth 20000 in
theorem mm_716 : Cond.instanceMethod yZM_size ∈ tbg := in_tables_1_3 (List.mem_of_getElem? (i := 236) (by decide +kernel)) (by decide +kernel)
set_option maxRecDepth 20000 in
theorem mm_717 : Cond.selects RZM yZM_size yZM_size ∈ tbg := in_tables_1_3 (List.mem_of_getElem? (i := 237) (by decide +kernel)) (by decide +kernel)
set_option maxRecDepth 20000 in
theorem mm_718 : Cond.code yZM_size cZM_size 3 (some .int) ∈ tbg := in_tables_1_3 (List.mem_of_getElem? (i := 238) rfl) rfl
set_option maxRecDepth 20000 in
theorem mm_719 : Cond.methodLink RZM 76 yZM_isLevel ∈ tbg := in_tables_1_3 (List.mem_of_getElem? (i := 239) (by decide +kernel)) (by decide +kernel)
set_option maxRecDepth 20000 in
theorem mm_721 : Cond.instanceMethod yZM_isLevel ∈ tbg := in_tables_1_4 (List.mem_of_getElem? (i := 1) (by decide +kernel)) (by decide +kernel)
set_option maxRecDepth 20000 in
theorem mm_722 : Cond.code yZM_isLevel cZM_isLevel 2 (some .boolean) ∈ tbg := in_tables_1_4 (List.mem_of_getElem? (i := 2) rfl) rfl
set_option maxRecDepth 20000 in
theorem mm_723 : Cond.methodLink RZM 79 yZM_across ∈ tbg := in_tables_1_4 (List.mem_of_getElem? (i := 3) (by decide +kernel)) (by decide +kernel)
set_option maxRecDepth 20000 in
theorem mm_725 : Cond.instanceMethod yZM_across ∈ tbg := in_tables_1_4 (List.mem_of_getElem? (i := 5) (by decide +kernel)) (by decide +kernel)
set_option maxRecDepth 20000 in
theorem mm_726 : Cond.code yZM_across cZM_across 2 (some .int) ∈ tbg := in_tables_1_4 (List.mem_of_getElem? (i := 6) rfl) rfl
set_option maxRecDepth 20000 in
theorem mm_727 : Cond.methodLink RZM 82 yZM_down ∈ tbg := in_tables_1_4 (List.mem_of_getElem? (i := 7) (by decide +kernel)) (by decide +kernel)
set_option maxRecDepth 20000 in
theorem mm_729 : Cond.instanceMethod yZM_down ∈ tbg := in_tables_1_4 (List.mem_of_getElem? (i := 9) (by decide +kernel)) (by decide +kernel)
set_option maxRecDepth 20000 in
theorem mm_730 : Cond.code yZM_down cZM_down 2 (some .int) ∈ tbg := in_tables_1_4 (List.mem_of_getElem? (i := 10) rfl) rfl
set_option maxRecDepth 20000 in
theorem mm_731 : Cond.methodLink RZL 103 yZM_at ∈ tbg := in_tables_1_4 (List.mem_of_getElem? (i := 11) (by decide +kernel)) (by decide +kernel)
set_option maxRecDepth 20000 in
theorem mm_732 : Cond.instanceMethod yZM_at ∈ tbg := in_tables_1_4 (List.mem_of_getElem? (i := 12) (by decide +kernel)) (by decide +kernel)
set_option maxRecDepth 20000 in
theorem mm_733 : Cond.selects RZM yZM_at yZM_at ∈ tbg := in_tables_1_4 (List.mem_of_getElem? (i := 13) (by decide +kernel)) (by decide +kernel)
set_option maxRecDepth 20000 in
theorem mm_734 : Cond.code yZM_at cZM_at 4 (some .int) ∈ tbg := in_tables_1_4 (List.mem_of_getElem? (i := 14) rfl) rfl
set_option maxRecDepth 20000 in
theorem mm_735 : Cond.methodLink RZM 95 yZM_isAt ∈ tbg := in_tables_1_4 (List.mem_of_getElem? (i := 15) (by decide +kernel)) (by decide +kernel)
set_option maxRecDepth 20000 in
theorem mm_737 : Cond.instanceMethod yZM_isAt ∈ tbg := in_tables_1_4 (List.mem_of_getElem? (i := 17) (by decide +kernel)) (by decide +kernel)
set_option maxRecDepth 20000 in
theorem mm_738 : Cond.code yZM_isAt cZM_isAt 4 (some .boolean) ∈ tbg := in_tables_1_4 (List.mem_of_getElem? (i := 18) rfl) rfl
set_option maxRecDepth 20000 in
theorem mm_739 : Cond.methodLink RZM 98 yZM_sample ∈ tbg := in_tables_1_4 (List.mem_of_getElem? (i := 19) (by decide +kernel)) (by decide +kernel)
set_option maxRecDepth 20000 in
theorem mm_741 : Cond.instanceMethod yZM_sample ∈ tbg := in_tables_1_4 (List.mem_of_getElem? (i := 21) (by decide +kernel)) (by decide +kernel)
set_option maxRecDepth 20000 in
theorem mm_742 : Cond.code yZM_sample cZM_sample 5 (some .int) ∈ tbg := in_tables_1_4 (List.mem_of_getElem? (i := 22) rfl) rfl
set_option maxRecDepth 20000 in
theorem mm_743 : Cond.methodLink RZM 89 yZM_countUnder ∈ tbg := in_tables_1_4 (List.mem_of_getElem? (i := 23) (by decide +kernel)) (by decide +kernel)
set_option maxRecDepth 20000 in
theorem mm_745 : Cond.instanceMethod yZM_countUnder ∈ tbg := in_tables_1_4 (List.mem_of_getElem? (i := 25) (by decide +kernel)) (by decide +kernel)
set_option maxRecDepth 20000 in
theorem mm_746 : Cond.code yZM_countUnder cZM_countUnder 4 (some .int) ∈ tbg := in_tables_1_4 (List.mem_of_getElem? (i := 26) rfl) rfl
set_option maxRecDepth 20000 in
theorem mm_747 : Cond.methodLink RZM 85 yZM_under ∈ tbg := in_tables_1_4 (List.mem_of_getElem? (i := 27) (by decide +kernel)) (by decide +kernel)
set_option maxRecDepth 20000 in
theorem mm_749 : Cond.instanceMethod yZM_under ∈ tbg := in_tables_1_4 (List.mem_of_getElem? (i := 29) (by decide +kernel)) (by decide +kernel)
set_option maxRecDepth 20000 in
theorem mm_750 : Cond.code yZM_under cZM_under 6 (some .int) ∈ tbg := in_tables_1_4 (List.mem_of_getElem? (i := 30) rfl) rfl
set_option maxRecDepth 20000 in
theorem mm_751 : Cond.methodLink RZM 92 yZM_sumUnder ∈ tbg := in_tables_1_4 (List.mem_of_getElem? (i := 31) (by decide +kernel)) (by decide +kernel)
set_option maxRecDepth 20000 in
theorem mm_753 : Cond.instanceMethod yZM_sumUnder ∈ tbg := in_tables_1_4 (List.mem_of_getElem? (i := 33) (by decide +kernel)) (by decide +kernel)
set_option maxRecDepth 20000 in
theorem mm_754 : Cond.code yZM_sumUnder cZM_sumUnder 8 (some .int) ∈ tbg := in_tables_1_4 (List.mem_of_getElem? (i := 34) rfl) rfl
set_option maxRecDepth 20000 in
theorem mm_755 : Cond.methodLink RZL 107 yZM_mean ∈ tbg := in_tables_1_4 (List.mem_of_getElem? (i := 35) (by decide +kernel)) (by decide +kernel)
set_option maxRecDepth 20000 in
theorem mm_756 : Cond.instanceMethod yZM_mean ∈ tbg := in_tables_1_4 (List.mem_of_getElem? (i := 36) (by decide +kernel)) (by decide +kernel)
set_option maxRecDepth 20000 in
theorem mm_757 : Cond.selects RZM yZM_mean yZM_mean ∈ tbg := in_tables_1_4 (List.mem_of_getElem? (i := 37) (by decide +kernel)) (by decide +kernel)
set_option maxRecDepth 20000 in
theorem mm_758 : Cond.code yZM_mean cZM_mean 8 (some .int) ∈ tbg := in_tables_1_4 (List.mem_of_getElem? (i := 38) rfl) rfl
set_option maxRecDepth 20000 in
theorem mm_759 : Cond.methodLink RZL 110 yZM_zoom ∈ tbg := in_tables_1_4 (List.mem_of_getElem? (i := 39) (by decide +kernel)) (by decide +kernel)
set_option maxRecDepth 20000 in
theorem mm_760 : Cond.instanceMethod yZM_zoom ∈ tbg := in_tables_1_4 (List.mem_of_getElem? (i := 40) (by decide +kernel)) (by decide +kernel)
set_option maxRecDepth 20000 in
theorem mm_761 : Cond.selects RZM yZM_zoom yZM_zoom ∈ tbg := in_tables_1_4 (List.mem_of_getElem? (i := 41) (by decide +kernel)) (by decide +kernel)
set_option maxRecDepth 20000 in
theorem mm_762 : Cond.code yZM_zoom cZM_zoom 9 (some .int) ∈ tbg := in_tables_1_4 (List.mem_of_getElem? (i := 42) rfl) rfl
set_option maxRecDepth 20000 in
theorem mm_763 : Cond.methodLink RZL 113 yZM_turned ∈ tbg := in_tables_1_4 (List.mem_of_getElem? (i := 43) (by decide +kernel)) (by decide +kernel)
set_option maxRecDepth 20000 in
theorem mm_764 : Cond.instanceMethod yZM_turned ∈ tbg := in_tables_1_4 (List.mem_of_getElem? (i := 44) (by decide +kernel)) (by decide +kernel)
set_option maxRecDepth 20000 in
theorem mm_765 : Cond.selects RZM yZM_turned yZM_turned ∈ tbg := in_tables_1_4 (List.mem_of_getElem? (i := 45) (by decide +kernel)) (by decide +kernel)
set_option maxRecDepth 20000 in
theorem mm_766 : Cond.code yZM_turned cZM_turned 8 (some .int) ∈ tbg := in_tables_1_4 (List.mem_of_getElem? (i := 46) rfl) rfl
set_option maxRecDepth 20000 in
theorem mm_767 : Cond.methodLink RZL 116 yZM_pack ∈ tbg := in_tables_1_4 (List.mem_of_getElem? (i := 47) (by decide +kernel)) (by decide +kernel)
set_option maxRecDepth 20000 in
theorem mm_768 : Cond.instanceMethod yZM_pack ∈ tbg := in_tables_1_4 (List.mem_of_getElem? (i := 48) (by decide +kernel)) (by decide +kernel)
set_option maxRecDepth 20000 in
theorem mm_769 : Cond.selects RZM yZM_pack yZM_pack ∈ tbg := in_tables_1_4 (List.mem_of_getElem? (i := 49) (by decide +kernel)) (by decide +kernel)
set_option maxRecDepth 20000 in
theorem mm_770 : Cond.code yZM_pack cZM_pack 7 (some .int) ∈ tbg := in_tables_1_4 (List.mem_of_getElem? (i := 50) rfl) rfl
set_option maxRecDepth 20000 in
theorem mm_771 : Cond.methodLink RZM 112 yZM_isTile ∈ tbg := in_tables_1_4 (List.mem_of_getElem? (i := 51) (by decide +kernel)) (by decide +kernel)
set_option maxRecDepth 20000 in
theorem mm_773 : Cond.instanceMethod yZM_isTile ∈ tbg := in_tables_1_4 (List.mem_of_getElem? (i := 53) (by decide +kernel)) (by decide +kernel)
set_option maxRecDepth 20000 in
theorem mm_774 : Cond.code yZM_isTile cZM_isTile 4 (some .boolean) ∈ tbg := in_tables_1_4 (List.mem_of_getElem? (i := 54) rfl) rfl
set_option maxRecDepth 20000 in
theorem mm_775 : Cond.methodLink RZM 115 yZM_part ∈ tbg := in_tables_1_4 (List.mem_of_getElem? (i := 55) (by decide +kernel)) (by decide +kernel)
set_option maxRecDepth 20000 in
theorem mm_776 : Cond.static yZM_part ∈ tbg := in_tables_1_4 (List.mem_of_getElem? (i := 56) (by decide +kernel)) (by decide +kernel)
set_option maxRecDepth 20000 in
theorem mm_777 : Cond.code yZM_part cZM_part 2 (some .int) ∈ tbg := in_tables_1_4 (List.mem_of_getElem? (i := 57) rfl) rfl
set_option maxRecDepth 20000 in
theorem mm_778 : Cond.methodLink RZM 118 yZM_write ∈ tbg := in_tables_1_4 (List.mem_of_getElem? (i := 58) (by decide +kernel)) (by decide +kernel)
set_option maxRecDepth 20000 in
theorem mm_780 : Cond.instanceMethod yZM_write ∈ tbg := in_tables_1_4 (List.mem_of_getElem? (i := 60) (by decide +kernel)) (by decide +kernel)
set_option maxRecDepth 20000 in
theorem mm_781 : Cond.code yZM_write cZM_write 2 none ∈ tbg := in_tables_1_4 (List.mem_of_getElem? (i := 61) rfl) rfl
set_option maxRecDepth 20000 in
theorem mm_782 : Cond.methodLink RZM 122 yZM_writeRow ∈ tbg := in_tables_1_4 (List.mem_of_getElem? (i := 62) (by decide +kernel)) (by decide +kernel)
set_option maxRecDepth 20000 in
theorem mm_784 : Cond.instanceMethod yZM_writeRow ∈ tbg := in_tables_1_4 (List.mem_of_getElem? (i := 64) (by decide +kernel)) (by decide +kernel)
set_option maxRecDepth 20000 in
theorem mm_785 : Cond.code yZM_writeRow cZM_writeRow 7 none ∈ tbg := in_tables_1_4 (List.mem_of_getElem? (i := 65) rfl) rfl
set_option maxRecDepth 20000 in
theorem mm_786 : Cond.methodLink RZM 129 yZM_rowBits ∈ tbg := in_tables_1_4 (List.mem_of_getElem? (i := 66) (by decide +kernel)) (by decide +kernel)
set_option maxRecDepth 20000 in
theorem mm_787 : Cond.static yZM_rowBits ∈ tbg := in_tables_1_4 (List.mem_of_getElem? (i := 67) (by decide +kernel)) (by decide +kernel)
set_option maxRecDepth 20000 in
theorem mm_788 : Cond.code yZM_rowBits cZM_rowBits 6 (some .int) ∈ tbg := in_tables_1_4 (List.mem_of_getElem? (i := 68) rfl) rfl
set_option maxRecDepth 20000 in
theorem mm_789 : Cond.methodLink RZM 105 yZM_told ∈ tbg := in_tables_1_4 (List.mem_of_getElem? (i := 69) (by decide +kernel)) (by decide +kernel)
set_option maxRecDepth 20000 in
theorem mm_790 : Cond.static yZM_told ∈ tbg := in_tables_1_4 (List.mem_of_getElem? (i := 70) (by decide +kernel)) (by decide +kernel)
set_option maxRecDepth 20000 in
theorem mm_791 : Cond.code yZM_told cZM_told 5 (some .int) ∈ tbg := in_tables_1_4 (List.mem_of_getElem? (i := 71) rfl) rfl
set_option maxRecDepth 20000 in
theorem mm_792 : Cond.methodLink RZM 109 yZM_bitsOf ∈ tbg := in_tables_1_4 (List.mem_of_getElem? (i := 72) (by decide +kernel)) (by decide +kernel)
set_option maxRecDepth 20000 in
theorem mm_793 : Cond.static yZM_bitsOf ∈ tbg := in_tables_1_4 (List.mem_of_getElem? (i := 73) (by decide +kernel)) (by decide +kernel)
set_option maxRecDepth 20000 in
theorem mm_794 : Cond.code yZM_bitsOf cZM_bitsOf 2 (some .int) ∈ tbg := in_tables_1_4 (List.mem_of_getElem? (i := 74) rfl) rfl
set_option maxRecDepth 20000 in
theorem mm_795 : Cond.methodLink RZM 126 yZM_sum ∈ tbg := in_tables_1_4 (List.mem_of_getElem? (i := 75) (by decide +kernel)) (by decide +kernel)
set_option maxRecDepth 20000 in
theorem mm_797 : Cond.instanceMethod yZM_sum ∈ tbg := in_tables_1_4 (List.mem_of_getElem? (i := 77) (by decide +kernel)) (by decide +kernel)
set_option maxRecDepth 20000 in
theorem mm_798 : Cond.code yZM_sum cZM_sum 4 (some .int) ∈ tbg := in_tables_1_4 (List.mem_of_getElem? (i := 78) rfl) rfl
set_option maxRecDepth 20000 in
theorem mm_799 : Cond.constant RZM 104 65521 ∈ tbg := in_tables_1_4 (List.mem_of_getElem? (i := 79) (by decide +kernel)) (by decide +kernel)
set_option maxRecDepth 20000 in
theorem mm_800 : Cond.methodLink RZL 120 yZM_load ∈ tbg := in_tables_1_4 (List.mem_of_getElem? (i := 80) (by decide +kernel)) (by decide +kernel)
set_option maxRecDepth 20000 in
theorem mm_801 : Cond.instanceMethod yZM_load ∈ tbg := in_tables_1_4 (List.mem_of_getElem? (i := 81) (by decide +kernel)) (by decide +kernel)
set_option maxRecDepth 20000 in
theorem mm_802 : Cond.selects RZM yZM_load yZM_load ∈ tbg := in_tables_1_4 (List.mem_of_getElem? (i := 82) (by decide +kernel)) (by decide +kernel)
set_option maxRecDepth 20000 in
theorem mm_803 : Cond.code yZM_load cZM_load 2 (some .int) ∈ tbg := in_tables_1_4 (List.mem_of_getElem? (i := 83) rfl) rfl
set_option maxRecDepth 20000 in
theorem mm_804 : Cond.methodLink RZL 124 yZM_clear ∈ tbg := in_tables_1_4 (List.mem_of_getElem? (i := 84) (by decide +kernel)) (by decide +kernel)
set_option maxRecDepth 20000 in
theorem mm_805 : Cond.instanceMethod yZM_clear ∈ tbg := in_tables_1_4 (List.mem_of_getElem? (i := 85) (by decide +kernel)) (by decide +kernel)
set_option maxRecDepth 20000 in
theorem mm_806 : Cond.selects RZM yZM_clear yZM_clear ∈ tbg := in_tables_1_4 (List.mem_of_getElem? (i := 86) (by decide +kernel)) (by decide +kernel)
set_option maxRecDepth 20000 in
theorem mm_807 : Cond.code yZM_clear cZM_clear 2 (some .int) ∈ tbg := in_tables_1_4 (List.mem_of_getElem? (i := 87) rfl) rfl
set_option maxRecDepth 20000 in
theorem mm_808 : Cond.methodLink RZL 127 yZM_byteAt ∈ tbg := in_tables_1_4 (List.mem_of_getElem? (i := 88) (by decide +kernel)) (by decide +kernel)
set_option maxRecDepth 20000 in
theorem mm_809 : Cond.instanceMethod yZM_byteAt ∈ tbg := in_tables_1_4 (List.mem_of_getElem? (i := 89) (by decide +kernel)) (by decide +kernel)
set_option maxRecDepth 20000 in
theorem mm_810 : Cond.selects RZM yZM_byteAt yZM_byteAt ∈ tbg := in_tables_1_4 (List.mem_of_getElem? (i := 90) (by decide +kernel)) (by decide +kernel)
set_option maxRecDepth 20000 in
theorem mm_811 : Cond.code yZM_byteAt cZM_byteAt 2 (some .int) ∈ tbg := in_tables_1_4 (List.mem_of_getElem? (i := 91) rfl) rfl
set_option maxRecDepth 20000 in
theorem mm_812 : Cond.methodLink RZM 132 yZM_hasByte ∈ tbg := in_tables_1_4 (List.mem_of_getElem? (i := 92) (by decide +kernel)) (by decide +kernel)
set_option maxRecDepth 20000 in
theorem mm_814 : Cond.instanceMethod yZM_hasByte ∈ tbg := in_tables_1_4 (List.mem_of_getElem? (i := 94) (by decide +kernel)) (by decide +kernel)
set_option maxRecDepth 20000 in
theorem mm_815 : Cond.code yZM_hasByte cZM_hasByte 2 (some .boolean) ∈ tbg := in_tables_1_4 (List.mem_of_getElem? (i := 95) rfl) rfl
set_option maxRecDepth 20000 in
theorem mm_816 : Cond.methodLink RZL 130 yZM_poke ∈ tbg := in_tables_1_4 (List.mem_of_getElem? (i := 96) (by decide +kernel)) (by decide +kernel)
set_option maxRecDepth 20000 in
theorem mm_817 : Cond.instanceMethod yZM_poke ∈ tbg := in_tables_1_4 (List.mem_of_getElem? (i := 97) (by decide +kernel)) (by decide +kernel)
set_option maxRecDepth 20000 in
theorem mm_818 : Cond.selects RZM yZM_poke yZM_poke ∈ tbg := in_tables_1_4 (List.mem_of_getElem? (i := 98) (by decide +kernel)) (by decide +kernel)
set_option maxRecDepth 20000 in
theorem mm_819 : Cond.code yZM_poke cZM_poke 3 (some .int) ∈ tbg := in_tables_1_4 (List.mem_of_getElem? (i := 99) rfl) rfl
set_option maxRecDepth 20000 in
theorem mm_820 : Cond.methodLink RZL 134 yZM_open ∈ tbg := in_tables_1_4 (List.mem_of_getElem? (i := 100) (by decide +kernel)) (by decide +kernel)
set_option maxRecDepth 20000 in
theorem mm_821 : Cond.instanceMethod yZM_open ∈ tbg := in_tables_1_4 (List.mem_of_getElem? (i := 101) (by decide +kernel)) (by decide +kernel)
set_option maxRecDepth 20000 in
theorem mm_822 : Cond.selects RZM yZM_open yZM_open ∈ tbg := in_tables_1_4 (List.mem_of_getElem? (i := 102) (by decide +kernel)) (by decide +kernel)
set_option maxRecDepth 20000 in
theorem mm_823 : Cond.code yZM_open cZM_open 4 (some .int) ∈ tbg := in_tables_1_4 (List.mem_of_getElem? (i := 103) rfl) rfl
set_option maxRecDepth 20000 in
theorem mm_824 : Cond.methodLink RZM 147 yZM_readRow ∈ tbg := in_tables_1_4 (List.mem_of_getElem? (i := 104) (by decide +kernel)) (by decide +kernel)
set_option maxRecDepth 20000 in
theorem mm_826 : Cond.instanceMethod yZM_readRow ∈ tbg := in_tables_1_4 (List.mem_of_getElem? (i := 106) (by decide +kernel)) (by decide +kernel)
set_option maxRecDepth 20000 in
theorem mm_827 : Cond.code yZM_readRow cZM_readRow 10 (some .boolean) ∈ tbg := in_tables_1_4 (List.mem_of_getElem? (i := 107) rfl) rfl
set_option maxRecDepth 20000 in
theorem mm_828 : Cond.methodLink RZM 141 yZM_bitAt ∈ tbg := in_tables_1_4 (List.mem_of_getElem? (i := 108) (by decide +kernel)) (by decide +kernel)
set_option maxRecDepth 20000 in
theorem mm_830 : Cond.instanceMethod yZM_bitAt ∈ tbg := in_tables_1_4 (List.mem_of_getElem? (i := 110) (by decide +kernel)) (by decide +kernel)
set_option maxRecDepth 20000 in
theorem mm_831 : Cond.code yZM_bitAt cZM_bitAt 2 (some .int) ∈ tbg := in_tables_1_4 (List.mem_of_getElem? (i := 111) rfl) rfl
set_option maxRecDepth 20000 in
theorem mm_832 : Cond.methodLink RZL 137 yZM_opened ∈ tbg := in_tables_1_4 (List.mem_of_getElem? (i := 112) (by decide +kernel)) (by decide +kernel)
set_option maxRecDepth 20000 in
theorem mm_833 : Cond.instanceMethod yZM_opened ∈ tbg := in_tables_1_4 (List.mem_of_getElem? (i := 113) (by decide +kernel)) (by decide +kernel)
set_option maxRecDepth 20000 in
theorem mm_834 : Cond.selects RZM yZM_opened yZM_opened ∈ tbg := in_tables_1_4 (List.mem_of_getElem? (i := 114) (by decide +kernel)) (by decide +kernel)
set_option maxRecDepth 20000 in
theorem mm_835 : Cond.code yZM_opened cZM_opened 2 (some .int) ∈ tbg := in_tables_1_4 (List.mem_of_getElem? (i := 115) rfl) rfl
set_option maxRecDepth 20000 in
theorem mm_836 : Cond.methodLink RZL 140 yZM_restore ∈ tbg := in_tables_1_4 (List.mem_of_getElem? (i := 116) (by decide +kernel)) (by decide +kernel)
set_option maxRecDepth 20000 in
theorem mm_837 : Cond.instanceMethod yZM_restore ∈ tbg := in_tables_1_4 (List.mem_of_getElem? (i := 117) (by decide +kernel)) (by decide +kernel)
set_option maxRecDepth 20000 in
theorem mm_838 : Cond.selects RZM yZM_restore yZM_restore ∈ tbg := in_tables_1_4 (List.mem_of_getElem? (i := 118) (by decide +kernel)) (by decide +kernel)
set_option maxRecDepth 20000 in
theorem mm_839 : Cond.code yZM_restore cZM_restore 6 (some .boolean) ∈ tbg := in_tables_1_4 (List.mem_of_getElem? (i := 119) rfl) rfl
set_option maxRecDepth 20000 in
theorem mm_840 : Cond.methodLink RZL 143 yZM_strip ∈ tbg := in_tables_1_4 (List.mem_of_getElem? (i := 120) (by decide +kernel)) (by decide +kernel)
set_option maxRecDepth 20000 in
theorem mm_841 : Cond.instanceMethod yZM_strip ∈ tbg := in_tables_1_4 (List.mem_of_getElem? (i := 121) (by decide +kernel)) (by decide +kernel)
set_option maxRecDepth 20000 in
theorem mm_842 : Cond.selects RZM yZM_strip yZM_strip ∈ tbg := in_tables_1_4 (List.mem_of_getElem? (i := 122) (by decide +kernel)) (by decide +kernel)
set_option maxRecDepth 20000 in
theorem mm_843 : Cond.code yZM_strip cZM_strip 5 (some .int) ∈ tbg := in_tables_1_4 (List.mem_of_getElem? (i := 123) rfl) rfl
set_option maxRecDepth 20000 in
theorem mm_844 : Cond.methodLink RZL 146 yZM_seam ∈ tbg := in_tables_1_4 (List.mem_of_getElem? (i := 124) (by decide +kernel)) (by decide +kernel)
set_option maxRecDepth 20000 in
theorem mm_845 : Cond.instanceMethod yZM_seam ∈ tbg := in_tables_1_4 (List.mem_of_getElem? (i := 125) (by decide +kernel)) (by decide +kernel)
set_option maxRecDepth 20000 in
theorem mm_846 : Cond.selects RZM yZM_seam yZM_seam ∈ tbg := in_tables_1_4 (List.mem_of_getElem? (i := 126) (by decide +kernel)) (by decide +kernel)
set_option maxRecDepth 20000 in
theorem mm_847 : Cond.code yZM_seam cZM_seam 6 (some .int) ∈ tbg := in_tables_1_4 (List.mem_of_getElem? (i := 127) rfl) rfl
set_option maxRecDepth 20000 in
theorem mm_848 : Cond.methodLink RZM 160 yZM_costAt ∈ tbg := in_tables_1_4 (List.mem_of_getElem? (i := 128) (by decide +kernel)) (by decide +kernel)
set_option maxRecDepth 20000 in
theorem mm_850 : Cond.instanceMethod yZM_costAt ∈ tbg := in_tables_1_4 (List.mem_of_getElem? (i := 130) (by decide +kernel)) (by decide +kernel)
set_option maxRecDepth 20000 in
theorem mm_851 : Cond.code yZM_costAt cZM_costAt 5 (some .int) ∈ tbg := in_tables_1_4 (List.mem_of_getElem? (i := 131) rfl) rfl
set_option maxRecDepth 20000 in
theorem mm_852 : Cond.methodLink RZM 163 yZM_leastAround ∈ tbg := in_tables_1_4 (List.mem_of_getElem? (i := 132) (by decide +kernel)) (by decide +kernel)
set_option maxRecDepth 20000 in
theorem mm_854 : Cond.instanceMethod yZM_leastAround ∈ tbg := in_tables_1_4 (List.mem_of_getElem? (i := 134) (by decide +kernel)) (by decide +kernel)
set_option maxRecDepth 20000 in
theorem mm_855 : Cond.code yZM_leastAround cZM_leastAround 6 (some .int) ∈ tbg := in_tables_1_4 (List.mem_of_getElem? (i := 135) rfl) rfl
set_option maxRecDepth 20000 in
theorem mm_856 : Cond.methodLink RZM 157 yZM_cost ∈ tbg := in_tables_1_4 (List.mem_of_getElem? (i := 136) (by decide +kernel)) (by decide +kernel)
set_option maxRecDepth 20000 in
theorem mm_858 : Cond.instanceMethod yZM_cost ∈ tbg := in_tables_1_4 (List.mem_of_getElem? (i := 138) (by decide +kernel)) (by decide +kernel)
set_option maxRecDepth 20000 in
theorem mm_859 : Cond.code yZM_cost cZM_cost 4 (some .int) ∈ tbg := in_tables_1_4 (List.mem_of_getElem? (i := 139) rfl) rfl
set_option maxRecDepth 20000 in
theorem mm_860 : Cond.constant RZM 156 1000000000 ∈ tbg := in_tables_1_4 (List.mem_of_getElem? (i := 140) (by decide +kernel)) (by decide +kernel)
set_option maxRecDepth 20000 in
theorem mm_861 : Cond.methodLink RZL 149 yZM_seamAt ∈ tbg := in_tables_1_4 (List.mem_of_getElem? (i := 141) (by decide +kernel)) (by decide +kernel)
set_option maxRecDepth 20000 in
theorem mm_862 : Cond.instanceMethod yZM_seamAt ∈ tbg := in_tables_1_4 (List.mem_of_getElem? (i := 142) (by decide +kernel)) (by decide +kernel)
set_option maxRecDepth 20000 in
theorem mm_863 : Cond.selects RZM yZM_seamAt yZM_seamAt ∈ tbg := in_tables_1_4 (List.mem_of_getElem? (i := 143) (by decide +kernel)) (by decide +kernel)
set_option maxRecDepth 20000 in
theorem mm_864 : Cond.code yZM_seamAt cZM_seamAt 2 (some .int) ∈ tbg := in_tables_1_4 (List.mem_of_getElem? (i := 144) rfl) rfl
set_option maxRecDepth 20000 in
theorem mm_865 : Cond.arrayClass .long ∈ tbg := in_tables_1_4 (List.mem_of_getElem? (i := 145) (by decide +kernel)) (by decide +kernel)
set_option maxRecDepth 20000 in
theorem mm_866 : Cond.sameMethod "java/lang/Throwable" "java/lang/Throwable" "fillInStackTrace" "(I)Ljava/lang/Throwable;" ∈ tbg := in_tables_1_4 (List.mem_of_getElem? (i := 146) (by decide +kernel)) (by decide +kernel)
theorem mp_1 : Cond.selects RZS yZS_addUpRow yZS_addUpRow ∈ tbg := in_priv (List.mem_of_getElem? (i := 1) (by decide +kernel)) (by decide +kernel)
theorem mp_2 : Cond.selects RZS yZS_cheapestNear yZS_cheapestNear ∈ tbg := in_priv (List.mem_of_getElem? (i := 2) (by decide +kernel)) (by decide +kernel)
theorem mp_3 : Cond.selects RZS yZS_cheapest yZS_cheapest ∈ tbg := in_priv (List.mem_of_getElem? (i := 3) (by decide +kernel)) (by decide +kernel)
theorem mp_4 : Cond.selects RZM yZM_isPlace yZM_isPlace ∈ tbg := in_priv (List.mem_of_getElem? (i := 4) (by decide +kernel)) (by decide +kernel)
theorem mp_5 : Cond.selects RZM yZM_throwing yZM_throwing ∈ tbg := in_priv (List.mem_of_getElem? (i := 5) (by decide +kernel)) (by decide +kernel)
theorem mp_6 : Cond.selects RZM yZM_many yZM_many ∈ tbg := in_priv (List.mem_of_getElem? (i := 6) (by decide +kernel)) (by decide +kernel)
theorem mp_7 : Cond.selects RZM yZM_isLevel yZM_isLevel ∈ tbg := in_priv (List.mem_of_getElem? (i := 7) (by decide +kernel)) (by decide +kernel)
theorem mp_8 : Cond.selects RZM yZM_across yZM_across ∈ tbg := in_priv (List.mem_of_getElem? (i := 8) (by decide +kernel)) (by decide +kernel)
theorem mp_9 : Cond.selects RZM yZM_down yZM_down ∈ tbg := in_priv (List.mem_of_getElem? (i := 9) (by decide +kernel)) (by decide +kernel)
theorem mp_10 : Cond.selects RZM yZM_isAt yZM_isAt ∈ tbg := in_priv (List.mem_of_getElem? (i := 10) (by decide +kernel)) (by decide +kernel)
theorem mp_11 : Cond.selects RZM yZM_sample yZM_sample ∈ tbg := in_priv (List.mem_of_getElem? (i := 11) (by decide +kernel)) (by decide +kernel)
theorem mp_12 : Cond.selects RZM yZM_countUnder yZM_countUnder ∈ tbg := in_priv (List.mem_of_getElem? (i := 12) (by decide +kernel)) (by decide +kernel)
theorem mp_13 : Cond.selects RZM yZM_under yZM_under ∈ tbg := in_priv (List.mem_of_getElem? (i := 13) (by decide +kernel)) (by decide +kernel)
theorem mp_14 : Cond.selects RZM yZM_sumUnder yZM_sumUnder ∈ tbg := in_priv (List.mem_of_getElem? (i := 14) (by decide +kernel)) (by decide +kernel)
theorem mp_15 : Cond.selects RZM yZM_isTile yZM_isTile ∈ tbg := in_priv (List.mem_of_getElem? (i := 15) (by decide +kernel)) (by decide +kernel)
theorem mp_16 : Cond.selects RZM yZM_write yZM_write ∈ tbg := in_priv (List.mem_of_getElem? (i := 16) (by decide +kernel)) (by decide +kernel)
theorem mp_17 : Cond.selects RZM yZM_writeRow yZM_writeRow ∈ tbg := in_priv (List.mem_of_getElem? (i := 17) (by decide +kernel)) (by decide +kernel)
theorem mp_18 : Cond.selects RZM yZM_sum yZM_sum ∈ tbg := in_priv (List.mem_of_getElem? (i := 18) (by decide +kernel)) (by decide +kernel)
theorem mp_19 : Cond.selects RZM yZM_hasByte yZM_hasByte ∈ tbg := in_priv (List.mem_of_getElem? (i := 19) (by decide +kernel)) (by decide +kernel)
theorem mp_20 : Cond.selects RZM yZM_readRow yZM_readRow ∈ tbg := in_priv (List.mem_of_getElem? (i := 20) (by decide +kernel)) (by decide +kernel)
theorem mp_21 : Cond.selects RZM yZM_bitAt yZM_bitAt ∈ tbg := in_priv (List.mem_of_getElem? (i := 21) (by decide +kernel)) (by decide +kernel)
theorem mp_22 : Cond.selects RZM yZM_costAt yZM_costAt ∈ tbg := in_priv (List.mem_of_getElem? (i := 22) (by decide +kernel)) (by decide +kernel)
theorem mp_23 : Cond.selects RZM yZM_leastAround yZM_leastAround ∈ tbg := in_priv (List.mem_of_getElem? (i := 23) (by decide +kernel)) (by decide +kernel)
theorem mp_24 : Cond.selects RZM yZM_cost yZM_cost ∈ tbg := in_priv (List.mem_of_getElem? (i := 24) (by decide +kernel)) (by decide +kernel)
theorem inZB : ∀ w ∈ u_ws RZB TZB 2, w ∈ tbg := by decide +kernel
theorem inZP : ∀ w ∈ u_ws RZP TZP 3, w ∈ tbg := by decide +kernel
theorem inZY : ∀ w ∈ u_ws RZY TZY 2, w ∈ tbg := by decide +kernel
theorem inZS : ∀ w ∈ u_ws RZS TZS 5, w ∈ tbg := by decide +kernel
theorem inZT : ∀ w ∈ u_ws RZT TZT 3, w ∈ tbg := by decide +kernel
theorem inZQ : ∀ w ∈ u_ws RZQ TZQ 7, w ∈ tbg := by decide +kernel
theorem inZM : ∀ w ∈ u_ws RZM TZM 19, w ∈ tbg := by decide +kernel

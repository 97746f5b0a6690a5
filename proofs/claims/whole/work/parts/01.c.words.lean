def lw_g : List Cond := lw_tbl.filter goodWord
theorem tg_of {w : Cond} (h : w ∈ lw_tbl) (g : goodWord w = true) : w ∈ lw_g := List.mem_filter.mpr ⟨h, g⟩
theorem tg_in {w : Cond} (h : w ∈ lw_g) : w ∈ lw_tbl := (List.mem_filter.mp h).1
theorem tg_good {w : Cond} (h : w ∈ lw_g) : goodWord w = true := (List.mem_filter.mp h).2
theorem tw_1 {w : Cond} (h : w ∈ tables_1_1) : w ∈ lw_tbl := List.mem_append_right _ (List.mem_append_left _ h)
theorem tw_2 {w : Cond} (h : w ∈ tables_1_2) : w ∈ lw_tbl := List.mem_append_right _ (List.mem_append_right _ (List.mem_append_left _ h))
theorem tw_3 {w : Cond} (h : w ∈ tables_1_3) : w ∈ lw_tbl := List.mem_append_right _ (List.mem_append_right _ (List.mem_append_right _ (List.mem_append_left _ h)))
theorem tw_4 {w : Cond} (h : w ∈ tables_1_4) : w ∈ lw_tbl := List.mem_append_right _ (List.mem_append_right _ (List.mem_append_right _ (List.mem_append_right _ (List.mem_append_left _ h))))
theorem tw_5 {w : Cond} (h : w ∈ tables_1_5) : w ∈ lw_tbl := List.mem_append_right _ (List.mem_append_right _ (List.mem_append_right _ (List.mem_append_right _ (List.mem_append_right _ h))))
theorem mw_0 : Cond.initialized "BallotDeskLaw" ∈ lw_g := tg_of (tw_1 (List.mem_of_getElem? (i := 0) rfl)) rfl
theorem mw_1 : Cond.initialized "BallotDesk" ∈ lw_g := tg_of (tw_1 (List.mem_of_getElem? (i := 1) rfl)) rfl
theorem mw_2 : Cond.initialized "BallotDesk$Poll" ∈ lw_g := tg_of (tw_1 (List.mem_of_getElem? (i := 2) rfl)) rfl
theorem mw_3 : Cond.initialized "BallotDesk$Order" ∈ lw_g := tg_of (tw_1 (List.mem_of_getElem? (i := 3) rfl)) rfl
theorem mw_4 : Cond.initialized "java/util/Arrays" ∈ lw_g := tg_of (tw_1 (List.mem_of_getElem? (i := 4) rfl)) rfl
theorem mw_5 : Cond.initialized "BallotDesk$WhatIf" ∈ lw_g := tg_of (tw_1 (List.mem_of_getElem? (i := 5) rfl)) rfl
theorem mw_6 : Cond.initialized "BallotDesk$Rules" ∈ lw_g := tg_of (tw_1 (List.mem_of_getElem? (i := 6) rfl)) rfl
theorem mw_7 : Cond.initialized "BallotDesk$Elimination" ∈ lw_g := tg_of (tw_1 (List.mem_of_getElem? (i := 7) rfl)) rfl
theorem mw_8 : Cond.initialized "BallotDesk$Paths" ∈ lw_g := tg_of (tw_1 (List.mem_of_getElem? (i := 8) rfl)) rfl
theorem mw_9 : Cond.initialized "BallotDesk$Locks" ∈ lw_g := tg_of (tw_1 (List.mem_of_getElem? (i := 9) rfl)) rfl
theorem mw_10 : Cond.initialized "BallotDesk$Agreement" ∈ lw_g := tg_of (tw_1 (List.mem_of_getElem? (i := 10) rfl)) rfl
theorem mw_11 : Cond.initialized "BallotDesk$Orders" ∈ lw_g := tg_of (tw_1 (List.mem_of_getElem? (i := 11) rfl)) rfl
theorem mw_12 : Cond.initialized "BallotDeskModel" ∈ lw_g := tg_of (tw_1 (List.mem_of_getElem? (i := 12) rfl)) rfl
theorem mw_13 : Cond.initialized "java/lang/Throwable" ∈ lw_g := tg_of (tw_1 (List.mem_of_getElem? (i := 13) rfl)) rfl
theorem mw_14 : Cond.initialized "java/lang/Exception" ∈ lw_g := tg_of (tw_1 (List.mem_of_getElem? (i := 14) rfl)) rfl
theorem mw_15 : Cond.initialized "java/lang/RuntimeException" ∈ lw_g := tg_of (tw_1 (List.mem_of_getElem? (i := 15) rfl)) rfl
theorem mw_16 : Cond.initialized "java/lang/IllegalArgumentException" ∈ lw_g := tg_of (tw_1 (List.mem_of_getElem? (i := 16) rfl)) rfl
theorem mw_17 : Cond.initialized "java/lang/IllegalStateException" ∈ lw_g := tg_of (tw_1 (List.mem_of_getElem? (i := 17) rfl)) rfl
theorem mw_18 : Cond.initialized "java/util/NoSuchElementException" ∈ lw_g := tg_of (tw_1 (List.mem_of_getElem? (i := 18) rfl)) rfl
theorem mw_19 : Cond.initialized "java/lang/Math" ∈ lw_g := tg_of (tw_1 (List.mem_of_getElem? (i := 19) rfl)) rfl
theorem mw_20 : Cond.initialized "java/lang/Integer" ∈ lw_g := tg_of (tw_1 (List.mem_of_getElem? (i := 20) rfl)) rfl
theorem mw_21 : Cond.initialized "BallotDesk$Scores" ∈ lw_g := tg_of (tw_1 (List.mem_of_getElem? (i := 21) rfl)) rfl
theorem mw_22 : Cond.initialized "java/lang/System" ∈ lw_g := tg_of (tw_1 (List.mem_of_getElem? (i := 22) rfl)) rfl
theorem mw_23 : Cond.classLink "BallotDeskLaw" 8 "BallotDesk" ∈ lw_g := tg_of (tw_1 (List.mem_of_getElem? (i := 23) rfl)) rfl
theorem mw_24 : Cond.instantiable "BallotDesk" 5 ∈ lw_g := tg_of (tw_1 (List.mem_of_getElem? (i := 24) rfl)) rfl
theorem mw_25 : Cond.methodLink "BallotDeskLaw" 75 yn_D_init ∈ lw_g := tg_of (tw_1 (List.mem_of_getElem? (i := 25) rfl)) rfl
theorem mw_26 : Cond.instanceMethod yn_D_init ∈ lw_g := tg_of (tw_1 (List.mem_of_getElem? (i := 26) rfl)) rfl
theorem mw_27 : Cond.code yn_D_init prog_1_method_1_code 1 (Option.none : Option Jvm.ClassFile.FieldType) ∈ lw_g := tg_of (tw_1 (List.mem_of_getElem? (i := 27) rfl)) rfl
theorem mw_28 : Cond.methodLink "BallotDesk" 3 ⟨"java/lang/Object", "<init>", "()V"⟩ ∈ lw_g := tg_of (tw_1 (List.mem_of_getElem? (i := 28) rfl)) rfl
theorem mw_29 : Cond.instanceMethod ⟨"java/lang/Object", "<init>", "()V"⟩ ∈ lw_g := tg_of (tw_1 (List.mem_of_getElem? (i := 29) rfl)) rfl
theorem mw_30 : Cond.code ⟨"java/lang/Object", "<init>", "()V"⟩ object_method_1_code 1 (Option.none : Option Jvm.ClassFile.FieldType) ∈ lw_g := tg_of (tw_1 (List.mem_of_getElem? (i := 30) rfl)) rfl
theorem mw_31 : Cond.classLink "BallotDesk" 9 "BallotDesk$Poll" ∈ lw_g := tg_of (tw_1 (List.mem_of_getElem? (i := 31) rfl)) rfl
theorem mw_32 : Cond.instantiable "BallotDesk$Poll" 9 ∈ lw_g := tg_of (tw_1 (List.mem_of_getElem? (i := 32) rfl)) rfl
theorem mt_33 : Cond.methodLinkNest "BallotDesk" 11 yn_P_init "BallotDesk" ∈ lw_tbl := tw_1 (List.mem_of_getElem? (i := 33) rfl)
theorem mw_34 : Cond.instanceMethod yn_P_init ∈ lw_g := tg_of (tw_1 (List.mem_of_getElem? (i := 34) rfl)) rfl
theorem mw_35 : Cond.code yn_P_init prog_8_method_1_code 1 (Option.none : Option Jvm.ClassFile.FieldType) ∈ lw_g := tg_of (tw_1 (List.mem_of_getElem? (i := 35) rfl)) rfl
theorem mw_36 : Cond.methodLink "BallotDesk$Poll" 3 ⟨"java/lang/Object", "<init>", "()V"⟩ ∈ lw_g := tg_of (tw_1 (List.mem_of_getElem? (i := 36) rfl)) rfl
theorem mw_37 : Cond.classLink "BallotDesk$Poll" 21 "[[I" ∈ lw_g := tg_of (tw_1 (List.mem_of_getElem? (i := 37) rfl)) rfl
theorem mw_39 : Cond.fieldLink "BallotDesk$Poll" 9 "BallotDesk$Poll" "orders" "[I" ∈ lw_g := tg_of (tw_1 (List.mem_of_getElem? (i := 39) rfl)) rfl
theorem mw_40 : Cond.fieldLink "BallotDesk$WhatIf" 32 "BallotDesk$Poll" "orders" "[I" ∈ lw_g := tg_of (tw_1 (List.mem_of_getElem? (i := 40) rfl)) rfl
theorem mw_41 : Cond.fieldLink "BallotDesk" 76 "BallotDesk$Poll" "orders" "[I" ∈ lw_g := tg_of (tw_1 (List.mem_of_getElem? (i := 41) rfl)) rfl
theorem mw_42 : Cond.fieldLink "BallotDesk$Elimination" 53 "BallotDesk$Poll" "orders" "[I" ∈ lw_g := tg_of (tw_1 (List.mem_of_getElem? (i := 42) rfl)) rfl
theorem mw_43 : Cond.fieldLink "BallotDesk$Poll" 15 "BallotDesk$Poll" "voters" "[I" ∈ lw_g := tg_of (tw_1 (List.mem_of_getElem? (i := 43) rfl)) rfl
theorem mw_44 : Cond.fieldLink "BallotDesk$WhatIf" 56 "BallotDesk$Poll" "voters" "[I" ∈ lw_g := tg_of (tw_1 (List.mem_of_getElem? (i := 44) rfl)) rfl
theorem mw_45 : Cond.fieldLink "BallotDesk" 72 "BallotDesk$Poll" "voters" "[I" ∈ lw_g := tg_of (tw_1 (List.mem_of_getElem? (i := 45) rfl)) rfl
theorem mw_46 : Cond.fieldLink "BallotDesk$Elimination" 56 "BallotDesk$Poll" "voters" "[I" ∈ lw_g := tg_of (tw_1 (List.mem_of_getElem? (i := 46) rfl)) rfl
theorem mw_47 : Cond.fieldLink "BallotDesk$Poll" 18 "BallotDesk$Poll" "weights" "[I" ∈ lw_g := tg_of (tw_1 (List.mem_of_getElem? (i := 47) rfl)) rfl
theorem mw_48 : Cond.fieldLink "BallotDesk$Scores" 35 "BallotDesk$Poll" "weights" "[I" ∈ lw_g := tg_of (tw_1 (List.mem_of_getElem? (i := 48) rfl)) rfl
theorem mw_49 : Cond.fieldLink "BallotDesk" 92 "BallotDesk$Poll" "weights" "[I" ∈ lw_g := tg_of (tw_1 (List.mem_of_getElem? (i := 49) rfl)) rfl
theorem mw_50 : Cond.fieldLink "BallotDesk$Poll" 23 "BallotDesk$Poll" "placed" "[[I" ∈ lw_g := tg_of (tw_1 (List.mem_of_getElem? (i := 50) rfl)) rfl
theorem mw_51 : Cond.fieldLink "BallotDesk$Scores" 9 "BallotDesk$Poll" "placed" "[[I" ∈ lw_g := tg_of (tw_1 (List.mem_of_getElem? (i := 51) rfl)) rfl
theorem mw_52 : Cond.fieldLink "BallotDesk$Rules" 83 "BallotDesk$Poll" "placed" "[[I" ∈ lw_g := tg_of (tw_1 (List.mem_of_getElem? (i := 52) rfl)) rfl
theorem mw_53 : Cond.fieldLink "BallotDesk$Poll" 26 "BallotDesk$Poll" "ahead" "[[I" ∈ lw_g := tg_of (tw_1 (List.mem_of_getElem? (i := 53) rfl)) rfl
theorem mw_54 : Cond.fieldLink "BallotDesk$Paths" 26 "BallotDesk$Poll" "ahead" "[[I" ∈ lw_g := tg_of (tw_1 (List.mem_of_getElem? (i := 54) rfl)) rfl
theorem mw_55 : Cond.fieldLink "BallotDesk$Locks" 58 "BallotDesk$Poll" "ahead" "[[I" ∈ lw_g := tg_of (tw_1 (List.mem_of_getElem? (i := 55) rfl)) rfl
theorem mw_56 : Cond.fieldLink "BallotDesk$Scores" 43 "BallotDesk$Poll" "ahead" "[[I" ∈ lw_g := tg_of (tw_1 (List.mem_of_getElem? (i := 56) rfl)) rfl
theorem mw_57 : Cond.fieldLink "BallotDesk$Agreement" 52 "BallotDesk$Poll" "ahead" "[[I" ∈ lw_g := tg_of (tw_1 (List.mem_of_getElem? (i := 57) rfl)) rfl
theorem mw_58 : Cond.fieldLink "BallotDesk" 119 "BallotDesk$Poll" "ahead" "[[I" ∈ lw_g := tg_of (tw_1 (List.mem_of_getElem? (i := 58) rfl)) rfl
theorem mw_59 : Cond.fieldLink "BallotDesk$Poll" 29 "BallotDesk$Poll" "size" "I" ∈ lw_g := tg_of (tw_1 (List.mem_of_getElem? (i := 59) rfl)) rfl
theorem mw_60 : Cond.fieldLink "BallotDesk$Paths" 16 "BallotDesk$Poll" "size" "I" ∈ lw_g := tg_of (tw_1 (List.mem_of_getElem? (i := 60) rfl)) rfl
theorem mw_61 : Cond.fieldLink "BallotDesk$Elimination" 23 "BallotDesk$Poll" "size" "I" ∈ lw_g := tg_of (tw_1 (List.mem_of_getElem? (i := 61) rfl)) rfl
theorem mw_62 : Cond.fieldLink "BallotDesk$WhatIf" 39 "BallotDesk$Poll" "size" "I" ∈ lw_g := tg_of (tw_1 (List.mem_of_getElem? (i := 62) rfl)) rfl
theorem mw_63 : Cond.fieldLink "BallotDesk" 43 "BallotDesk$Poll" "size" "I" ∈ lw_g := tg_of (tw_1 (List.mem_of_getElem? (i := 63) rfl)) rfl
theorem mw_64 : Cond.fieldLink "BallotDesk$Locks" 47 "BallotDesk$Poll" "size" "I" ∈ lw_g := tg_of (tw_1 (List.mem_of_getElem? (i := 64) rfl)) rfl
theorem mw_65 : Cond.fieldLink "BallotDesk$Agreement" 30 "BallotDesk$Poll" "size" "I" ∈ lw_g := tg_of (tw_1 (List.mem_of_getElem? (i := 65) rfl)) rfl
theorem mw_66 : Cond.fieldLink "BallotDesk$Scores" 15 "BallotDesk$Poll" "size" "I" ∈ lw_g := tg_of (tw_1 (List.mem_of_getElem? (i := 66) rfl)) rfl
theorem mw_67 : Cond.fieldLink "BallotDesk$Rules" 71 "BallotDesk$Poll" "size" "I" ∈ lw_g := tg_of (tw_1 (List.mem_of_getElem? (i := 67) rfl)) rfl
theorem mw_68 : Cond.fieldLink "BallotDesk$Poll" 48 "BallotDesk$Poll" "types" "I" ∈ lw_g := tg_of (tw_1 (List.mem_of_getElem? (i := 68) rfl)) rfl
theorem mw_69 : Cond.fieldLink "BallotDesk" 56 "BallotDesk$Poll" "types" "I" ∈ lw_g := tg_of (tw_1 (List.mem_of_getElem? (i := 69) rfl)) rfl
theorem mw_70 : Cond.fieldLink "BallotDesk$WhatIf" 92 "BallotDesk$Poll" "types" "I" ∈ lw_g := tg_of (tw_1 (List.mem_of_getElem? (i := 70) rfl)) rfl
theorem mw_71 : Cond.fieldLink "BallotDesk$Elimination" 50 "BallotDesk$Poll" "types" "I" ∈ lw_g := tg_of (tw_1 (List.mem_of_getElem? (i := 71) rfl)) rfl
theorem mw_72 : Cond.fieldLink "BallotDesk$Poll" 39 "BallotDesk$Poll" "tie" "I" ∈ lw_g := tg_of (tw_1 (List.mem_of_getElem? (i := 72) rfl)) rfl
theorem mw_73 : Cond.fieldLink "BallotDesk$Locks" 38 "BallotDesk$Poll" "tie" "I" ∈ lw_g := tg_of (tw_1 (List.mem_of_getElem? (i := 73) rfl)) rfl
theorem mw_74 : Cond.fieldLink "BallotDesk" 86 "BallotDesk$Poll" "tie" "I" ∈ lw_g := tg_of (tw_1 (List.mem_of_getElem? (i := 74) rfl)) rfl
theorem mw_75 : Cond.fieldLink "BallotDesk$Poll" 42 "BallotDesk$Poll" "agenda" "I" ∈ lw_g := tg_of (tw_1 (List.mem_of_getElem? (i := 75) rfl)) rfl
theorem mw_76 : Cond.fieldLink "BallotDesk$Rules" 100 "BallotDesk$Poll" "agenda" "I" ∈ lw_g := tg_of (tw_1 (List.mem_of_getElem? (i := 76) rfl)) rfl
theorem mw_77 : Cond.fieldLink "BallotDesk" 89 "BallotDesk$Poll" "agenda" "I" ∈ lw_g := tg_of (tw_1 (List.mem_of_getElem? (i := 77) rfl)) rfl
theorem mw_97 : Cond.arrayClass Jvm.ClassFile.FieldType.int ∈ lw_g := tg_of (tw_1 (List.mem_of_getElem? (i := 97) rfl)) rfl
theorem mw_98 : Cond.methodLink "BallotDesk" 16 yn_P_open ∈ lw_g := tg_of (tw_1 (List.mem_of_getElem? (i := 98) rfl)) rfl
theorem mw_99 : Cond.instanceMethod yn_P_open ∈ lw_g := tg_of (tw_1 (List.mem_of_getElem? (i := 99) rfl)) rfl
theorem mw_100 : Cond.selects "BallotDesk$Poll" yn_P_open yn_P_open ∈ lw_g := tg_of (tw_1 (List.mem_of_getElem? (i := 100) rfl)) rfl
theorem mw_101 : Cond.code yn_P_open prog_8_method_2_code 3 (Option.none : Option Jvm.ClassFile.FieldType) ∈ lw_g := tg_of (tw_1 (List.mem_of_getElem? (i := 101) rfl)) rfl
theorem mw_102 : Cond.methodLink "BallotDesk$Poll" 33 yn_O_ascending ∈ lw_g := tg_of (tw_1 (List.mem_of_getElem? (i := 102) rfl)) rfl
theorem mw_103 : Cond.static yn_O_ascending ∈ lw_g := tg_of (tw_1 (List.mem_of_getElem? (i := 103) rfl)) rfl
theorem mw_104 : Cond.code yn_O_ascending prog_5_method_4_code 3 (Option.some Jvm.ClassFile.FieldType.int) ∈ lw_g := tg_of (tw_1 (List.mem_of_getElem? (i := 104) rfl)) rfl
theorem mw_105 : Cond.methodLink "BallotDesk$Poll" 45 yn_P_empty ∈ lw_g := tg_of (tw_1 (List.mem_of_getElem? (i := 105) rfl)) rfl
theorem mw_107 : Cond.instanceMethod yn_P_empty ∈ lw_g := tg_of (tw_1 (List.mem_of_getElem? (i := 107) rfl)) rfl
theorem mw_108 : Cond.code yn_P_empty prog_8_method_3_code 2 (Option.none : Option Jvm.ClassFile.FieldType) ∈ lw_g := tg_of (tw_1 (List.mem_of_getElem? (i := 108) rfl)) rfl
theorem mw_109 : Cond.methodLink "BallotDesk$Poll" 51 yn_JA_fill ∈ lw_g := tg_of (tw_1 (List.mem_of_getElem? (i := 109) rfl)) rfl
theorem mw_110 : Cond.static yn_JA_fill ∈ lw_g := tg_of (tw_1 (List.mem_of_getElem? (i := 110) rfl)) rfl
theorem mw_111 : Cond.code yn_JA_fill prog_22_method_103_code 4 (Option.none : Option Jvm.ClassFile.FieldType) ∈ lw_g := tg_of (tw_1 (List.mem_of_getElem? (i := 111) rfl)) rfl
theorem mw_112 : Cond.classLink "BallotDesk" 20 "BallotDesk$WhatIf" ∈ lw_g := tg_of (tw_1 (List.mem_of_getElem? (i := 112) rfl)) rfl
theorem mw_113 : Cond.instantiable "BallotDesk$WhatIf" 4 ∈ lw_g := tg_of (tw_1 (List.mem_of_getElem? (i := 113) rfl)) rfl
theorem mt_114 : Cond.methodLinkNest "BallotDesk" 22 yn_W_init "BallotDesk" ∈ lw_tbl := tw_1 (List.mem_of_getElem? (i := 114) rfl)
theorem mw_115 : Cond.instanceMethod yn_W_init ∈ lw_g := tg_of (tw_1 (List.mem_of_getElem? (i := 115) rfl)) rfl
theorem mw_116 : Cond.code yn_W_init prog_11_method_1_code 1 (Option.none : Option Jvm.ClassFile.FieldType) ∈ lw_g := tg_of (tw_1 (List.mem_of_getElem? (i := 116) rfl)) rfl
theorem mw_117 : Cond.methodLink "BallotDesk$WhatIf" 3 ⟨"java/lang/Object", "<init>", "()V"⟩ ∈ lw_g := tg_of (tw_1 (List.mem_of_getElem? (i := 117) rfl)) rfl
theorem mw_118 : Cond.classLink "BallotDesk$WhatIf" 9 "BallotDesk$Rules" ∈ lw_g := tg_of (tw_1 (List.mem_of_getElem? (i := 118) rfl)) rfl
theorem mw_119 : Cond.instantiable "BallotDesk$Rules" 5 ∈ lw_g := tg_of (tw_1 (List.mem_of_getElem? (i := 119) rfl)) rfl
theorem mt_120 : Cond.methodLinkNest "BallotDesk$WhatIf" 11 yn_R_init "BallotDesk" ∈ lw_tbl := tw_1 (List.mem_of_getElem? (i := 120) rfl)
theorem mw_121 : Cond.instanceMethod yn_R_init ∈ lw_g := tg_of (tw_1 (List.mem_of_getElem? (i := 121) rfl)) rfl
theorem mw_122 : Cond.code yn_R_init prog_9_method_1_code 1 (Option.none : Option Jvm.ClassFile.FieldType) ∈ lw_g := tg_of (tw_1 (List.mem_of_getElem? (i := 122) rfl)) rfl
theorem mw_123 : Cond.methodLink "BallotDesk$Rules" 3 ⟨"java/lang/Object", "<init>", "()V"⟩ ∈ lw_g := tg_of (tw_1 (List.mem_of_getElem? (i := 123) rfl)) rfl
theorem mw_124 : Cond.classLink "BallotDesk$Rules" 9 "BallotDesk$Elimination" ∈ lw_g := tg_of (tw_1 (List.mem_of_getElem? (i := 124) rfl)) rfl
theorem mw_125 : Cond.instantiable "BallotDesk$Elimination" 2 ∈ lw_g := tg_of (tw_1 (List.mem_of_getElem? (i := 125) rfl)) rfl
theorem mt_126 : Cond.methodLinkNest "BallotDesk$Rules" 11 yn_E_init "BallotDesk" ∈ lw_tbl := tw_1 (List.mem_of_getElem? (i := 126) rfl)
theorem mw_127 : Cond.instanceMethod yn_E_init ∈ lw_g := tg_of (tw_1 (List.mem_of_getElem? (i := 127) rfl)) rfl
theorem mw_128 : Cond.code yn_E_init prog_3_method_1_code 1 (Option.none : Option Jvm.ClassFile.FieldType) ∈ lw_g := tg_of (tw_1 (List.mem_of_getElem? (i := 128) rfl)) rfl
theorem mw_129 : Cond.methodLink "BallotDesk$Elimination" 3 ⟨"java/lang/Object", "<init>", "()V"⟩ ∈ lw_g := tg_of (tw_1 (List.mem_of_getElem? (i := 129) rfl)) rfl
theorem mw_130 : Cond.fieldLink "BallotDesk$Elimination" 9 "BallotDesk$Elimination" "canBeLeft" "[Z" ∈ lw_g := tg_of (tw_1 (List.mem_of_getElem? (i := 130) rfl)) rfl
theorem mw_131 : Cond.fieldLink "BallotDesk$Elimination" 15 "BallotDesk$Elimination" "leads" "[I" ∈ lw_g := tg_of (tw_1 (List.mem_of_getElem? (i := 131) rfl)) rfl
theorem mw_137 : Cond.arrayClass Jvm.ClassFile.FieldType.boolean ∈ lw_g := tg_of (tw_1 (List.mem_of_getElem? (i := 137) rfl)) rfl
theorem mw_138 : Cond.classLink "BallotDesk$Rules" 18 "BallotDesk$Paths" ∈ lw_g := tg_of (tw_1 (List.mem_of_getElem? (i := 138) rfl)) rfl
theorem mw_139 : Cond.instantiable "BallotDesk$Paths" 1 ∈ lw_g := tg_of (tw_1 (List.mem_of_getElem? (i := 139) rfl)) rfl
theorem mt_140 : Cond.methodLinkNest "BallotDesk$Rules" 20 yn_H_init "BallotDesk" ∈ lw_tbl := tw_1 (List.mem_of_getElem? (i := 140) rfl)
theorem mw_141 : Cond.instanceMethod yn_H_init ∈ lw_g := tg_of (tw_1 (List.mem_of_getElem? (i := 141) rfl)) rfl
theorem mw_142 : Cond.code yn_H_init prog_7_method_1_code 1 (Option.none : Option Jvm.ClassFile.FieldType) ∈ lw_g := tg_of (tw_1 (List.mem_of_getElem? (i := 142) rfl)) rfl
theorem mw_143 : Cond.methodLink "BallotDesk$Paths" 3 ⟨"java/lang/Object", "<init>", "()V"⟩ ∈ lw_g := tg_of (tw_1 (List.mem_of_getElem? (i := 143) rfl)) rfl
theorem mw_144 : Cond.classLink "BallotDesk$Paths" 9 "[[I" ∈ lw_g := tg_of (tw_1 (List.mem_of_getElem? (i := 144) rfl)) rfl
theorem mw_145 : Cond.fieldLink "BallotDesk$Paths" 11 "BallotDesk$Paths" "strength" "[[I" ∈ lw_g := tg_of (tw_1 (List.mem_of_getElem? (i := 145) rfl)) rfl
theorem mw_146 : Cond.fieldLink "BallotDesk" 133 "BallotDesk$Paths" "strength" "[[I" ∈ lw_g := tg_of (tw_1 (List.mem_of_getElem? (i := 146) rfl)) rfl
theorem mw_150 : Cond.classLink "BallotDesk$Rules" 25 "BallotDesk$Locks" ∈ lw_g := tg_of (tw_1 (List.mem_of_getElem? (i := 150) rfl)) rfl
theorem mw_151 : Cond.instantiable "BallotDesk$Locks" 3 ∈ lw_g := tg_of (tw_1 (List.mem_of_getElem? (i := 151) rfl)) rfl
theorem mt_152 : Cond.methodLinkNest "BallotDesk$Rules" 27 yn_K_init "BallotDesk" ∈ lw_tbl := tw_1 (List.mem_of_getElem? (i := 152) rfl)
theorem mw_153 : Cond.instanceMethod yn_K_init ∈ lw_g := tg_of (tw_1 (List.mem_of_getElem? (i := 153) rfl)) rfl
theorem mw_154 : Cond.code yn_K_init prog_4_method_1_code 1 (Option.none : Option Jvm.ClassFile.FieldType) ∈ lw_g := tg_of (tw_1 (List.mem_of_getElem? (i := 154) rfl)) rfl
theorem mw_155 : Cond.methodLink "BallotDesk$Locks" 3 ⟨"java/lang/Object", "<init>", "()V"⟩ ∈ lw_g := tg_of (tw_1 (List.mem_of_getElem? (i := 155) rfl)) rfl
theorem mw_156 : Cond.fieldLink "BallotDesk$Locks" 9 "BallotDesk$Locks" "keys" "[I" ∈ lw_g := tg_of (tw_1 (List.mem_of_getElem? (i := 156) rfl)) rfl
theorem mw_157 : Cond.fieldLink "BallotDesk$Locks" 15 "BallotDesk$Locks" "under" "[I" ∈ lw_g := tg_of (tw_1 (List.mem_of_getElem? (i := 157) rfl)) rfl
theorem mw_158 : Cond.fieldLink "BallotDesk$Locks" 34 "BallotDesk$Locks" "pairs" "I" ∈ lw_g := tg_of (tw_1 (List.mem_of_getElem? (i := 158) rfl)) rfl
theorem mw_166 : Cond.classLink "BallotDesk$Rules" 32 "BallotDesk$Agreement" ∈ lw_g := tg_of (tw_1 (List.mem_of_getElem? (i := 166) rfl)) rfl
theorem mw_167 : Cond.instantiable "BallotDesk$Agreement" 2 ∈ lw_g := tg_of (tw_1 (List.mem_of_getElem? (i := 167) rfl)) rfl
theorem mt_168 : Cond.methodLinkNest "BallotDesk$Rules" 34 yn_A_init "BallotDesk" ∈ lw_tbl := tw_1 (List.mem_of_getElem? (i := 168) rfl)
theorem mw_169 : Cond.instanceMethod yn_A_init ∈ lw_g := tg_of (tw_1 (List.mem_of_getElem? (i := 169) rfl)) rfl
theorem mw_170 : Cond.code yn_A_init prog_2_method_1_code 1 (Option.none : Option Jvm.ClassFile.FieldType) ∈ lw_g := tg_of (tw_1 (List.mem_of_getElem? (i := 170) rfl)) rfl
theorem mw_171 : Cond.methodLink "BallotDesk$Agreement" 3 ⟨"java/lang/Object", "<init>", "()V"⟩ ∈ lw_g := tg_of (tw_1 (List.mem_of_getElem? (i := 171) rfl)) rfl
theorem mw_172 : Cond.classLink "BallotDesk$Agreement" 15 "[[I" ∈ lw_g := tg_of (tw_1 (List.mem_of_getElem? (i := 172) rfl)) rfl
theorem mw_173 : Cond.fieldLink "BallotDesk$Agreement" 9 "BallotDesk$Agreement" "least" "[I" ∈ lw_g := tg_of (tw_1 (List.mem_of_getElem? (i := 173) rfl)) rfl
theorem mw_174 : Cond.fieldLink "BallotDesk$Agreement" 17 "BallotDesk$Agreement" "against" "[[I" ∈ lw_g := tg_of (tw_1 (List.mem_of_getElem? (i := 174) rfl)) rfl
theorem mw_180 : Cond.fieldLink "BallotDesk$Rules" 12 "BallotDesk$Rules" "elimination" "LBallotDesk$Elimination;" ∈ lw_g := tg_of (tw_1 (List.mem_of_getElem? (i := 180) rfl)) rfl
theorem mw_181 : Cond.fieldLink "BallotDesk" 136 "BallotDesk$Rules" "elimination" "LBallotDesk$Elimination;" ∈ lw_g := tg_of (tw_1 (List.mem_of_getElem? (i := 181) rfl)) rfl
theorem mw_182 : Cond.fieldLink "BallotDesk$Rules" 21 "BallotDesk$Rules" "paths" "LBallotDesk$Paths;" ∈ lw_g := tg_of (tw_1 (List.mem_of_getElem? (i := 182) rfl)) rfl
theorem mw_183 : Cond.fieldLink "BallotDesk" 123 "BallotDesk$Rules" "paths" "LBallotDesk$Paths;" ∈ lw_g := tg_of (tw_1 (List.mem_of_getElem? (i := 183) rfl)) rfl
theorem mw_184 : Cond.fieldLink "BallotDesk$Rules" 28 "BallotDesk$Rules" "locks" "LBallotDesk$Locks;" ∈ lw_g := tg_of (tw_1 (List.mem_of_getElem? (i := 184) rfl)) rfl
theorem mw_185 : Cond.fieldLink "BallotDesk$Rules" 35 "BallotDesk$Rules" "agreement" "LBallotDesk$Agreement;" ∈ lw_g := tg_of (tw_1 (List.mem_of_getElem? (i := 185) rfl)) rfl
theorem mw_186 : Cond.fieldLink "BallotDesk" 149 "BallotDesk$Rules" "agreement" "LBallotDesk$Agreement;" ∈ lw_g := tg_of (tw_1 (List.mem_of_getElem? (i := 186) rfl)) rfl
theorem mw_187 : Cond.fieldLink "BallotDesk$Rules" 39 "BallotDesk$Rules" "beaten" "[I" ∈ lw_g := tg_of (tw_1 (List.mem_of_getElem? (i := 187) rfl)) rfl
theorem mw_199 : Cond.classLink "BallotDesk$WhatIf" 18 "BallotDesk$Poll" ∈ lw_g := tg_of (tw_1 (List.mem_of_getElem? (i := 199) rfl)) rfl
theorem mt_200 : Cond.methodLinkNest "BallotDesk$WhatIf" 20 yn_P_init "BallotDesk" ∈ lw_tbl := tw_1 (List.mem_of_getElem? (i := 200) rfl)
theorem mw_201 : Cond.classLink "BallotDesk$WhatIf" 25 "BallotDesk$Orders" ∈ lw_g := tg_of (tw_1 (List.mem_of_getElem? (i := 201) rfl)) rfl
theorem mw_202 : Cond.instantiable "BallotDesk$Orders" 2 ∈ lw_g := tg_of (tw_1 (List.mem_of_getElem? (i := 202) rfl)) rfl
theorem mt_203 : Cond.methodLinkNest "BallotDesk$WhatIf" 27 yn_S_init "BallotDesk" ∈ lw_tbl := tw_1 (List.mem_of_getElem? (i := 203) rfl)
theorem mw_204 : Cond.instanceMethod yn_S_init ∈ lw_g := tg_of (tw_1 (List.mem_of_getElem? (i := 204) rfl)) rfl
theorem mw_205 : Cond.code yn_S_init prog_6_method_1_code 1 (Option.none : Option Jvm.ClassFile.FieldType) ∈ lw_g := tg_of (tw_1 (List.mem_of_getElem? (i := 205) rfl)) rfl
theorem mw_206 : Cond.methodLink "BallotDesk$Orders" 3 ⟨"java/lang/Object", "<init>", "()V"⟩ ∈ lw_g := tg_of (tw_1 (List.mem_of_getElem? (i := 206) rfl)) rfl
theorem mw_207 : Cond.fieldLink "BallotDesk$Orders" 9 "BallotDesk$Orders" "row" "[I" ∈ lw_g := tg_of (tw_1 (List.mem_of_getElem? (i := 207) rfl)) rfl
theorem mw_208 : Cond.fieldLink "BallotDesk$Orders" 15 "BallotDesk$Orders" "size" "I" ∈ lw_g := tg_of (tw_1 (List.mem_of_getElem? (i := 208) rfl)) rfl
theorem mw_214 : Cond.fieldLink "BallotDesk$WhatIf" 12 "BallotDesk$WhatIf" "rules" "LBallotDesk$Rules;" ∈ lw_g := tg_of (tw_1 (List.mem_of_getElem? (i := 214) rfl)) rfl
theorem mw_215 : Cond.fieldLink "BallotDesk" 27 "BallotDesk$WhatIf" "rules" "LBallotDesk$Rules;" ∈ lw_g := tg_of (tw_1 (List.mem_of_getElem? (i := 215) rfl)) rfl
theorem mw_216 : Cond.fieldLink "BallotDesk$WhatIf" 21 "BallotDesk$WhatIf" "trial" "LBallotDesk$Poll;" ∈ lw_g := tg_of (tw_1 (List.mem_of_getElem? (i := 216) rfl)) rfl
theorem mw_217 : Cond.fieldLink "BallotDesk$WhatIf" 28 "BallotDesk$WhatIf" "orders" "LBallotDesk$Orders;" ∈ lw_g := tg_of (tw_1 (List.mem_of_getElem? (i := 217) rfl)) rfl
theorem mw_218 : Cond.fieldLink "BallotDesk$WhatIf" 49 "BallotDesk$WhatIf" "placeReached" "I" ∈ lw_g := tg_of (tw_1 (List.mem_of_getElem? (i := 218) rfl)) rfl
theorem mw_219 : Cond.fieldLink "BallotDesk" 166 "BallotDesk$WhatIf" "placeReached" "I" ∈ lw_g := tg_of (tw_1 (List.mem_of_getElem? (i := 219) rfl)) rfl
theorem mw_229 : Cond.fieldLink "BallotDesk" 12 "BallotDesk" "poll" "LBallotDesk$Poll;" ∈ lw_g := tg_of (tw_1 (List.mem_of_getElem? (i := 229) rfl)) rfl
theorem mw_230 : Cond.fieldLink "BallotDesk" 31 "BallotDesk" "rules" "LBallotDesk$Rules;" ∈ lw_g := tg_of (tw_1 (List.mem_of_getElem? (i := 230) rfl)) rfl
theorem mw_231 : Cond.fieldLink "BallotDesk" 23 "BallotDesk" "whatIf" "LBallotDesk$WhatIf;" ∈ lw_g := tg_of (tw_1 (List.mem_of_getElem? (i := 231) rfl)) rfl
theorem mw_232 : Cond.fieldLink "BallotDesk" 32 "BallotDesk" "changedOrder" "I" ∈ lw_g := tg_of (tw_1 (List.mem_of_getElem? (i := 232) rfl)) rfl
theorem mw_233 : Cond.fieldLink "BallotDesk" 36 "BallotDesk" "witnessed" "I" ∈ lw_g := tg_of (tw_1 (List.mem_of_getElem? (i := 233) rfl)) rfl
theorem mw_245 : Cond.methodLink "BallotDeskLaw" 123 yn_D_branches ∈ lw_g := tg_of (tw_2 (List.mem_of_getElem? (i := 5) rfl)) rfl
theorem mw_246 : Cond.instanceMethod yn_D_branches ∈ lw_g := tg_of (tw_2 (List.mem_of_getElem? (i := 6) rfl)) rfl
theorem mw_247 : Cond.selects "BallotDesk" yn_D_branches yn_D_branches ∈ lw_g := tg_of (tw_2 (List.mem_of_getElem? (i := 7) rfl)) rfl
theorem mw_248 : Cond.code yn_D_branches prog_1_method_14_code 1 (Option.some Jvm.ClassFile.FieldType.int) ∈ lw_g := tg_of (tw_2 (List.mem_of_getElem? (i := 8) rfl)) rfl
theorem mw_249 : Cond.methodLink "BallotDesk" 140 yn_E_setsThatCanBeLeft ∈ lw_g := tg_of (tw_2 (List.mem_of_getElem? (i := 9) rfl)) rfl
theorem mw_250 : Cond.instanceMethod yn_E_setsThatCanBeLeft ∈ lw_g := tg_of (tw_2 (List.mem_of_getElem? (i := 10) rfl)) rfl
theorem mw_251 : Cond.selects "BallotDesk$Elimination" yn_E_setsThatCanBeLeft yn_E_setsThatCanBeLeft ∈ lw_g := tg_of (tw_2 (List.mem_of_getElem? (i := 11) rfl)) rfl
theorem mw_252 : Cond.code yn_E_setsThatCanBeLeft prog_3_method_3_code 4 (Option.some Jvm.ClassFile.FieldType.int) ∈ lw_g := tg_of (tw_2 (List.mem_of_getElem? (i := 12) rfl)) rfl
theorem mw_253 : Cond.methodLink "BallotDesk$Elimination" 19 yn_E_spread ∈ lw_g := tg_of (tw_2 (List.mem_of_getElem? (i := 13) rfl)) rfl
theorem mw_255 : Cond.instanceMethod yn_E_spread ∈ lw_g := tg_of (tw_2 (List.mem_of_getElem? (i := 15) rfl)) rfl
theorem mw_256 : Cond.code yn_E_spread prog_3_method_5_code 6 (Option.none : Option Jvm.ClassFile.FieldType) ∈ lw_g := tg_of (tw_2 (List.mem_of_getElem? (i := 16) rfl)) rfl
theorem mw_257 : Cond.methodLink "BallotDesk$Elimination" 29 yn_P_everyone ∈ lw_g := tg_of (tw_2 (List.mem_of_getElem? (i := 17) rfl)) rfl
theorem mw_258 : Cond.instanceMethod yn_P_everyone ∈ lw_g := tg_of (tw_2 (List.mem_of_getElem? (i := 18) rfl)) rfl
theorem mw_259 : Cond.selects "BallotDesk$Poll" yn_P_everyone yn_P_everyone ∈ lw_g := tg_of (tw_2 (List.mem_of_getElem? (i := 19) rfl)) rfl
theorem mw_260 : Cond.code yn_P_everyone prog_8_method_12_code 1 (Option.some Jvm.ClassFile.FieldType.int) ∈ lw_g := tg_of (tw_2 (List.mem_of_getElem? (i := 20) rfl)) rfl
theorem mw_261 : Cond.methodLink "BallotDesk$Elimination" 41 yn_JI_bitCount ∈ lw_g := tg_of (tw_2 (List.mem_of_getElem? (i := 21) rfl)) rfl
theorem mw_262 : Cond.static yn_JI_bitCount ∈ lw_g := tg_of (tw_2 (List.mem_of_getElem? (i := 22) rfl)) rfl
theorem mw_263 : Cond.code yn_JI_bitCount prog_17_method_49_code 1 (Option.some Jvm.ClassFile.FieldType.int) ∈ lw_g := tg_of (tw_2 (List.mem_of_getElem? (i := 23) rfl)) rfl
theorem mw_264 : Cond.constant "java/lang/Integer" 265 1431655765 ∈ lw_g := tg_of (tw_2 (List.mem_of_getElem? (i := 24) rfl)) rfl
theorem mw_265 : Cond.constant "java/lang/Integer" 266 858993459 ∈ lw_g := tg_of (tw_2 (List.mem_of_getElem? (i := 25) rfl)) rfl
theorem mw_266 : Cond.constant "java/lang/Integer" 267 252645135 ∈ lw_g := tg_of (tw_2 (List.mem_of_getElem? (i := 26) rfl)) rfl
theorem mw_267 : Cond.methodLink "BallotDesk$Elimination" 33 yn_E_goers ∈ lw_g := tg_of (tw_2 (List.mem_of_getElem? (i := 27) rfl)) rfl
theorem mw_269 : Cond.instanceMethod yn_E_goers ∈ lw_g := tg_of (tw_2 (List.mem_of_getElem? (i := 29) rfl)) rfl
theorem mw_270 : Cond.code yn_E_goers prog_3_method_6_code 6 (Option.some Jvm.ClassFile.FieldType.int) ∈ lw_g := tg_of (tw_2 (List.mem_of_getElem? (i := 30) rfl)) rfl
theorem mw_271 : Cond.methodLink "BallotDesk$Elimination" 46 yn_E_countLeads ∈ lw_g := tg_of (tw_2 (List.mem_of_getElem? (i := 31) rfl)) rfl
theorem mw_273 : Cond.instanceMethod yn_E_countLeads ∈ lw_g := tg_of (tw_2 (List.mem_of_getElem? (i := 33) rfl)) rfl
theorem mw_274 : Cond.code yn_E_countLeads prog_3_method_7_code 7 (Option.none : Option Jvm.ClassFile.FieldType) ∈ lw_g := tg_of (tw_2 (List.mem_of_getElem? (i := 34) rfl)) rfl
theorem mw_275 : Cond.methodLink "BallotDeskLaw" 130 yn_D_disagreement ∈ lw_g := tg_of (tw_2 (List.mem_of_getElem? (i := 35) rfl)) rfl
theorem mw_276 : Cond.instanceMethod yn_D_disagreement ∈ lw_g := tg_of (tw_2 (List.mem_of_getElem? (i := 36) rfl)) rfl
theorem mw_277 : Cond.selects "BallotDesk" yn_D_disagreement yn_D_disagreement ∈ lw_g := tg_of (tw_2 (List.mem_of_getElem? (i := 37) rfl)) rfl
theorem mw_278 : Cond.code yn_D_disagreement prog_1_method_16_code 1 (Option.some Jvm.ClassFile.FieldType.long) ∈ lw_g := tg_of (tw_2 (List.mem_of_getElem? (i := 38) rfl)) rfl
theorem mw_279 : Cond.methodLink "BallotDesk" 153 yn_A_leastOfAll ∈ lw_g := tg_of (tw_2 (List.mem_of_getElem? (i := 39) rfl)) rfl
theorem mw_280 : Cond.instanceMethod yn_A_leastOfAll ∈ lw_g := tg_of (tw_2 (List.mem_of_getElem? (i := 40) rfl)) rfl
theorem mw_281 : Cond.selects "BallotDesk$Agreement" yn_A_leastOfAll yn_A_leastOfAll ∈ lw_g := tg_of (tw_2 (List.mem_of_getElem? (i := 41) rfl)) rfl
theorem mw_282 : Cond.code yn_A_leastOfAll prog_2_method_2_code 2 (Option.some Jvm.ClassFile.FieldType.long) ∈ lw_g := tg_of (tw_2 (List.mem_of_getElem? (i := 42) rfl)) rfl
theorem mw_283 : Cond.methodLink "BallotDesk$Agreement" 20 yn_A_weigh ∈ lw_g := tg_of (tw_2 (List.mem_of_getElem? (i := 43) rfl)) rfl
theorem mw_285 : Cond.instanceMethod yn_A_weigh ∈ lw_g := tg_of (tw_2 (List.mem_of_getElem? (i := 45) rfl)) rfl
theorem mw_286 : Cond.code yn_A_weigh prog_2_method_6_code 7 (Option.none : Option Jvm.ClassFile.FieldType) ∈ lw_g := tg_of (tw_2 (List.mem_of_getElem? (i := 46) rfl)) rfl
theorem mw_287 : Cond.methodLink "BallotDesk$Agreement" 42 yn_A_sumAgainst ∈ lw_g := tg_of (tw_2 (List.mem_of_getElem? (i := 47) rfl)) rfl
theorem mw_289 : Cond.instanceMethod yn_A_sumAgainst ∈ lw_g := tg_of (tw_2 (List.mem_of_getElem? (i := 49) rfl)) rfl
theorem mw_290 : Cond.code yn_A_sumAgainst prog_2_method_7_code 8 (Option.none : Option Jvm.ClassFile.FieldType) ∈ lw_g := tg_of (tw_2 (List.mem_of_getElem? (i := 50) rfl)) rfl
theorem mw_291 : Cond.methodLink "BallotDesk$Agreement" 24 yn_P_everyone ∈ lw_g := tg_of (tw_2 (List.mem_of_getElem? (i := 51) rfl)) rfl
theorem mw_292 : Cond.constant "BallotDesk$Agreement" 46 42000021 ∈ lw_g := tg_of (tw_2 (List.mem_of_getElem? (i := 52) rfl)) rfl
theorem mw_293 : Cond.methodLink "BallotDesk$Agreement" 47 yn_JM_min ∈ lw_g := tg_of (tw_2 (List.mem_of_getElem? (i := 53) rfl)) rfl
theorem mw_294 : Cond.static yn_JM_min ∈ lw_g := tg_of (tw_2 (List.mem_of_getElem? (i := 54) rfl)) rfl
theorem mw_295 : Cond.code yn_JM_min prog_18_method_69_code 2 (Option.some Jvm.ClassFile.FieldType.int) ∈ lw_g := tg_of (tw_2 (List.mem_of_getElem? (i := 55) rfl)) rfl
theorem mw_296 : Cond.methodLink "BallotDeskLaw" 135 yn_D_agreed ∈ lw_g := tg_of (tw_2 (List.mem_of_getElem? (i := 56) rfl)) rfl
theorem mw_297 : Cond.instanceMethod yn_D_agreed ∈ lw_g := tg_of (tw_2 (List.mem_of_getElem? (i := 57) rfl)) rfl
theorem mw_298 : Cond.selects "BallotDesk" yn_D_agreed yn_D_agreed ∈ lw_g := tg_of (tw_2 (List.mem_of_getElem? (i := 58) rfl)) rfl
theorem mw_299 : Cond.code yn_D_agreed prog_1_method_17_code 1 (Option.some Jvm.ClassFile.FieldType.int) ∈ lw_g := tg_of (tw_2 (List.mem_of_getElem? (i := 59) rfl)) rfl
theorem mw_300 : Cond.methodLink "BallotDesk" 159 yn_A_bestOrder ∈ lw_g := tg_of (tw_2 (List.mem_of_getElem? (i := 60) rfl)) rfl
theorem mw_301 : Cond.instanceMethod yn_A_bestOrder ∈ lw_g := tg_of (tw_2 (List.mem_of_getElem? (i := 61) rfl)) rfl
theorem mw_302 : Cond.selects "BallotDesk$Agreement" yn_A_bestOrder yn_A_bestOrder ∈ lw_g := tg_of (tw_2 (List.mem_of_getElem? (i := 62) rfl)) rfl
theorem mw_303 : Cond.code yn_A_bestOrder prog_2_method_4_code 6 (Option.some Jvm.ClassFile.FieldType.int) ∈ lw_g := tg_of (tw_2 (List.mem_of_getElem? (i := 63) rfl)) rfl
theorem mw_304 : Cond.methodLink "BallotDesk$Agreement" 34 yn_A_bestLeaders ∈ lw_g := tg_of (tw_2 (List.mem_of_getElem? (i := 64) rfl)) rfl
theorem mw_306 : Cond.instanceMethod yn_A_bestLeaders ∈ lw_g := tg_of (tw_2 (List.mem_of_getElem? (i := 66) rfl)) rfl
theorem mw_307 : Cond.code yn_A_bestLeaders prog_2_method_5_code 6 (Option.some Jvm.ClassFile.FieldType.int) ∈ lw_g := tg_of (tw_2 (List.mem_of_getElem? (i := 67) rfl)) rfl
theorem mw_308 : Cond.methodLink "BallotDesk$Agreement" 38 yn_P_firstInTie ∈ lw_g := tg_of (tw_2 (List.mem_of_getElem? (i := 68) rfl)) rfl
theorem mw_309 : Cond.instanceMethod yn_P_firstInTie ∈ lw_g := tg_of (tw_2 (List.mem_of_getElem? (i := 69) rfl)) rfl
theorem mw_310 : Cond.selects "BallotDesk$Poll" yn_P_firstInTie yn_P_firstInTie ∈ lw_g := tg_of (tw_2 (List.mem_of_getElem? (i := 70) rfl)) rfl
theorem mw_311 : Cond.code yn_P_firstInTie prog_8_method_14_code 4 (Option.some Jvm.ClassFile.FieldType.int) ∈ lw_g := tg_of (tw_2 (List.mem_of_getElem? (i := 71) rfl)) rfl
theorem mw_312 : Cond.methodLink "BallotDesk$Poll" 75 yn_O_at ∈ lw_g := tg_of (tw_2 (List.mem_of_getElem? (i := 72) rfl)) rfl
theorem mw_313 : Cond.static yn_O_at ∈ lw_g := tg_of (tw_2 (List.mem_of_getElem? (i := 73) rfl)) rfl
theorem mw_314 : Cond.code yn_O_at prog_5_method_2_code 2 (Option.some Jvm.ClassFile.FieldType.int) ∈ lw_g := tg_of (tw_2 (List.mem_of_getElem? (i := 74) rfl)) rfl
theorem mw_315 : Cond.methodLink "BallotDeskLaw" 143 yn_D_changed ∈ lw_g := tg_of (tw_2 (List.mem_of_getElem? (i := 75) rfl)) rfl
theorem mw_316 : Cond.instanceMethod yn_D_changed ∈ lw_g := tg_of (tw_2 (List.mem_of_getElem? (i := 76) rfl)) rfl
theorem mw_317 : Cond.selects "BallotDesk" yn_D_changed yn_D_changed ∈ lw_g := tg_of (tw_2 (List.mem_of_getElem? (i := 77) rfl)) rfl
theorem mw_318 : Cond.code yn_D_changed prog_1_method_19_code 1 (Option.some Jvm.ClassFile.FieldType.int) ∈ lw_g := tg_of (tw_2 (List.mem_of_getElem? (i := 78) rfl)) rfl
theorem mw_319 : Cond.methodLink "BallotDeskLaw" 150 yn_D_witness ∈ lw_g := tg_of (tw_2 (List.mem_of_getElem? (i := 79) rfl)) rfl
theorem mw_320 : Cond.instanceMethod yn_D_witness ∈ lw_g := tg_of (tw_2 (List.mem_of_getElem? (i := 80) rfl)) rfl
theorem mw_321 : Cond.selects "BallotDesk" yn_D_witness yn_D_witness ∈ lw_g := tg_of (tw_2 (List.mem_of_getElem? (i := 81) rfl)) rfl
theorem mw_322 : Cond.code yn_D_witness prog_1_method_21_code 1 (Option.some Jvm.ClassFile.FieldType.int) ∈ lw_g := tg_of (tw_2 (List.mem_of_getElem? (i := 82) rfl)) rfl
theorem mw_323 : Cond.methodLink "BallotDeskLaw" 79 yn_L_candidates ∈ lw_g := tg_of (tw_2 (List.mem_of_getElem? (i := 83) rfl)) rfl
theorem mw_324 : Cond.static yn_L_candidates ∈ lw_g := tg_of (tw_2 (List.mem_of_getElem? (i := 84) rfl)) rfl
theorem mw_326 : Cond.classLink "BallotDeskLaw" 13 "java/lang/IllegalArgumentException" ∈ lw_g := tg_of (tw_2 (List.mem_of_getElem? (i := 86) rfl)) rfl
theorem mw_327 : Cond.methodLink "BallotDeskLaw" 7 yn_D_candidates ∈ lw_g := tg_of (tw_2 (List.mem_of_getElem? (i := 87) rfl)) rfl
theorem mw_328 : Cond.instanceMethod yn_D_candidates ∈ lw_g := tg_of (tw_2 (List.mem_of_getElem? (i := 88) rfl)) rfl
theorem mw_329 : Cond.selects "BallotDesk" yn_D_candidates yn_D_candidates ∈ lw_g := tg_of (tw_2 (List.mem_of_getElem? (i := 89) rfl)) rfl
theorem mw_330 : Cond.code yn_D_candidates prog_1_method_2_code 3 (Option.some Jvm.ClassFile.FieldType.int) ∈ lw_g := tg_of (tw_2 (List.mem_of_getElem? (i := 90) rfl)) rfl
theorem mw_331 : Cond.methodLink "BallotDesk" 39 yn_D_needArgument ∈ lw_g := tg_of (tw_2 (List.mem_of_getElem? (i := 91) rfl)) rfl
theorem mw_332 : Cond.static yn_D_needArgument ∈ lw_g := tg_of (tw_2 (List.mem_of_getElem? (i := 92) rfl)) rfl
theorem mw_333 : Cond.code yn_D_needArgument prog_1_method_30_code 1 (Option.none : Option Jvm.ClassFile.FieldType) ∈ lw_g := tg_of (tw_2 (List.mem_of_getElem? (i := 93) rfl)) rfl
theorem mw_334 : Cond.classLink "BallotDesk" 211 "java/lang/IllegalArgumentException" ∈ lw_g := tg_of (tw_2 (List.mem_of_getElem? (i := 94) rfl)) rfl
theorem mw_335 : Cond.instantiable "java/lang/IllegalArgumentException" 6 ∈ lw_g := tg_of (tw_2 (List.mem_of_getElem? (i := 95) rfl)) rfl
theorem mw_343 : Cond.selects "java/lang/IllegalArgumentException" ⟨"java/lang/Throwable", "fillInStackTrace", "(I)Ljava/lang/Throwable;"⟩ ⟨"java/lang/Throwable", "fillInStackTrace", "(I)Ljava/lang/Throwable;"⟩ ∈ lw_g := tg_of (tw_2 (List.mem_of_getElem? (i := 103) rfl)) rfl
theorem mw_344 : Cond.selects "java/lang/IllegalArgumentException" ⟨"java/lang/Throwable", "fillInStackTrace", "()Ljava/lang/Throwable;"⟩ ⟨"java/lang/Throwable", "fillInStackTrace", "()Ljava/lang/Throwable;"⟩ ∈ lw_g := tg_of (tw_2 (List.mem_of_getElem? (i := 104) rfl)) rfl
theorem mw_355 : Cond.fieldLink "java/lang/Throwable" 198 "java/lang/Throwable" "backtrace" "Ljava/lang/Object;" ∈ lw_g := tg_of (tw_2 (List.mem_of_getElem? (i := 115) rfl)) rfl
theorem mw_357 : Cond.instanceMethod ⟨"java/lang/Throwable", "<init>", "()V"⟩ ∈ lw_g := tg_of (tw_2 (List.mem_of_getElem? (i := 117) rfl)) rfl
theorem mw_358 : Cond.code ⟨"java/lang/Throwable", "<init>", "()V"⟩ prog_21_method_1_code 1 (Option.none : Option Jvm.ClassFile.FieldType) ∈ lw_g := tg_of (tw_2 (List.mem_of_getElem? (i := 118) rfl)) rfl
theorem mw_359 : Cond.methodLink "java/lang/Throwable" 1 ⟨"java/lang/Object", "<init>", "()V"⟩ ∈ lw_g := tg_of (tw_2 (List.mem_of_getElem? (i := 119) rfl)) rfl
theorem mw_360 : Cond.fieldLink "java/lang/Throwable" 13 "java/lang/Throwable" "UNASSIGNED_STACK" "[Ljava/lang/StackTraceElement;" ∈ lw_g := tg_of (tw_2 (List.mem_of_getElem? (i := 120) rfl)) rfl
theorem mw_362 : Cond.fieldLink "java/lang/Throwable" 20 "java/lang/Throwable" "SUPPRESSED_SENTINEL" "Ljava/util/List;" ∈ lw_g := tg_of (tw_2 (List.mem_of_getElem? (i := 122) rfl)) rfl
theorem mw_364 : Cond.methodLink "java/lang/Throwable" 27 ⟨"java/lang/Throwable", "fillInStackTrace", "()Ljava/lang/Throwable;"⟩ ∈ lw_g := tg_of (tw_2 (List.mem_of_getElem? (i := 124) rfl)) rfl
theorem mw_365 : Cond.instanceMethod ⟨"java/lang/Throwable", "fillInStackTrace", "()Ljava/lang/Throwable;"⟩ ∈ lw_g := tg_of (tw_2 (List.mem_of_getElem? (i := 125) rfl)) rfl
theorem mw_367 : Cond.selects "java/lang/IllegalStateException" ⟨"java/lang/Throwable", "fillInStackTrace", "()Ljava/lang/Throwable;"⟩ ⟨"java/lang/Throwable", "fillInStackTrace", "()Ljava/lang/Throwable;"⟩ ∈ lw_g := tg_of (tw_2 (List.mem_of_getElem? (i := 127) rfl)) rfl
theorem mw_368 : Cond.selects "java/util/NoSuchElementException" ⟨"java/lang/Throwable", "fillInStackTrace", "()Ljava/lang/Throwable;"⟩ ⟨"java/lang/Throwable", "fillInStackTrace", "()Ljava/lang/Throwable;"⟩ ∈ lw_g := tg_of (tw_2 (List.mem_of_getElem? (i := 128) rfl)) rfl
theorem mw_370 : Cond.methodLink "java/lang/Throwable" 202 ⟨"java/lang/Throwable", "fillInStackTrace", "(I)Ljava/lang/Throwable;"⟩ ∈ lw_g := tg_of (tw_2 (List.mem_of_getElem? (i := 130) rfl)) rfl
theorem mw_372 : Cond.instanceMethod ⟨"java/lang/Throwable", "fillInStackTrace", "(I)Ljava/lang/Throwable;"⟩ ∈ lw_g := tg_of (tw_2 (List.mem_of_getElem? (i := 132) rfl)) rfl
theorem mw_373 : Cond.instantiable "java/lang/Throwable" 6 ∈ lw_g := tg_of (tw_2 (List.mem_of_getElem? (i := 133) rfl)) rfl
theorem mw_374 : Cond.native ⟨"java/lang/Throwable", "fillInStackTrace", "(I)Ljava/lang/Throwable;"⟩ ∈ lw_g := tg_of (tw_2 (List.mem_of_getElem? (i := 134) rfl)) rfl
theorem mw_375 : Cond.methodLink "BallotDesk" 213 ⟨"java/lang/IllegalArgumentException", "<init>", "()V"⟩ ∈ lw_g := tg_of (tw_2 (List.mem_of_getElem? (i := 135) rfl)) rfl
theorem mw_376 : Cond.instanceMethod ⟨"java/lang/IllegalArgumentException", "<init>", "()V"⟩ ∈ lw_g := tg_of (tw_2 (List.mem_of_getElem? (i := 136) rfl)) rfl
theorem mw_377 : Cond.code ⟨"java/lang/IllegalArgumentException", "<init>", "()V"⟩ prog_15_method_1_code 1 (Option.none : Option Jvm.ClassFile.FieldType) ∈ lw_g := tg_of (tw_2 (List.mem_of_getElem? (i := 137) rfl)) rfl
theorem mw_378 : Cond.methodLink "java/lang/IllegalArgumentException" 1 ⟨"java/lang/RuntimeException", "<init>", "()V"⟩ ∈ lw_g := tg_of (tw_2 (List.mem_of_getElem? (i := 138) rfl)) rfl
theorem mw_379 : Cond.instanceMethod ⟨"java/lang/RuntimeException", "<init>", "()V"⟩ ∈ lw_g := tg_of (tw_2 (List.mem_of_getElem? (i := 139) rfl)) rfl
theorem mw_380 : Cond.code ⟨"java/lang/RuntimeException", "<init>", "()V"⟩ prog_19_method_1_code 1 (Option.none : Option Jvm.ClassFile.FieldType) ∈ lw_g := tg_of (tw_2 (List.mem_of_getElem? (i := 140) rfl)) rfl
theorem mw_381 : Cond.methodLink "java/lang/RuntimeException" 1 ⟨"java/lang/Exception", "<init>", "()V"⟩ ∈ lw_g := tg_of (tw_2 (List.mem_of_getElem? (i := 141) rfl)) rfl
theorem mw_382 : Cond.instanceMethod ⟨"java/lang/Exception", "<init>", "()V"⟩ ∈ lw_g := tg_of (tw_2 (List.mem_of_getElem? (i := 142) rfl)) rfl
theorem mw_383 : Cond.code ⟨"java/lang/Exception", "<init>", "()V"⟩ prog_14_method_1_code 1 (Option.none : Option Jvm.ClassFile.FieldType) ∈ lw_g := tg_of (tw_2 (List.mem_of_getElem? (i := 143) rfl)) rfl
theorem mw_384 : Cond.methodLink "java/lang/Exception" 1 ⟨"java/lang/Throwable", "<init>", "()V"⟩ ∈ lw_g := tg_of (tw_2 (List.mem_of_getElem? (i := 144) rfl)) rfl
theorem mw_385 : Cond.fieldLink "java/lang/Throwable" 198 "java/lang/Throwable" "backtrace" "Ljava/lang/Object;" ∈ lw_g := tg_of (tw_2 (List.mem_of_getElem? (i := 145) rfl)) rfl
theorem mw_386 : Cond.fieldLink "java/lang/Throwable" 7 "java/lang/Throwable" "cause" "Ljava/lang/Throwable;" ∈ lw_g := tg_of (tw_2 (List.mem_of_getElem? (i := 146) rfl)) rfl
theorem mw_387 : Cond.fieldLink "java/lang/Throwable" 17 "java/lang/Throwable" "stackTrace" "[Ljava/lang/StackTraceElement;" ∈ lw_g := tg_of (tw_2 (List.mem_of_getElem? (i := 147) rfl)) rfl
theorem mw_388 : Cond.fieldLink "java/lang/Throwable" 24 "java/lang/Throwable" "suppressedExceptions" "Ljava/util/List;" ∈ lw_g := tg_of (tw_2 (List.mem_of_getElem? (i := 148) rfl)) rfl
theorem mw_397 : Cond.methodLink "BallotDeskLaw" 89 yn_L_ballot ∈ lw_g := tg_of (tw_2 (List.mem_of_getElem? (i := 157) rfl)) rfl
theorem mw_398 : Cond.static yn_L_ballot ∈ lw_g := tg_of (tw_2 (List.mem_of_getElem? (i := 158) rfl)) rfl
theorem mw_400 : Cond.classLink "BallotDeskLaw" 19 "java/lang/IllegalStateException" ∈ lw_g := tg_of (tw_2 (List.mem_of_getElem? (i := 160) rfl)) rfl
theorem mw_401 : Cond.methodLink "BallotDeskLaw" 15 yn_D_ballot ∈ lw_g := tg_of (tw_2 (List.mem_of_getElem? (i := 161) rfl)) rfl
theorem mw_402 : Cond.instanceMethod yn_D_ballot ∈ lw_g := tg_of (tw_2 (List.mem_of_getElem? (i := 162) rfl)) rfl
theorem mw_403 : Cond.selects "BallotDesk" yn_D_ballot yn_D_ballot ∈ lw_g := tg_of (tw_2 (List.mem_of_getElem? (i := 163) rfl)) rfl
theorem mw_404 : Cond.code yn_D_ballot prog_1_method_3_code 3 (Option.some Jvm.ClassFile.FieldType.int) ∈ lw_g := tg_of (tw_2 (List.mem_of_getElem? (i := 164) rfl)) rfl
theorem mw_405 : Cond.methodLink "BallotDesk" 46 yn_O_isOne ∈ lw_g := tg_of (tw_2 (List.mem_of_getElem? (i := 165) rfl)) rfl
theorem mw_406 : Cond.static yn_O_isOne ∈ lw_g := tg_of (tw_2 (List.mem_of_getElem? (i := 166) rfl)) rfl
theorem mw_407 : Cond.code yn_O_isOne prog_5_method_3_code 4 (Option.some Jvm.ClassFile.FieldType.boolean) ∈ lw_g := tg_of (tw_2 (List.mem_of_getElem? (i := 167) rfl)) rfl
theorem mw_408 : Cond.methodLink "BallotDesk$Order" 7 yn_O_at ∈ lw_g := tg_of (tw_2 (List.mem_of_getElem? (i := 168) rfl)) rfl
theorem mw_409 : Cond.methodLink "BallotDesk" 52 yn_D_isAmount ∈ lw_g := tg_of (tw_2 (List.mem_of_getElem? (i := 169) rfl)) rfl
theorem mw_410 : Cond.static yn_D_isAmount ∈ lw_g := tg_of (tw_2 (List.mem_of_getElem? (i := 170) rfl)) rfl
theorem mw_411 : Cond.code yn_D_isAmount prog_1_method_28_code 1 (Option.some Jvm.ClassFile.FieldType.boolean) ∈ lw_g := tg_of (tw_2 (List.mem_of_getElem? (i := 171) rfl)) rfl
theorem mw_412 : Cond.constant "BallotDesk" 207 100000 ∈ lw_g := tg_of (tw_2 (List.mem_of_getElem? (i := 172) rfl)) rfl
theorem mw_413 : Cond.classLink "BallotDesk" 59 "java/lang/IllegalStateException" ∈ lw_g := tg_of (tw_2 (List.mem_of_getElem? (i := 173) rfl)) rfl
theorem mw_414 : Cond.instantiable "java/lang/IllegalStateException" 6 ∈ lw_g := tg_of (tw_2 (List.mem_of_getElem? (i := 174) rfl)) rfl
theorem mw_416 : Cond.selects "java/lang/IllegalStateException" ⟨"java/lang/Throwable", "fillInStackTrace", "(I)Ljava/lang/Throwable;"⟩ ⟨"java/lang/Throwable", "fillInStackTrace", "(I)Ljava/lang/Throwable;"⟩ ∈ lw_g := tg_of (tw_2 (List.mem_of_getElem? (i := 176) rfl)) rfl
theorem mw_422 : Cond.methodLink "BallotDesk" 61 ⟨"java/lang/IllegalStateException", "<init>", "()V"⟩ ∈ lw_g := tg_of (tw_2 (List.mem_of_getElem? (i := 182) rfl)) rfl
theorem mw_423 : Cond.instanceMethod ⟨"java/lang/IllegalStateException", "<init>", "()V"⟩ ∈ lw_g := tg_of (tw_2 (List.mem_of_getElem? (i := 183) rfl)) rfl
theorem mw_424 : Cond.code ⟨"java/lang/IllegalStateException", "<init>", "()V"⟩ prog_16_method_1_code 1 (Option.none : Option Jvm.ClassFile.FieldType) ∈ lw_g := tg_of (tw_2 (List.mem_of_getElem? (i := 184) rfl)) rfl
theorem mw_425 : Cond.methodLink "java/lang/IllegalStateException" 1 ⟨"java/lang/RuntimeException", "<init>", "()V"⟩ ∈ lw_g := tg_of (tw_2 (List.mem_of_getElem? (i := 185) rfl)) rfl
theorem mw_428 : Cond.methodLink "BallotDesk" 62 yn_P_append ∈ lw_g := tg_of (tw_2 (List.mem_of_getElem? (i := 188) rfl)) rfl
theorem mw_429 : Cond.instanceMethod yn_P_append ∈ lw_g := tg_of (tw_2 (List.mem_of_getElem? (i := 189) rfl)) rfl
theorem mw_430 : Cond.selects "BallotDesk$Poll" yn_P_append yn_P_append ∈ lw_g := tg_of (tw_2 (List.mem_of_getElem? (i := 190) rfl)) rfl
theorem mw_431 : Cond.code yn_P_append prog_8_method_6_code 4 (Option.some Jvm.ClassFile.FieldType.int) ∈ lw_g := tg_of (tw_2 (List.mem_of_getElem? (i := 191) rfl)) rfl
theorem mw_432 : Cond.methodLink "BallotDesk$Poll" 71 yn_P_tally ∈ lw_g := tg_of (tw_2 (List.mem_of_getElem? (i := 192) rfl)) rfl
theorem mw_434 : Cond.instanceMethod yn_P_tally ∈ lw_g := tg_of (tw_2 (List.mem_of_getElem? (i := 194) rfl)) rfl
theorem mw_435 : Cond.code yn_P_tally prog_8_method_9_code 7 (Option.none : Option Jvm.ClassFile.FieldType) ∈ lw_g := tg_of (tw_2 (List.mem_of_getElem? (i := 195) rfl)) rfl
theorem mw_436 : Cond.methodLink "BallotDeskLaw" 93 yn_L_amount ∈ lw_g := tg_of (tw_2 (List.mem_of_getElem? (i := 196) rfl)) rfl
theorem mw_437 : Cond.static yn_L_amount ∈ lw_g := tg_of (tw_2 (List.mem_of_getElem? (i := 197) rfl)) rfl
theorem mw_439 : Cond.classLink "BallotDeskLaw" 24 "java/util/NoSuchElementException" ∈ lw_g := tg_of (tw_2 (List.mem_of_getElem? (i := 199) rfl)) rfl
theorem mw_440 : Cond.methodLink "BallotDeskLaw" 21 yn_D_amount ∈ lw_g := tg_of (tw_2 (List.mem_of_getElem? (i := 200) rfl)) rfl
theorem mw_441 : Cond.instanceMethod yn_D_amount ∈ lw_g := tg_of (tw_2 (List.mem_of_getElem? (i := 201) rfl)) rfl
theorem mw_442 : Cond.selects "BallotDesk" yn_D_amount yn_D_amount ∈ lw_g := tg_of (tw_2 (List.mem_of_getElem? (i := 202) rfl)) rfl
theorem mw_443 : Cond.code yn_D_amount prog_1_method_4_code 4 (Option.some Jvm.ClassFile.FieldType.int) ∈ lw_g := tg_of (tw_2 (List.mem_of_getElem? (i := 203) rfl)) rfl
theorem mw_444 : Cond.methodLink "BallotDesk" 66 yn_D_isType ∈ lw_g := tg_of (tw_2 (List.mem_of_getElem? (i := 204) rfl)) rfl
theorem mw_446 : Cond.instanceMethod yn_D_isType ∈ lw_g := tg_of (tw_2 (List.mem_of_getElem? (i := 206) rfl)) rfl
theorem mw_447 : Cond.code yn_D_isType prog_1_method_26_code 2 (Option.some Jvm.ClassFile.FieldType.boolean) ∈ lw_g := tg_of (tw_2 (List.mem_of_getElem? (i := 207) rfl)) rfl
theorem mw_448 : Cond.methodLink "BallotDesk" 69 yn_D_needElement ∈ lw_g := tg_of (tw_2 (List.mem_of_getElem? (i := 208) rfl)) rfl
theorem mw_449 : Cond.static yn_D_needElement ∈ lw_g := tg_of (tw_2 (List.mem_of_getElem? (i := 209) rfl)) rfl
theorem mw_450 : Cond.code yn_D_needElement prog_1_method_29_code 1 (Option.none : Option Jvm.ClassFile.FieldType) ∈ lw_g := tg_of (tw_2 (List.mem_of_getElem? (i := 210) rfl)) rfl
theorem mw_451 : Cond.classLink "BallotDesk" 208 "java/util/NoSuchElementException" ∈ lw_g := tg_of (tw_2 (List.mem_of_getElem? (i := 211) rfl)) rfl
theorem mw_452 : Cond.instantiable "java/util/NoSuchElementException" 6 ∈ lw_g := tg_of (tw_2 (List.mem_of_getElem? (i := 212) rfl)) rfl
theorem mw_454 : Cond.selects "java/util/NoSuchElementException" ⟨"java/lang/Throwable", "fillInStackTrace", "(I)Ljava/lang/Throwable;"⟩ ⟨"java/lang/Throwable", "fillInStackTrace", "(I)Ljava/lang/Throwable;"⟩ ∈ lw_g := tg_of (tw_2 (List.mem_of_getElem? (i := 214) rfl)) rfl
theorem mw_460 : Cond.methodLink "BallotDesk" 210 ⟨"java/util/NoSuchElementException", "<init>", "()V"⟩ ∈ lw_g := tg_of (tw_2 (List.mem_of_getElem? (i := 220) rfl)) rfl
theorem mw_461 : Cond.instanceMethod ⟨"java/util/NoSuchElementException", "<init>", "()V"⟩ ∈ lw_g := tg_of (tw_2 (List.mem_of_getElem? (i := 221) rfl)) rfl
theorem mw_462 : Cond.code ⟨"java/util/NoSuchElementException", "<init>", "()V"⟩ prog_23_method_1_code 1 (Option.none : Option Jvm.ClassFile.FieldType) ∈ lw_g := tg_of (tw_2 (List.mem_of_getElem? (i := 222) rfl)) rfl
theorem mw_463 : Cond.methodLink "java/util/NoSuchElementException" 1 ⟨"java/lang/RuntimeException", "<init>", "()V"⟩ ∈ lw_g := tg_of (tw_2 (List.mem_of_getElem? (i := 223) rfl)) rfl
theorem mw_466 : Cond.methodLink "BallotDesk" 79 yn_P_replace ∈ lw_g := tg_of (tw_2 (List.mem_of_getElem? (i := 226) rfl)) rfl
theorem mw_467 : Cond.instanceMethod yn_P_replace ∈ lw_g := tg_of (tw_2 (List.mem_of_getElem? (i := 227) rfl)) rfl
theorem mw_468 : Cond.selects "BallotDesk$Poll" yn_P_replace yn_P_replace ∈ lw_g := tg_of (tw_2 (List.mem_of_getElem? (i := 228) rfl)) rfl
theorem mw_469 : Cond.code yn_P_replace prog_8_method_7_code 4 (Option.none : Option Jvm.ClassFile.FieldType) ∈ lw_g := tg_of (tw_2 (List.mem_of_getElem? (i := 229) rfl)) rfl
theorem mw_470 : Cond.methodLink "BallotDeskLaw" 96 yn_L_drop ∈ lw_g := tg_of (tw_2 (List.mem_of_getElem? (i := 230) rfl)) rfl
theorem mw_471 : Cond.static yn_L_drop ∈ lw_g := tg_of (tw_2 (List.mem_of_getElem? (i := 231) rfl)) rfl
theorem mw_473 : Cond.methodLink "BallotDeskLaw" 26 yn_D_drop ∈ lw_g := tg_of (tw_2 (List.mem_of_getElem? (i := 233) rfl)) rfl
theorem mw_474 : Cond.instanceMethod yn_D_drop ∈ lw_g := tg_of (tw_2 (List.mem_of_getElem? (i := 234) rfl)) rfl
theorem mw_475 : Cond.selects "BallotDesk" yn_D_drop yn_D_drop ∈ lw_g := tg_of (tw_2 (List.mem_of_getElem? (i := 235) rfl)) rfl
theorem mw_476 : Cond.code yn_D_drop prog_1_method_5_code 2 (Option.some Jvm.ClassFile.FieldType.int) ∈ lw_g := tg_of (tw_2 (List.mem_of_getElem? (i := 236) rfl)) rfl
theorem mw_477 : Cond.methodLink "BallotDesk" 83 yn_P_remove ∈ lw_g := tg_of (tw_2 (List.mem_of_getElem? (i := 237) rfl)) rfl
theorem mw_478 : Cond.instanceMethod yn_P_remove ∈ lw_g := tg_of (tw_2 (List.mem_of_getElem? (i := 238) rfl)) rfl
theorem mw_479 : Cond.selects "BallotDesk$Poll" yn_P_remove yn_P_remove ∈ lw_g := tg_of (tw_2 (List.mem_of_getElem? (i := 239) rfl)) rfl
theorem mw_480 : Cond.code yn_P_remove prog_8_method_8_code 3 (Option.none : Option Jvm.ClassFile.FieldType) ∈ lw_g := tg_of (tw_3 (List.mem_of_getElem? (i := 0) rfl)) rfl
theorem mw_481 : Cond.methodLink "BallotDeskLaw" 99 yn_L_tieOrder ∈ lw_g := tg_of (tw_3 (List.mem_of_getElem? (i := 1) rfl)) rfl
theorem mw_482 : Cond.static yn_L_tieOrder ∈ lw_g := tg_of (tw_3 (List.mem_of_getElem? (i := 2) rfl)) rfl
theorem mw_484 : Cond.methodLink "BallotDeskLaw" 29 yn_D_tieOrder ∈ lw_g := tg_of (tw_3 (List.mem_of_getElem? (i := 4) rfl)) rfl
theorem mw_485 : Cond.instanceMethod yn_D_tieOrder ∈ lw_g := tg_of (tw_3 (List.mem_of_getElem? (i := 5) rfl)) rfl
theorem mw_486 : Cond.selects "BallotDesk" yn_D_tieOrder yn_D_tieOrder ∈ lw_g := tg_of (tw_3 (List.mem_of_getElem? (i := 6) rfl)) rfl
theorem mw_487 : Cond.code yn_D_tieOrder prog_1_method_6_code 3 (Option.some Jvm.ClassFile.FieldType.int) ∈ lw_g := tg_of (tw_3 (List.mem_of_getElem? (i := 7) rfl)) rfl
theorem mw_488 : Cond.methodLink "BallotDeskLaw" 102 yn_L_agenda ∈ lw_g := tg_of (tw_3 (List.mem_of_getElem? (i := 8) rfl)) rfl
theorem mw_489 : Cond.static yn_L_agenda ∈ lw_g := tg_of (tw_3 (List.mem_of_getElem? (i := 9) rfl)) rfl
theorem mw_491 : Cond.methodLink "BallotDeskLaw" 32 yn_D_agenda ∈ lw_g := tg_of (tw_3 (List.mem_of_getElem? (i := 11) rfl)) rfl
theorem mw_492 : Cond.instanceMethod yn_D_agenda ∈ lw_g := tg_of (tw_3 (List.mem_of_getElem? (i := 12) rfl)) rfl
theorem mw_493 : Cond.selects "BallotDesk" yn_D_agenda yn_D_agenda ∈ lw_g := tg_of (tw_3 (List.mem_of_getElem? (i := 13) rfl)) rfl
theorem mw_494 : Cond.code yn_D_agenda prog_1_method_7_code 3 (Option.some Jvm.ClassFile.FieldType.int) ∈ lw_g := tg_of (tw_3 (List.mem_of_getElem? (i := 14) rfl)) rfl
theorem mw_495 : Cond.methodLink "BallotDeskLaw" 105 yn_L_weight ∈ lw_g := tg_of (tw_3 (List.mem_of_getElem? (i := 15) rfl)) rfl
theorem mw_496 : Cond.static yn_L_weight ∈ lw_g := tg_of (tw_3 (List.mem_of_getElem? (i := 16) rfl)) rfl
theorem mw_498 : Cond.methodLink "BallotDeskLaw" 35 yn_D_weight ∈ lw_g := tg_of (tw_3 (List.mem_of_getElem? (i := 18) rfl)) rfl
theorem mw_499 : Cond.instanceMethod yn_D_weight ∈ lw_g := tg_of (tw_3 (List.mem_of_getElem? (i := 19) rfl)) rfl
theorem mw_500 : Cond.selects "BallotDesk" yn_D_weight yn_D_weight ∈ lw_g := tg_of (tw_3 (List.mem_of_getElem? (i := 20) rfl)) rfl
theorem mw_501 : Cond.code yn_D_weight prog_1_method_8_code 4 (Option.some Jvm.ClassFile.FieldType.int) ∈ lw_g := tg_of (tw_3 (List.mem_of_getElem? (i := 21) rfl)) rfl
theorem mw_502 : Cond.methodLink "BallotDeskLaw" 108 yn_L_winners ∈ lw_g := tg_of (tw_3 (List.mem_of_getElem? (i := 22) rfl)) rfl
theorem mw_503 : Cond.static yn_L_winners ∈ lw_g := tg_of (tw_3 (List.mem_of_getElem? (i := 23) rfl)) rfl
theorem mw_505 : Cond.methodLink "BallotDeskLaw" 38 yn_D_winners ∈ lw_g := tg_of (tw_3 (List.mem_of_getElem? (i := 25) rfl)) rfl
theorem mw_506 : Cond.instanceMethod yn_D_winners ∈ lw_g := tg_of (tw_3 (List.mem_of_getElem? (i := 26) rfl)) rfl
theorem mw_507 : Cond.selects "BallotDesk" yn_D_winners yn_D_winners ∈ lw_g := tg_of (tw_3 (List.mem_of_getElem? (i := 27) rfl)) rfl
theorem mw_508 : Cond.code yn_D_winners prog_1_method_9_code 2 (Option.some Jvm.ClassFile.FieldType.int) ∈ lw_g := tg_of (tw_3 (List.mem_of_getElem? (i := 28) rfl)) rfl
theorem mw_509 : Cond.methodLink "BallotDesk" 95 yn_D_isRule ∈ lw_g := tg_of (tw_3 (List.mem_of_getElem? (i := 29) rfl)) rfl
theorem mw_510 : Cond.static yn_D_isRule ∈ lw_g := tg_of (tw_3 (List.mem_of_getElem? (i := 30) rfl)) rfl
theorem mw_511 : Cond.code yn_D_isRule prog_1_method_27_code 1 (Option.some Jvm.ClassFile.FieldType.boolean) ∈ lw_g := tg_of (tw_3 (List.mem_of_getElem? (i := 31) rfl)) rfl
theorem mw_512 : Cond.methodLink "BallotDesk" 98 yn_R_winnerSet ∈ lw_g := tg_of (tw_3 (List.mem_of_getElem? (i := 32) rfl)) rfl
theorem mw_513 : Cond.instanceMethod yn_R_winnerSet ∈ lw_g := tg_of (tw_3 (List.mem_of_getElem? (i := 33) rfl)) rfl
theorem mw_514 : Cond.selects "BallotDesk$Rules" yn_R_winnerSet yn_R_winnerSet ∈ lw_g := tg_of (tw_3 (List.mem_of_getElem? (i := 34) rfl)) rfl
theorem mw_515 : Cond.code yn_R_winnerSet prog_9_method_3_code 3 (Option.some Jvm.ClassFile.FieldType.int) ∈ lw_g := tg_of (tw_3 (List.mem_of_getElem? (i := 35) rfl)) rfl
theorem mw_516 : Cond.methodLink "BallotDesk$Rules" 53 yn_R_runoff ∈ lw_g := tg_of (tw_3 (List.mem_of_getElem? (i := 36) rfl)) rfl
theorem mw_517 : Cond.static yn_R_runoff ∈ lw_g := tg_of (tw_3 (List.mem_of_getElem? (i := 37) rfl)) rfl
theorem mw_518 : Cond.code yn_R_runoff prog_9_method_4_code 4 (Option.some Jvm.ClassFile.FieldType.int) ∈ lw_g := tg_of (tw_3 (List.mem_of_getElem? (i := 38) rfl)) rfl
theorem mw_519 : Cond.methodLink "BallotDesk$Rules" 75 yn_R_mayMeet ∈ lw_g := tg_of (tw_3 (List.mem_of_getElem? (i := 39) rfl)) rfl
theorem mw_520 : Cond.static yn_R_mayMeet ∈ lw_g := tg_of (tw_3 (List.mem_of_getElem? (i := 40) rfl)) rfl
theorem mw_521 : Cond.code yn_R_mayMeet prog_9_method_5_code 5 (Option.some Jvm.ClassFile.FieldType.boolean) ∈ lw_g := tg_of (tw_3 (List.mem_of_getElem? (i := 41) rfl)) rfl
theorem mw_522 : Cond.methodLink "BallotDesk$Rules" 87 yn_JM_min ∈ lw_g := tg_of (tw_3 (List.mem_of_getElem? (i := 42) rfl)) rfl
theorem mw_523 : Cond.methodLink "BallotDesk$Rules" 79 yn_P_beats ∈ lw_g := tg_of (tw_3 (List.mem_of_getElem? (i := 43) rfl)) rfl
theorem mw_524 : Cond.instanceMethod yn_P_beats ∈ lw_g := tg_of (tw_3 (List.mem_of_getElem? (i := 44) rfl)) rfl
theorem mw_525 : Cond.selects "BallotDesk$Poll" yn_P_beats yn_P_beats ∈ lw_g := tg_of (tw_3 (List.mem_of_getElem? (i := 45) rfl)) rfl
theorem mw_526 : Cond.code yn_P_beats prog_8_method_10_code 3 (Option.some Jvm.ClassFile.FieldType.boolean) ∈ lw_g := tg_of (tw_3 (List.mem_of_getElem? (i := 46) rfl)) rfl
theorem mw_527 : Cond.methodLink "BallotDesk$Rules" 57 yn_E_winnerSet ∈ lw_g := tg_of (tw_3 (List.mem_of_getElem? (i := 47) rfl)) rfl
theorem mw_528 : Cond.instanceMethod yn_E_winnerSet ∈ lw_g := tg_of (tw_3 (List.mem_of_getElem? (i := 48) rfl)) rfl
theorem mw_529 : Cond.selects "BallotDesk$Elimination" yn_E_winnerSet yn_E_winnerSet ∈ lw_g := tg_of (tw_3 (List.mem_of_getElem? (i := 49) rfl)) rfl
theorem mw_530 : Cond.code yn_E_winnerSet prog_3_method_2_code 4 (Option.some Jvm.ClassFile.FieldType.int) ∈ lw_g := tg_of (tw_3 (List.mem_of_getElem? (i := 50) rfl)) rfl
theorem mw_531 : Cond.methodLink "BallotDesk$Rules" 59 yn_H_winnerSet ∈ lw_g := tg_of (tw_3 (List.mem_of_getElem? (i := 51) rfl)) rfl
theorem mw_532 : Cond.instanceMethod yn_H_winnerSet ∈ lw_g := tg_of (tw_3 (List.mem_of_getElem? (i := 52) rfl)) rfl
theorem mw_533 : Cond.selects "BallotDesk$Paths" yn_H_winnerSet yn_H_winnerSet ∈ lw_g := tg_of (tw_3 (List.mem_of_getElem? (i := 53) rfl)) rfl
theorem mw_534 : Cond.code yn_H_winnerSet prog_7_method_4_code 5 (Option.some Jvm.ClassFile.FieldType.int) ∈ lw_g := tg_of (tw_3 (List.mem_of_getElem? (i := 54) rfl)) rfl
theorem mw_535 : Cond.methodLink "BallotDesk$Paths" 42 yn_H_measure ∈ lw_g := tg_of (tw_3 (List.mem_of_getElem? (i := 55) rfl)) rfl
theorem mw_536 : Cond.instanceMethod yn_H_measure ∈ lw_g := tg_of (tw_3 (List.mem_of_getElem? (i := 56) rfl)) rfl
theorem mw_537 : Cond.selects "BallotDesk$Paths" yn_H_measure yn_H_measure ∈ lw_g := tg_of (tw_3 (List.mem_of_getElem? (i := 57) rfl)) rfl
theorem mw_538 : Cond.code yn_H_measure prog_7_method_2_code 4 (Option.none : Option Jvm.ClassFile.FieldType) ∈ lw_g := tg_of (tw_3 (List.mem_of_getElem? (i := 58) rfl)) rfl
theorem mw_539 : Cond.methodLink "BallotDesk$Paths" 22 yn_P_beats ∈ lw_g := tg_of (tw_3 (List.mem_of_getElem? (i := 59) rfl)) rfl
theorem mw_540 : Cond.methodLink "BallotDesk$Paths" 29 yn_H_widen ∈ lw_g := tg_of (tw_3 (List.mem_of_getElem? (i := 60) rfl)) rfl
theorem mw_542 : Cond.instanceMethod yn_H_widen ∈ lw_g := tg_of (tw_3 (List.mem_of_getElem? (i := 62) rfl)) rfl
theorem mw_543 : Cond.code yn_H_widen prog_7_method_3_code 6 (Option.none : Option Jvm.ClassFile.FieldType) ∈ lw_g := tg_of (tw_3 (List.mem_of_getElem? (i := 63) rfl)) rfl
theorem mw_544 : Cond.methodLink "BallotDesk$Paths" 33 yn_JM_min ∈ lw_g := tg_of (tw_3 (List.mem_of_getElem? (i := 64) rfl)) rfl
theorem mw_545 : Cond.methodLink "BallotDesk$Paths" 39 yn_JM_max ∈ lw_g := tg_of (tw_3 (List.mem_of_getElem? (i := 65) rfl)) rfl
theorem mw_546 : Cond.static yn_JM_max ∈ lw_g := tg_of (tw_3 (List.mem_of_getElem? (i := 66) rfl)) rfl
theorem mw_547 : Cond.code yn_JM_max prog_18_method_65_code 2 (Option.some Jvm.ClassFile.FieldType.int) ∈ lw_g := tg_of (tw_3 (List.mem_of_getElem? (i := 67) rfl)) rfl
theorem mw_548 : Cond.methodLink "BallotDesk$Paths" 46 yn_P_everyone ∈ lw_g := tg_of (tw_3 (List.mem_of_getElem? (i := 68) rfl)) rfl
theorem mw_549 : Cond.methodLink "BallotDesk$Rules" 60 yn_K_winnerSet ∈ lw_g := tg_of (tw_3 (List.mem_of_getElem? (i := 69) rfl)) rfl
theorem mw_550 : Cond.instanceMethod yn_K_winnerSet ∈ lw_g := tg_of (tw_3 (List.mem_of_getElem? (i := 70) rfl)) rfl
theorem mw_551 : Cond.selects "BallotDesk$Locks" yn_K_winnerSet yn_K_winnerSet ∈ lw_g := tg_of (tw_3 (List.mem_of_getElem? (i := 71) rfl)) rfl
theorem mw_552 : Cond.code yn_K_winnerSet prog_4_method_2_code 6 (Option.some Jvm.ClassFile.FieldType.int) ∈ lw_g := tg_of (tw_3 (List.mem_of_getElem? (i := 72) rfl)) rfl
theorem mw_553 : Cond.methodLink "BallotDesk$Locks" 18 yn_K_collect ∈ lw_g := tg_of (tw_3 (List.mem_of_getElem? (i := 73) rfl)) rfl
theorem mw_555 : Cond.instanceMethod yn_K_collect ∈ lw_g := tg_of (tw_3 (List.mem_of_getElem? (i := 75) rfl)) rfl
theorem mw_556 : Cond.code yn_K_collect prog_4_method_3_code 6 (Option.none : Option Jvm.ClassFile.FieldType) ∈ lw_g := tg_of (tw_3 (List.mem_of_getElem? (i := 76) rfl)) rfl
theorem mw_557 : Cond.methodLink "BallotDesk$Locks" 41 yn_O_at ∈ lw_g := tg_of (tw_3 (List.mem_of_getElem? (i := 77) rfl)) rfl
theorem mw_558 : Cond.methodLink "BallotDesk$Locks" 54 yn_P_beats ∈ lw_g := tg_of (tw_3 (List.mem_of_getElem? (i := 78) rfl)) rfl
theorem mw_559 : Cond.methodLink "BallotDesk$Locks" 62 yn_K_insert ∈ lw_g := tg_of (tw_3 (List.mem_of_getElem? (i := 79) rfl)) rfl
theorem mw_561 : Cond.instanceMethod yn_K_insert ∈ lw_g := tg_of (tw_3 (List.mem_of_getElem? (i := 81) rfl)) rfl
theorem mw_562 : Cond.code yn_K_insert prog_4_method_4_code 3 (Option.none : Option Jvm.ClassFile.FieldType) ∈ lw_g := tg_of (tw_3 (List.mem_of_getElem? (i := 82) rfl)) rfl
theorem mw_563 : Cond.methodLink "BallotDesk$Locks" 22 yn_JA_fill ∈ lw_g := tg_of (tw_3 (List.mem_of_getElem? (i := 83) rfl)) rfl
theorem mw_564 : Cond.methodLink "BallotDesk$Locks" 28 yn_P_everyone ∈ lw_g := tg_of (tw_3 (List.mem_of_getElem? (i := 84) rfl)) rfl
theorem mw_565 : Cond.methodLink "BallotDesk$Locks" 50 yn_K_lock ∈ lw_g := tg_of (tw_3 (List.mem_of_getElem? (i := 85) rfl)) rfl
theorem mw_567 : Cond.instanceMethod yn_K_lock ∈ lw_g := tg_of (tw_3 (List.mem_of_getElem? (i := 87) rfl)) rfl
theorem mw_568 : Cond.code yn_K_lock prog_4_method_5_code 6 (Option.none : Option Jvm.ClassFile.FieldType) ∈ lw_g := tg_of (tw_3 (List.mem_of_getElem? (i := 88) rfl)) rfl
theorem mw_569 : Cond.methodLink "BallotDesk$Rules" 61 yn_A_winnerSet ∈ lw_g := tg_of (tw_3 (List.mem_of_getElem? (i := 89) rfl)) rfl
theorem mw_570 : Cond.instanceMethod yn_A_winnerSet ∈ lw_g := tg_of (tw_3 (List.mem_of_getElem? (i := 90) rfl)) rfl
theorem mw_571 : Cond.selects "BallotDesk$Agreement" yn_A_winnerSet yn_A_winnerSet ∈ lw_g := tg_of (tw_3 (List.mem_of_getElem? (i := 91) rfl)) rfl
theorem mw_572 : Cond.code yn_A_winnerSet prog_2_method_3_code 2 (Option.some Jvm.ClassFile.FieldType.int) ∈ lw_g := tg_of (tw_3 (List.mem_of_getElem? (i := 92) rfl)) rfl
theorem mw_573 : Cond.methodLink "BallotDesk$Rules" 62 yn_R_uncovered ∈ lw_g := tg_of (tw_3 (List.mem_of_getElem? (i := 93) rfl)) rfl
theorem mw_575 : Cond.instanceMethod yn_R_uncovered ∈ lw_g := tg_of (tw_3 (List.mem_of_getElem? (i := 95) rfl)) rfl
theorem mw_576 : Cond.code yn_R_uncovered prog_9_method_6_code 6 (Option.some Jvm.ClassFile.FieldType.int) ∈ lw_g := tg_of (tw_3 (List.mem_of_getElem? (i := 96) rfl)) rfl
theorem mw_577 : Cond.methodLink "BallotDesk$Rules" 93 yn_P_beatenBy ∈ lw_g := tg_of (tw_3 (List.mem_of_getElem? (i := 97) rfl)) rfl
theorem mw_578 : Cond.instanceMethod yn_P_beatenBy ∈ lw_g := tg_of (tw_3 (List.mem_of_getElem? (i := 98) rfl)) rfl
theorem mw_579 : Cond.selects "BallotDesk$Poll" yn_P_beatenBy yn_P_beatenBy ∈ lw_g := tg_of (tw_3 (List.mem_of_getElem? (i := 99) rfl)) rfl
theorem mw_580 : Cond.code yn_P_beatenBy prog_8_method_11_code 4 (Option.some Jvm.ClassFile.FieldType.int) ∈ lw_g := tg_of (tw_3 (List.mem_of_getElem? (i := 100) rfl)) rfl
theorem mw_581 : Cond.methodLink "BallotDesk$Poll" 78 yn_P_beats ∈ lw_g := tg_of (tw_3 (List.mem_of_getElem? (i := 101) rfl)) rfl
theorem mw_582 : Cond.methodLink "BallotDesk$Rules" 96 yn_P_everyone ∈ lw_g := tg_of (tw_3 (List.mem_of_getElem? (i := 102) rfl)) rfl
theorem mw_583 : Cond.methodLink "BallotDesk$Rules" 65 yn_R_lastToStay ∈ lw_g := tg_of (tw_3 (List.mem_of_getElem? (i := 103) rfl)) rfl
theorem mw_584 : Cond.static yn_R_lastToStay ∈ lw_g := tg_of (tw_3 (List.mem_of_getElem? (i := 104) rfl)) rfl
theorem mw_585 : Cond.code yn_R_lastToStay prog_9_method_7_code 4 (Option.some Jvm.ClassFile.FieldType.int) ∈ lw_g := tg_of (tw_3 (List.mem_of_getElem? (i := 105) rfl)) rfl
theorem mw_586 : Cond.methodLink "BallotDesk$Rules" 103 yn_O_at ∈ lw_g := tg_of (tw_3 (List.mem_of_getElem? (i := 106) rfl)) rfl
theorem mw_587 : Cond.methodLink "BallotDesk$Rules" 47 yn_P_firstInTie ∈ lw_g := tg_of (tw_3 (List.mem_of_getElem? (i := 107) rfl)) rfl
theorem mw_588 : Cond.methodLink "BallotDesk$Rules" 68 yn_C_winnerSet ∈ lw_g := tg_of (tw_3 (List.mem_of_getElem? (i := 108) rfl)) rfl
theorem mw_589 : Cond.static yn_C_winnerSet ∈ lw_g := tg_of (tw_3 (List.mem_of_getElem? (i := 109) rfl)) rfl
theorem mw_590 : Cond.code yn_C_winnerSet prog_10_method_4_code 9 (Option.some Jvm.ClassFile.FieldType.int) ∈ lw_g := tg_of (tw_3 (List.mem_of_getElem? (i := 110) rfl)) rfl
theorem mw_591 : Cond.methodLink "BallotDesk$Scores" 31 yn_C_of ∈ lw_g := tg_of (tw_3 (List.mem_of_getElem? (i := 111) rfl)) rfl
theorem mw_592 : Cond.static yn_C_of ∈ lw_g := tg_of (tw_3 (List.mem_of_getElem? (i := 112) rfl)) rfl
theorem mw_593 : Cond.code yn_C_of prog_10_method_3_code 3 (Option.some Jvm.ClassFile.FieldType.long) ∈ lw_g := tg_of (tw_3 (List.mem_of_getElem? (i := 113) rfl)) rfl
theorem mw_594 : Cond.methodLink "BallotDesk$Scores" 19 yn_C_points ∈ lw_g := tg_of (tw_3 (List.mem_of_getElem? (i := 114) rfl)) rfl
theorem mw_595 : Cond.static yn_C_points ∈ lw_g := tg_of (tw_3 (List.mem_of_getElem? (i := 115) rfl)) rfl
theorem mw_596 : Cond.code yn_C_points prog_10_method_5_code 5 (Option.some Jvm.ClassFile.FieldType.long) ∈ lw_g := tg_of (tw_3 (List.mem_of_getElem? (i := 116) rfl)) rfl
theorem mw_597 : Cond.methodLink "BallotDesk$Scores" 25 yn_C_greatestDefeat ∈ lw_g := tg_of (tw_3 (List.mem_of_getElem? (i := 117) rfl)) rfl
theorem mw_598 : Cond.static yn_C_greatestDefeat ∈ lw_g := tg_of (tw_3 (List.mem_of_getElem? (i := 118) rfl)) rfl
theorem mw_599 : Cond.code yn_C_greatestDefeat prog_10_method_6_code 4 (Option.some Jvm.ClassFile.FieldType.long) ∈ lw_g := tg_of (tw_3 (List.mem_of_getElem? (i := 119) rfl)) rfl
theorem mw_600 : Cond.methodLink "BallotDesk$Scores" 39 yn_P_beats ∈ lw_g := tg_of (tw_3 (List.mem_of_getElem? (i := 120) rfl)) rfl
theorem mw_601 : Cond.methodLink "BallotDesk$Scores" 46 yn_JM_max ∈ lw_g := tg_of (tw_3 (List.mem_of_getElem? (i := 121) rfl)) rfl
theorem mw_602 : Cond.methodLink "BallotDesk$Scores" 28 yn_C_wins ∈ lw_g := tg_of (tw_3 (List.mem_of_getElem? (i := 122) rfl)) rfl
theorem mw_603 : Cond.static yn_C_wins ∈ lw_g := tg_of (tw_3 (List.mem_of_getElem? (i := 123) rfl)) rfl
theorem mw_604 : Cond.code yn_C_wins prog_10_method_7_code 4 (Option.some Jvm.ClassFile.FieldType.long) ∈ lw_g := tg_of (tw_3 (List.mem_of_getElem? (i := 124) rfl)) rfl
theorem mw_605 : Cond.methodLink "BallotDeskLaw" 111 yn_L_winner ∈ lw_g := tg_of (tw_3 (List.mem_of_getElem? (i := 125) rfl)) rfl
theorem mw_606 : Cond.static yn_L_winner ∈ lw_g := tg_of (tw_3 (List.mem_of_getElem? (i := 126) rfl)) rfl
theorem mw_608 : Cond.methodLink "BallotDeskLaw" 41 yn_D_winner ∈ lw_g := tg_of (tw_3 (List.mem_of_getElem? (i := 128) rfl)) rfl
theorem mw_609 : Cond.instanceMethod yn_D_winner ∈ lw_g := tg_of (tw_3 (List.mem_of_getElem? (i := 129) rfl)) rfl
theorem mw_610 : Cond.selects "BallotDesk" yn_D_winner yn_D_winner ∈ lw_g := tg_of (tw_3 (List.mem_of_getElem? (i := 130) rfl)) rfl
theorem mw_611 : Cond.code yn_D_winner prog_1_method_10_code 2 (Option.some Jvm.ClassFile.FieldType.int) ∈ lw_g := tg_of (tw_3 (List.mem_of_getElem? (i := 131) rfl)) rfl
theorem mw_612 : Cond.methodLink "BallotDesk" 104 yn_R_theWinner ∈ lw_g := tg_of (tw_3 (List.mem_of_getElem? (i := 132) rfl)) rfl
theorem mw_613 : Cond.instanceMethod yn_R_theWinner ∈ lw_g := tg_of (tw_3 (List.mem_of_getElem? (i := 133) rfl)) rfl
theorem mw_614 : Cond.selects "BallotDesk$Rules" yn_R_theWinner yn_R_theWinner ∈ lw_g := tg_of (tw_3 (List.mem_of_getElem? (i := 134) rfl)) rfl
theorem mw_615 : Cond.code yn_R_theWinner prog_9_method_2_code 3 (Option.some Jvm.ClassFile.FieldType.int) ∈ lw_g := tg_of (tw_3 (List.mem_of_getElem? (i := 135) rfl)) rfl
theorem mw_616 : Cond.methodLink "BallotDesk$Rules" 43 yn_R_winnerSet ∈ lw_g := tg_of (tw_3 (List.mem_of_getElem? (i := 136) rfl)) rfl
theorem mw_617 : Cond.methodLink "BallotDeskLaw" 114 yn_L_score ∈ lw_g := tg_of (tw_3 (List.mem_of_getElem? (i := 137) rfl)) rfl
theorem mw_618 : Cond.static yn_L_score ∈ lw_g := tg_of (tw_3 (List.mem_of_getElem? (i := 138) rfl)) rfl
theorem mw_620 : Cond.methodLink "BallotDeskLaw" 44 yn_D_score ∈ lw_g := tg_of (tw_3 (List.mem_of_getElem? (i := 140) rfl)) rfl
theorem mw_621 : Cond.instanceMethod yn_D_score ∈ lw_g := tg_of (tw_3 (List.mem_of_getElem? (i := 141) rfl)) rfl
theorem mw_622 : Cond.selects "BallotDesk" yn_D_score yn_D_score ∈ lw_g := tg_of (tw_3 (List.mem_of_getElem? (i := 142) rfl)) rfl
theorem mw_623 : Cond.code yn_D_score prog_1_method_11_code 3 (Option.some Jvm.ClassFile.FieldType.long) ∈ lw_g := tg_of (tw_3 (List.mem_of_getElem? (i := 143) rfl)) rfl
theorem mw_624 : Cond.methodLink "BallotDesk" 107 yn_D_isCandidate ∈ lw_g := tg_of (tw_3 (List.mem_of_getElem? (i := 144) rfl)) rfl
theorem mw_626 : Cond.instanceMethod yn_D_isCandidate ∈ lw_g := tg_of (tw_3 (List.mem_of_getElem? (i := 146) rfl)) rfl
theorem mw_627 : Cond.code yn_D_isCandidate prog_1_method_25_code 2 (Option.some Jvm.ClassFile.FieldType.boolean) ∈ lw_g := tg_of (tw_3 (List.mem_of_getElem? (i := 147) rfl)) rfl
theorem mw_628 : Cond.methodLink "BallotDesk" 110 yn_C_areKeptBy ∈ lw_g := tg_of (tw_3 (List.mem_of_getElem? (i := 148) rfl)) rfl
theorem mw_629 : Cond.static yn_C_areKeptBy ∈ lw_g := tg_of (tw_3 (List.mem_of_getElem? (i := 149) rfl)) rfl
theorem mw_630 : Cond.code yn_C_areKeptBy prog_10_method_2_code 1 (Option.some Jvm.ClassFile.FieldType.boolean) ∈ lw_g := tg_of (tw_3 (List.mem_of_getElem? (i := 150) rfl)) rfl
theorem mw_631 : Cond.methodLink "BallotDesk" 115 yn_C_of ∈ lw_g := tg_of (tw_3 (List.mem_of_getElem? (i := 151) rfl)) rfl
theorem mw_632 : Cond.methodLink "BallotDeskLaw" 117 yn_L_pair ∈ lw_g := tg_of (tw_3 (List.mem_of_getElem? (i := 152) rfl)) rfl
theorem mw_633 : Cond.static yn_L_pair ∈ lw_g := tg_of (tw_3 (List.mem_of_getElem? (i := 153) rfl)) rfl
theorem mw_635 : Cond.methodLink "BallotDeskLaw" 48 yn_D_pair ∈ lw_g := tg_of (tw_3 (List.mem_of_getElem? (i := 155) rfl)) rfl
theorem mw_636 : Cond.instanceMethod yn_D_pair ∈ lw_g := tg_of (tw_3 (List.mem_of_getElem? (i := 156) rfl)) rfl
theorem mw_637 : Cond.selects "BallotDesk" yn_D_pair yn_D_pair ∈ lw_g := tg_of (tw_3 (List.mem_of_getElem? (i := 157) rfl)) rfl
theorem mw_638 : Cond.code yn_D_pair prog_1_method_12_code 3 (Option.some Jvm.ClassFile.FieldType.int) ∈ lw_g := tg_of (tw_3 (List.mem_of_getElem? (i := 158) rfl)) rfl
theorem mw_639 : Cond.methodLink "BallotDeskLaw" 120 yn_L_path ∈ lw_g := tg_of (tw_3 (List.mem_of_getElem? (i := 159) rfl)) rfl
theorem mw_640 : Cond.static yn_L_path ∈ lw_g := tg_of (tw_3 (List.mem_of_getElem? (i := 160) rfl)) rfl
theorem mw_642 : Cond.methodLink "BallotDeskLaw" 51 yn_D_path ∈ lw_g := tg_of (tw_3 (List.mem_of_getElem? (i := 162) rfl)) rfl
theorem mw_643 : Cond.instanceMethod yn_D_path ∈ lw_g := tg_of (tw_3 (List.mem_of_getElem? (i := 163) rfl)) rfl
theorem mw_644 : Cond.selects "BallotDesk" yn_D_path yn_D_path ∈ lw_g := tg_of (tw_3 (List.mem_of_getElem? (i := 164) rfl)) rfl
theorem mw_645 : Cond.code yn_D_path prog_1_method_13_code 3 (Option.some Jvm.ClassFile.FieldType.int) ∈ lw_g := tg_of (tw_3 (List.mem_of_getElem? (i := 165) rfl)) rfl
theorem mw_646 : Cond.methodLink "BallotDesk" 127 yn_H_measure ∈ lw_g := tg_of (tw_3 (List.mem_of_getElem? (i := 166) rfl)) rfl
theorem mw_647 : Cond.methodLink "BallotDeskLaw" 127 yn_L_step ∈ lw_g := tg_of (tw_3 (List.mem_of_getElem? (i := 167) rfl)) rfl
theorem mw_648 : Cond.static yn_L_step ∈ lw_g := tg_of (tw_3 (List.mem_of_getElem? (i := 168) rfl)) rfl
theorem mw_650 : Cond.methodLink "BallotDeskLaw" 54 yn_D_step ∈ lw_g := tg_of (tw_3 (List.mem_of_getElem? (i := 170) rfl)) rfl
theorem mw_651 : Cond.instanceMethod yn_D_step ∈ lw_g := tg_of (tw_3 (List.mem_of_getElem? (i := 171) rfl)) rfl
theorem mw_652 : Cond.selects "BallotDesk" yn_D_step yn_D_step ∈ lw_g := tg_of (tw_3 (List.mem_of_getElem? (i := 172) rfl)) rfl
theorem mw_653 : Cond.code yn_D_step prog_1_method_15_code 2 (Option.some Jvm.ClassFile.FieldType.int) ∈ lw_g := tg_of (tw_3 (List.mem_of_getElem? (i := 173) rfl)) rfl
theorem mw_654 : Cond.methodLink "BallotDesk" 146 yn_E_goerAt ∈ lw_g := tg_of (tw_3 (List.mem_of_getElem? (i := 174) rfl)) rfl
theorem mw_655 : Cond.instanceMethod yn_E_goerAt ∈ lw_g := tg_of (tw_3 (List.mem_of_getElem? (i := 175) rfl)) rfl
theorem mw_656 : Cond.selects "BallotDesk$Elimination" yn_E_goerAt yn_E_goerAt ∈ lw_g := tg_of (tw_3 (List.mem_of_getElem? (i := 176) rfl)) rfl
theorem mw_657 : Cond.code yn_E_goerAt prog_3_method_4_code 5 (Option.some Jvm.ClassFile.FieldType.int) ∈ lw_g := tg_of (tw_3 (List.mem_of_getElem? (i := 177) rfl)) rfl
theorem mw_658 : Cond.methodLink "BallotDesk$Elimination" 37 yn_P_lastInTie ∈ lw_g := tg_of (tw_3 (List.mem_of_getElem? (i := 178) rfl)) rfl
theorem mw_659 : Cond.instanceMethod yn_P_lastInTie ∈ lw_g := tg_of (tw_3 (List.mem_of_getElem? (i := 179) rfl)) rfl
theorem mw_660 : Cond.selects "BallotDesk$Poll" yn_P_lastInTie yn_P_lastInTie ∈ lw_g := tg_of (tw_3 (List.mem_of_getElem? (i := 180) rfl)) rfl
theorem mw_661 : Cond.code yn_P_lastInTie prog_8_method_15_code 4 (Option.some Jvm.ClassFile.FieldType.int) ∈ lw_g := tg_of (tw_3 (List.mem_of_getElem? (i := 181) rfl)) rfl
theorem mw_662 : Cond.methodLink "BallotDeskLaw" 139 yn_L_change ∈ lw_g := tg_of (tw_3 (List.mem_of_getElem? (i := 182) rfl)) rfl
theorem mw_663 : Cond.static yn_L_change ∈ lw_g := tg_of (tw_3 (List.mem_of_getElem? (i := 183) rfl)) rfl
theorem mw_665 : Cond.methodLink "BallotDeskLaw" 57 yn_D_change ∈ lw_g := tg_of (tw_3 (List.mem_of_getElem? (i := 185) rfl)) rfl
theorem mw_666 : Cond.instanceMethod yn_D_change ∈ lw_g := tg_of (tw_3 (List.mem_of_getElem? (i := 186) rfl)) rfl
theorem mw_667 : Cond.selects "BallotDesk" yn_D_change yn_D_change ∈ lw_g := tg_of (tw_3 (List.mem_of_getElem? (i := 187) rfl)) rfl
theorem mw_668 : Cond.code yn_D_change prog_1_method_18_code 4 (Option.some Jvm.ClassFile.FieldType.int) ∈ lw_g := tg_of (tw_3 (List.mem_of_getElem? (i := 188) rfl)) rfl
theorem mw_669 : Cond.methodLink "BallotDesk" 162 yn_W_betterOrder ∈ lw_g := tg_of (tw_3 (List.mem_of_getElem? (i := 189) rfl)) rfl
theorem mw_670 : Cond.instanceMethod yn_W_betterOrder ∈ lw_g := tg_of (tw_3 (List.mem_of_getElem? (i := 190) rfl)) rfl
theorem mw_671 : Cond.selects "BallotDesk$WhatIf" yn_W_betterOrder yn_W_betterOrder ∈ lw_g := tg_of (tw_3 (List.mem_of_getElem? (i := 191) rfl)) rfl
theorem mw_672 : Cond.code yn_W_betterOrder prog_11_method_2_code 12 (Option.some Jvm.ClassFile.FieldType.int) ∈ lw_g := tg_of (tw_3 (List.mem_of_getElem? (i := 192) rfl)) rfl
theorem mw_673 : Cond.methodLink "BallotDesk$WhatIf" 35 yn_R_theWinner ∈ lw_g := tg_of (tw_3 (List.mem_of_getElem? (i := 193) rfl)) rfl
theorem mw_674 : Cond.methodLink "BallotDesk$WhatIf" 43 yn_O_placeOf ∈ lw_g := tg_of (tw_3 (List.mem_of_getElem? (i := 194) rfl)) rfl
theorem mw_675 : Cond.static yn_O_placeOf ∈ lw_g := tg_of (tw_3 (List.mem_of_getElem? (i := 195) rfl)) rfl
theorem mw_676 : Cond.code yn_O_placeOf prog_5_method_5_code 4 (Option.some Jvm.ClassFile.FieldType.int) ∈ lw_g := tg_of (tw_3 (List.mem_of_getElem? (i := 196) rfl)) rfl
theorem mw_677 : Cond.methodLink "BallotDesk$WhatIf" 52 yn_P_copy ∈ lw_g := tg_of (tw_3 (List.mem_of_getElem? (i := 197) rfl)) rfl
theorem mw_678 : Cond.instanceMethod yn_P_copy ∈ lw_g := tg_of (tw_3 (List.mem_of_getElem? (i := 198) rfl)) rfl
theorem mw_679 : Cond.selects "BallotDesk$Poll" yn_P_copy yn_P_copy ∈ lw_g := tg_of (tw_3 (List.mem_of_getElem? (i := 199) rfl)) rfl
theorem mw_680 : Cond.code yn_P_copy prog_8_method_4_code 3 (Option.none : Option Jvm.ClassFile.FieldType) ∈ lw_g := tg_of (tw_3 (List.mem_of_getElem? (i := 200) rfl)) rfl
theorem mw_681 : Cond.methodLink "BallotDesk$Poll" 57 ⟨"java/lang/System", "arraycopy", "(Ljava/lang/Object;ILjava/lang/Object;II)V"⟩ ∈ lw_g := tg_of (tw_3 (List.mem_of_getElem? (i := 201) rfl)) rfl
theorem mw_682 : Cond.static ⟨"java/lang/System", "arraycopy", "(Ljava/lang/Object;ILjava/lang/Object;II)V"⟩ ∈ lw_g := tg_of (tw_3 (List.mem_of_getElem? (i := 202) rfl)) rfl
theorem mw_683 : Cond.native ⟨"java/lang/System", "arraycopy", "(Ljava/lang/Object;ILjava/lang/Object;II)V"⟩ ∈ lw_g := tg_of (tw_3 (List.mem_of_getElem? (i := 203) rfl)) rfl
theorem mw_684 : Cond.methodLink "BallotDesk$Poll" 63 yn_P_append ∈ lw_g := tg_of (tw_3 (List.mem_of_getElem? (i := 204) rfl)) rfl
theorem mw_685 : Cond.methodLink "BallotDesk$WhatIf" 59 yn_P_replace ∈ lw_g := tg_of (tw_3 (List.mem_of_getElem? (i := 205) rfl)) rfl
theorem mw_686 : Cond.methodLink "BallotDesk$WhatIf" 63 yn_P_append ∈ lw_g := tg_of (tw_3 (List.mem_of_getElem? (i := 206) rfl)) rfl
theorem mw_687 : Cond.methodLink "BallotDesk$WhatIf" 67 yn_S_start ∈ lw_g := tg_of (tw_3 (List.mem_of_getElem? (i := 207) rfl)) rfl
theorem mw_688 : Cond.instanceMethod yn_S_start ∈ lw_g := tg_of (tw_3 (List.mem_of_getElem? (i := 208) rfl)) rfl
theorem mw_689 : Cond.selects "BallotDesk$Orders" yn_S_start yn_S_start ∈ lw_g := tg_of (tw_3 (List.mem_of_getElem? (i := 209) rfl)) rfl
theorem mw_690 : Cond.code yn_S_start prog_6_method_2_code 3 (Option.none : Option Jvm.ClassFile.FieldType) ∈ lw_g := tg_of (tw_3 (List.mem_of_getElem? (i := 210) rfl)) rfl
theorem mw_691 : Cond.methodLink "BallotDesk$WhatIf" 71 yn_S_asNumber ∈ lw_g := tg_of (tw_3 (List.mem_of_getElem? (i := 211) rfl)) rfl
theorem mw_692 : Cond.instanceMethod yn_S_asNumber ∈ lw_g := tg_of (tw_3 (List.mem_of_getElem? (i := 212) rfl)) rfl
theorem mw_693 : Cond.selects "BallotDesk$Orders" yn_S_asNumber yn_S_asNumber ∈ lw_g := tg_of (tw_3 (List.mem_of_getElem? (i := 213) rfl)) rfl
theorem mw_694 : Cond.code yn_S_asNumber prog_6_method_3_code 3 (Option.some Jvm.ClassFile.FieldType.int) ∈ lw_g := tg_of (tw_3 (List.mem_of_getElem? (i := 214) rfl)) rfl
theorem mw_695 : Cond.methodLink "BallotDesk$WhatIf" 75 yn_S_advance ∈ lw_g := tg_of (tw_3 (List.mem_of_getElem? (i := 215) rfl)) rfl
theorem mw_696 : Cond.instanceMethod yn_S_advance ∈ lw_g := tg_of (tw_3 (List.mem_of_getElem? (i := 216) rfl)) rfl
theorem mw_697 : Cond.selects "BallotDesk$Orders" yn_S_advance yn_S_advance ∈ lw_g := tg_of (tw_3 (List.mem_of_getElem? (i := 217) rfl)) rfl
theorem mw_698 : Cond.code yn_S_advance prog_6_method_4_code 5 (Option.some Jvm.ClassFile.FieldType.boolean) ∈ lw_g := tg_of (tw_3 (List.mem_of_getElem? (i := 218) rfl)) rfl
theorem mw_699 : Cond.methodLink "BallotDesk$Orders" 19 yn_S_swap ∈ lw_g := tg_of (tw_3 (List.mem_of_getElem? (i := 219) rfl)) rfl
theorem mw_701 : Cond.instanceMethod yn_S_swap ∈ lw_g := tg_of (tw_3 (List.mem_of_getElem? (i := 221) rfl)) rfl
theorem mw_702 : Cond.code yn_S_swap prog_6_method_5_code 4 (Option.none : Option Jvm.ClassFile.FieldType) ∈ lw_g := tg_of (tw_3 (List.mem_of_getElem? (i := 222) rfl)) rfl
theorem mw_703 : Cond.methodLink "BallotDeskLaw" 147 yn_L_property ∈ lw_g := tg_of (tw_3 (List.mem_of_getElem? (i := 223) rfl)) rfl
theorem mw_704 : Cond.static yn_L_property ∈ lw_g := tg_of (tw_3 (List.mem_of_getElem? (i := 224) rfl)) rfl
theorem mw_706 : Cond.methodLink "BallotDeskLaw" 61 yn_D_property ∈ lw_g := tg_of (tw_3 (List.mem_of_getElem? (i := 226) rfl)) rfl
theorem mw_707 : Cond.instanceMethod yn_D_property ∈ lw_g := tg_of (tw_3 (List.mem_of_getElem? (i := 227) rfl)) rfl
theorem mw_708 : Cond.selects "BallotDesk" yn_D_property yn_D_property ∈ lw_g := tg_of (tw_3 (List.mem_of_getElem? (i := 228) rfl)) rfl
theorem mw_709 : Cond.code yn_D_property prog_1_method_20_code 3 (Option.some Jvm.ClassFile.FieldType.boolean) ∈ lw_g := tg_of (tw_3 (List.mem_of_getElem? (i := 229) rfl)) rfl
theorem mw_710 : Cond.methodLink "BallotDesk" 169 yn_W_bestNotAlone ∈ lw_g := tg_of (tw_3 (List.mem_of_getElem? (i := 230) rfl)) rfl
theorem mw_711 : Cond.instanceMethod yn_W_bestNotAlone ∈ lw_g := tg_of (tw_3 (List.mem_of_getElem? (i := 231) rfl)) rfl
theorem mw_712 : Cond.selects "BallotDesk$WhatIf" yn_W_bestNotAlone yn_W_bestNotAlone ∈ lw_g := tg_of (tw_3 (List.mem_of_getElem? (i := 232) rfl)) rfl
theorem mw_713 : Cond.code yn_W_bestNotAlone prog_11_method_3_code 5 (Option.some Jvm.ClassFile.FieldType.int) ∈ lw_g := tg_of (tw_3 (List.mem_of_getElem? (i := 233) rfl)) rfl
theorem mw_714 : Cond.methodLink "BallotDesk$WhatIf" 79 yn_P_beatenBy ∈ lw_g := tg_of (tw_3 (List.mem_of_getElem? (i := 234) rfl)) rfl
theorem mw_715 : Cond.methodLink "BallotDesk$WhatIf" 83 yn_P_everyone ∈ lw_g := tg_of (tw_3 (List.mem_of_getElem? (i := 235) rfl)) rfl
theorem mw_716 : Cond.methodLink "BallotDesk$WhatIf" 86 yn_R_winnerSet ∈ lw_g := tg_of (tw_3 (List.mem_of_getElem? (i := 236) rfl)) rfl
theorem mw_717 : Cond.methodLink "BallotDesk" 172 yn_W_worstAmongWinners ∈ lw_g := tg_of (tw_3 (List.mem_of_getElem? (i := 237) rfl)) rfl
theorem mw_718 : Cond.instanceMethod yn_W_worstAmongWinners ∈ lw_g := tg_of (tw_3 (List.mem_of_getElem? (i := 238) rfl)) rfl
theorem mw_719 : Cond.selects "BallotDesk$WhatIf" yn_W_worstAmongWinners yn_W_worstAmongWinners ∈ lw_g := tg_of (tw_3 (List.mem_of_getElem? (i := 239) rfl)) rfl
theorem mw_720 : Cond.code yn_W_worstAmongWinners prog_11_method_4_code 5 (Option.some Jvm.ClassFile.FieldType.int) ∈ lw_g := tg_of (tw_4 (List.mem_of_getElem? (i := 0) rfl)) rfl
theorem mw_721 : Cond.methodLink "BallotDesk$WhatIf" 89 yn_P_firstInTie ∈ lw_g := tg_of (tw_4 (List.mem_of_getElem? (i := 1) rfl)) rfl
theorem mw_722 : Cond.methodLink "BallotDesk" 175 yn_W_typeThatHarmsByRaising ∈ lw_g := tg_of (tw_4 (List.mem_of_getElem? (i := 2) rfl)) rfl
theorem mw_723 : Cond.instanceMethod yn_W_typeThatHarmsByRaising ∈ lw_g := tg_of (tw_4 (List.mem_of_getElem? (i := 3) rfl)) rfl
theorem mw_724 : Cond.selects "BallotDesk$WhatIf" yn_W_typeThatHarmsByRaising yn_W_typeThatHarmsByRaising ∈ lw_g := tg_of (tw_4 (List.mem_of_getElem? (i := 4) rfl)) rfl
theorem mw_725 : Cond.code yn_W_typeThatHarmsByRaising prog_11_method_5_code 6 (Option.some Jvm.ClassFile.FieldType.int) ∈ lw_g := tg_of (tw_4 (List.mem_of_getElem? (i := 5) rfl)) rfl
theorem mw_726 : Cond.methodLink "BallotDesk$WhatIf" 95 yn_O_raised ∈ lw_g := tg_of (tw_4 (List.mem_of_getElem? (i := 6) rfl)) rfl
theorem mw_727 : Cond.static yn_O_raised ∈ lw_g := tg_of (tw_4 (List.mem_of_getElem? (i := 7) rfl)) rfl
theorem mw_728 : Cond.code yn_O_raised prog_5_method_6_code 5 (Option.some Jvm.ClassFile.FieldType.int) ∈ lw_g := tg_of (tw_4 (List.mem_of_getElem? (i := 8) rfl)) rfl
theorem mw_729 : Cond.methodLink "BallotDesk$Order" 13 yn_O_placeOf ∈ lw_g := tg_of (tw_4 (List.mem_of_getElem? (i := 9) rfl)) rfl
theorem mw_730 : Cond.methodLink "BallotDesk" 178 yn_W_typeThatHarmsByJoining ∈ lw_g := tg_of (tw_4 (List.mem_of_getElem? (i := 10) rfl)) rfl
theorem mw_731 : Cond.instanceMethod yn_W_typeThatHarmsByJoining ∈ lw_g := tg_of (tw_4 (List.mem_of_getElem? (i := 11) rfl)) rfl
theorem mw_732 : Cond.selects "BallotDesk$WhatIf" yn_W_typeThatHarmsByJoining yn_W_typeThatHarmsByJoining ∈ lw_g := tg_of (tw_4 (List.mem_of_getElem? (i := 12) rfl)) rfl
theorem mw_733 : Cond.code yn_W_typeThatHarmsByJoining prog_11_method_6_code 6 (Option.some Jvm.ClassFile.FieldType.int) ∈ lw_g := tg_of (tw_4 (List.mem_of_getElem? (i := 13) rfl)) rfl
theorem mw_734 : Cond.methodLink "BallotDesk$WhatIf" 98 yn_O_at ∈ lw_g := tg_of (tw_4 (List.mem_of_getElem? (i := 14) rfl)) rfl
theorem mw_735 : Cond.methodLink "BallotDesk" 181 yn_W_loserThatHarmsByLeaving ∈ lw_g := tg_of (tw_4 (List.mem_of_getElem? (i := 15) rfl)) rfl
theorem mw_736 : Cond.instanceMethod yn_W_loserThatHarmsByLeaving ∈ lw_g := tg_of (tw_4 (List.mem_of_getElem? (i := 16) rfl)) rfl
theorem mw_737 : Cond.selects "BallotDesk$WhatIf" yn_W_loserThatHarmsByLeaving yn_W_loserThatHarmsByLeaving ∈ lw_g := tg_of (tw_4 (List.mem_of_getElem? (i := 17) rfl)) rfl
theorem mw_738 : Cond.code yn_W_loserThatHarmsByLeaving prog_11_method_7_code 6 (Option.some Jvm.ClassFile.FieldType.int) ∈ lw_g := tg_of (tw_4 (List.mem_of_getElem? (i := 18) rfl)) rfl
theorem mw_739 : Cond.methodLink "BallotDesk$WhatIf" 101 yn_P_copyWithout ∈ lw_g := tg_of (tw_4 (List.mem_of_getElem? (i := 19) rfl)) rfl
theorem mw_740 : Cond.instanceMethod yn_P_copyWithout ∈ lw_g := tg_of (tw_4 (List.mem_of_getElem? (i := 20) rfl)) rfl
theorem mw_741 : Cond.selects "BallotDesk$Poll" yn_P_copyWithout yn_P_copyWithout ∈ lw_g := tg_of (tw_4 (List.mem_of_getElem? (i := 21) rfl)) rfl
theorem mw_742 : Cond.code yn_P_copyWithout prog_8_method_5_code 4 (Option.none : Option Jvm.ClassFile.FieldType) ∈ lw_g := tg_of (tw_4 (List.mem_of_getElem? (i := 22) rfl)) rfl
theorem mw_743 : Cond.methodLink "BallotDesk$Poll" 67 yn_O_without ∈ lw_g := tg_of (tw_4 (List.mem_of_getElem? (i := 23) rfl)) rfl
theorem mw_744 : Cond.static yn_O_without ∈ lw_g := tg_of (tw_4 (List.mem_of_getElem? (i := 24) rfl)) rfl
theorem mw_745 : Cond.code yn_O_without prog_5_method_7_code 7 (Option.some Jvm.ClassFile.FieldType.int) ∈ lw_g := tg_of (tw_4 (List.mem_of_getElem? (i := 25) rfl)) rfl
theorem mw_746 : Cond.methodLink "BallotDesk$Order" 17 yn_O_numberWithout ∈ lw_g := tg_of (tw_4 (List.mem_of_getElem? (i := 26) rfl)) rfl
theorem mw_747 : Cond.static yn_O_numberWithout ∈ lw_g := tg_of (tw_4 (List.mem_of_getElem? (i := 27) rfl)) rfl
theorem mw_748 : Cond.code yn_O_numberWithout prog_5_method_8_code 2 (Option.some Jvm.ClassFile.FieldType.int) ∈ lw_g := tg_of (tw_4 (List.mem_of_getElem? (i := 28) rfl)) rfl
theorem mw_749 : Cond.methodLink "BallotDesk$WhatIf" 105 yn_O_numberWithout ∈ lw_g := tg_of (tw_4 (List.mem_of_getElem? (i := 29) rfl)) rfl
theorem mw_750 : Cond.methodLink "BallotDeskLaw" 154 yn_L_circle ∈ lw_g := tg_of (tw_4 (List.mem_of_getElem? (i := 30) rfl)) rfl
theorem mw_751 : Cond.static yn_L_circle ∈ lw_g := tg_of (tw_4 (List.mem_of_getElem? (i := 31) rfl)) rfl
theorem mw_753 : Cond.methodLink "BallotDeskLaw" 65 yn_D_circle ∈ lw_g := tg_of (tw_4 (List.mem_of_getElem? (i := 33) rfl)) rfl
theorem mw_754 : Cond.instanceMethod yn_D_circle ∈ lw_g := tg_of (tw_4 (List.mem_of_getElem? (i := 34) rfl)) rfl
theorem mw_755 : Cond.selects "BallotDesk" yn_D_circle yn_D_circle ∈ lw_g := tg_of (tw_4 (List.mem_of_getElem? (i := 35) rfl)) rfl
theorem mw_756 : Cond.code yn_D_circle prog_1_method_22_code 3 (Option.some Jvm.ClassFile.FieldType.int) ∈ lw_g := tg_of (tw_4 (List.mem_of_getElem? (i := 36) rfl)) rfl
theorem mw_757 : Cond.methodLink "BallotDesk" 184 yn_P_leastCircle ∈ lw_g := tg_of (tw_4 (List.mem_of_getElem? (i := 37) rfl)) rfl
theorem mw_758 : Cond.instanceMethod yn_P_leastCircle ∈ lw_g := tg_of (tw_4 (List.mem_of_getElem? (i := 38) rfl)) rfl
theorem mw_759 : Cond.selects "BallotDesk$Poll" yn_P_leastCircle yn_P_leastCircle ∈ lw_g := tg_of (tw_4 (List.mem_of_getElem? (i := 39) rfl)) rfl
theorem mw_760 : Cond.code yn_P_leastCircle prog_8_method_16_code 4 (Option.some Jvm.ClassFile.FieldType.int) ∈ lw_g := tg_of (tw_4 (List.mem_of_getElem? (i := 40) rfl)) rfl
theorem mw_761 : Cond.methodLink "BallotDesk" 188 yn_O_at ∈ lw_g := tg_of (tw_4 (List.mem_of_getElem? (i := 41) rfl)) rfl
theorem mw_762 : Cond.methodLink "BallotDeskLaw" 157 yn_L_clones ∈ lw_g := tg_of (tw_4 (List.mem_of_getElem? (i := 42) rfl)) rfl
theorem mw_763 : Cond.static yn_L_clones ∈ lw_g := tg_of (tw_4 (List.mem_of_getElem? (i := 43) rfl)) rfl
theorem mw_765 : Cond.methodLink "BallotDeskLaw" 68 yn_D_clones ∈ lw_g := tg_of (tw_4 (List.mem_of_getElem? (i := 45) rfl)) rfl
theorem mw_766 : Cond.instanceMethod yn_D_clones ∈ lw_g := tg_of (tw_4 (List.mem_of_getElem? (i := 46) rfl)) rfl
theorem mw_767 : Cond.selects "BallotDesk" yn_D_clones yn_D_clones ∈ lw_g := tg_of (tw_4 (List.mem_of_getElem? (i := 47) rfl)) rfl
theorem mw_768 : Cond.code yn_D_clones prog_1_method_23_code 3 (Option.some Jvm.ClassFile.FieldType.boolean) ∈ lw_g := tg_of (tw_4 (List.mem_of_getElem? (i := 48) rfl)) rfl
theorem mw_769 : Cond.methodLink "BallotDesk" 191 yn_P_everyone ∈ lw_g := tg_of (tw_4 (List.mem_of_getElem? (i := 49) rfl)) rfl
theorem mw_770 : Cond.methodLink "BallotDesk" 194 yn_JI_bitCount ∈ lw_g := tg_of (tw_4 (List.mem_of_getElem? (i := 50) rfl)) rfl
theorem mw_771 : Cond.methodLink "BallotDesk" 200 yn_O_standTogether ∈ lw_g := tg_of (tw_4 (List.mem_of_getElem? (i := 51) rfl)) rfl
theorem mw_772 : Cond.static yn_O_standTogether ∈ lw_g := tg_of (tw_4 (List.mem_of_getElem? (i := 52) rfl)) rfl
theorem mw_773 : Cond.code yn_O_standTogether prog_5_method_9_code 6 (Option.some Jvm.ClassFile.FieldType.boolean) ∈ lw_g := tg_of (tw_4 (List.mem_of_getElem? (i := 53) rfl)) rfl
theorem mw_774 : Cond.methodLink "BallotDesk$Order" 20 yn_JM_min ∈ lw_g := tg_of (tw_4 (List.mem_of_getElem? (i := 54) rfl)) rfl
theorem mw_775 : Cond.methodLink "BallotDesk$Order" 25 yn_JI_bitCount ∈ lw_g := tg_of (tw_4 (List.mem_of_getElem? (i := 55) rfl)) rfl
theorem mw_776 : Cond.methodLink "BallotDeskLaw" 160 yn_L_count ∈ lw_g := tg_of (tw_4 (List.mem_of_getElem? (i := 56) rfl)) rfl
theorem mw_777 : Cond.static yn_L_count ∈ lw_g := tg_of (tw_4 (List.mem_of_getElem? (i := 57) rfl)) rfl
theorem mw_779 : Cond.methodLink "BallotDeskLaw" 72 yn_D_count ∈ lw_g := tg_of (tw_4 (List.mem_of_getElem? (i := 59) rfl)) rfl
theorem mw_780 : Cond.instanceMethod yn_D_count ∈ lw_g := tg_of (tw_4 (List.mem_of_getElem? (i := 60) rfl)) rfl
theorem mw_781 : Cond.selects "BallotDesk" yn_D_count yn_D_count ∈ lw_g := tg_of (tw_4 (List.mem_of_getElem? (i := 61) rfl)) rfl
theorem mw_782 : Cond.code yn_D_count prog_1_method_24_code 2 (Option.some Jvm.ClassFile.FieldType.int) ∈ lw_g := tg_of (tw_4 (List.mem_of_getElem? (i := 62) rfl)) rfl
theorem mw_783 : Cond.methodLink "BallotDesk" 204 yn_P_allVoters ∈ lw_g := tg_of (tw_4 (List.mem_of_getElem? (i := 63) rfl)) rfl
theorem mw_784 : Cond.instanceMethod yn_P_allVoters ∈ lw_g := tg_of (tw_4 (List.mem_of_getElem? (i := 64) rfl)) rfl
theorem mw_785 : Cond.selects "BallotDesk$Poll" yn_P_allVoters yn_P_allVoters ∈ lw_g := tg_of (tw_4 (List.mem_of_getElem? (i := 65) rfl)) rfl
theorem mw_786 : Cond.code yn_P_allVoters prog_8_method_13_code 3 (Option.some Jvm.ClassFile.FieldType.int) ∈ lw_g := tg_of (tw_4 (List.mem_of_getElem? (i := 66) rfl)) rfl
theorem mw_787 : Cond.classLink "BallotDeskLaw" 76 "BallotDeskModel" ∈ lw_g := tg_of (tw_4 (List.mem_of_getElem? (i := 67) rfl)) rfl
theorem mw_788 : Cond.instantiable "BallotDeskModel" 24 ∈ lw_g := tg_of (tw_4 (List.mem_of_getElem? (i := 68) rfl)) rfl
theorem mw_789 : Cond.methodLink "BallotDeskLaw" 78 yn_M_init ∈ lw_g := tg_of (tw_4 (List.mem_of_getElem? (i := 69) rfl)) rfl
theorem mw_790 : Cond.instanceMethod yn_M_init ∈ lw_g := tg_of (tw_4 (List.mem_of_getElem? (i := 70) rfl)) rfl
theorem mw_791 : Cond.code yn_M_init prog_13_method_1_code 1 (Option.none : Option Jvm.ClassFile.FieldType) ∈ lw_g := tg_of (tw_4 (List.mem_of_getElem? (i := 71) rfl)) rfl
theorem mw_792 : Cond.methodLink "BallotDeskModel" 1 ⟨"java/lang/Object", "<init>", "()V"⟩ ∈ lw_g := tg_of (tw_4 (List.mem_of_getElem? (i := 72) rfl)) rfl
theorem mw_793 : Cond.methodLink "BallotDeskModel" 73 yn_M_reset ∈ lw_g := tg_of (tw_4 (List.mem_of_getElem? (i := 73) rfl)) rfl
theorem mw_795 : Cond.instanceMethod yn_M_reset ∈ lw_g := tg_of (tw_4 (List.mem_of_getElem? (i := 75) rfl)) rfl
theorem mw_796 : Cond.code yn_M_reset prog_13_method_2_code 2 (Option.none : Option Jvm.ClassFile.FieldType) ∈ lw_g := tg_of (tw_4 (List.mem_of_getElem? (i := 76) rfl)) rfl
theorem mw_797 : Cond.fieldLink "BallotDeskModel" 79 "BallotDeskModel" "thrown" "I" ∈ lw_g := tg_of (tw_4 (List.mem_of_getElem? (i := 77) rfl)) rfl
theorem mw_798 : Cond.fieldLink "BallotDeskModel" 7 "BallotDeskModel" "n" "I" ∈ lw_g := tg_of (tw_4 (List.mem_of_getElem? (i := 78) rfl)) rfl
theorem mw_799 : Cond.fieldLink "BallotDeskModel" 76 "BallotDeskModel" "types" "I" ∈ lw_g := tg_of (tw_4 (List.mem_of_getElem? (i := 79) rfl)) rfl
theorem mw_800 : Cond.fieldLink "BallotDeskModel" 13 "BallotDeskModel" "orders" "[I" ∈ lw_g := tg_of (tw_4 (List.mem_of_getElem? (i := 80) rfl)) rfl
theorem mw_801 : Cond.fieldLink "BallotDeskModel" 17 "BallotDeskModel" "amounts" "[I" ∈ lw_g := tg_of (tw_4 (List.mem_of_getElem? (i := 81) rfl)) rfl
theorem mw_802 : Cond.fieldLink "BallotDeskModel" 20 "BallotDeskModel" "ties" "[I" ∈ lw_g := tg_of (tw_4 (List.mem_of_getElem? (i := 82) rfl)) rfl
theorem mw_803 : Cond.fieldLink "BallotDeskModel" 23 "BallotDeskModel" "agendas" "[I" ∈ lw_g := tg_of (tw_4 (List.mem_of_getElem? (i := 83) rfl)) rfl
theorem mw_804 : Cond.fieldLink "BallotDeskModel" 26 "BallotDeskModel" "weights" "[I" ∈ lw_g := tg_of (tw_4 (List.mem_of_getElem? (i := 84) rfl)) rfl
theorem mw_805 : Cond.fieldLink "BallotDeskModel" 106 "BallotDeskModel" "m" "I" ∈ lw_g := tg_of (tw_4 (List.mem_of_getElem? (i := 85) rfl)) rfl
theorem mw_806 : Cond.fieldLink "BallotDeskModel" 109 "BallotDeskModel" "many" "I" ∈ lw_g := tg_of (tw_4 (List.mem_of_getElem? (i := 86) rfl)) rfl
theorem mw_807 : Cond.fieldLink "BallotDeskModel" 29 "BallotDeskModel" "places" "[I" ∈ lw_g := tg_of (tw_4 (List.mem_of_getElem? (i := 87) rfl)) rfl
theorem mw_808 : Cond.fieldLink "BallotDeskModel" 32 "BallotDeskModel" "voters" "[I" ∈ lw_g := tg_of (tw_4 (List.mem_of_getElem? (i := 88) rfl)) rfl
theorem mw_809 : Cond.fieldLink "BallotDeskModel" 35 "BallotDeskModel" "tie" "[I" ∈ lw_g := tg_of (tw_4 (List.mem_of_getElem? (i := 89) rfl)) rfl
theorem mw_810 : Cond.fieldLink "BallotDeskModel" 38 "BallotDeskModel" "turn" "[I" ∈ lw_g := tg_of (tw_4 (List.mem_of_getElem? (i := 90) rfl)) rfl
theorem mw_811 : Cond.fieldLink "BallotDeskModel" 41 "BallotDeskModel" "weight" "[I" ∈ lw_g := tg_of (tw_4 (List.mem_of_getElem? (i := 91) rfl)) rfl
theorem mw_812 : Cond.fieldLink "BallotDeskModel" 44 "BallotDeskModel" "pairs" "[I" ∈ lw_g := tg_of (tw_4 (List.mem_of_getElem? (i := 92) rfl)) rfl
theorem mw_813 : Cond.fieldLink "BallotDeskModel" 47 "BallotDeskModel" "paths" "[I" ∈ lw_g := tg_of (tw_4 (List.mem_of_getElem? (i := 93) rfl)) rfl
theorem mw_814 : Cond.fieldLink "BallotDeskModel" 50 "BallotDeskModel" "locked" "[Z" ∈ lw_g := tg_of (tw_4 (List.mem_of_getElem? (i := 94) rfl)) rfl
theorem mw_815 : Cond.fieldLink "BallotDeskModel" 54 "BallotDeskModel" "left" "[Z" ∈ lw_g := tg_of (tw_4 (List.mem_of_getElem? (i := 95) rfl)) rfl
theorem mw_816 : Cond.fieldLink "BallotDeskModel" 57 "BallotDeskModel" "least" "[J" ∈ lw_g := tg_of (tw_4 (List.mem_of_getElem? (i := 96) rfl)) rfl
theorem mw_817 : Cond.fieldLink "BallotDeskModel" 61 "BallotDeskModel" "trial" "[I" ∈ lw_g := tg_of (tw_4 (List.mem_of_getElem? (i := 97) rfl)) rfl
theorem mw_818 : Cond.fieldLink "BallotDeskModel" 64 "BallotDeskModel" "best" "[I" ∈ lw_g := tg_of (tw_4 (List.mem_of_getElem? (i := 98) rfl)) rfl
theorem mw_819 : Cond.fieldLink "BallotDeskModel" 67 "BallotDeskModel" "changedTo" "I" ∈ lw_g := tg_of (tw_4 (List.mem_of_getElem? (i := 99) rfl)) rfl
theorem mw_820 : Cond.fieldLink "BallotDeskModel" 70 "BallotDeskModel" "broken" "I" ∈ lw_g := tg_of (tw_4 (List.mem_of_getElem? (i := 100) rfl)) rfl
theorem mw_870 : Cond.arrayClass Jvm.ClassFile.FieldType.long ∈ lw_g := tg_of (tw_4 (List.mem_of_getElem? (i := 150) rfl)) rfl
theorem mw_871 : Cond.methodLink "BallotDeskLaw" 85 yn_M_thrown ∈ lw_g := tg_of (tw_4 (List.mem_of_getElem? (i := 151) rfl)) rfl
theorem mw_872 : Cond.instanceMethod yn_M_thrown ∈ lw_g := tg_of (tw_4 (List.mem_of_getElem? (i := 152) rfl)) rfl
theorem mw_873 : Cond.selects "BallotDeskModel" yn_M_thrown yn_M_thrown ∈ lw_g := tg_of (tw_4 (List.mem_of_getElem? (i := 153) rfl)) rfl
theorem mw_874 : Cond.code yn_M_thrown prog_13_method_3_code 1 (Option.some Jvm.ClassFile.FieldType.int) ∈ lw_g := tg_of (tw_4 (List.mem_of_getElem? (i := 154) rfl)) rfl
theorem mw_875 : Cond.methodLink "BallotDeskLaw" 84 yn_M_candidates ∈ lw_g := tg_of (tw_4 (List.mem_of_getElem? (i := 155) rfl)) rfl
theorem mw_876 : Cond.instanceMethod yn_M_candidates ∈ lw_g := tg_of (tw_4 (List.mem_of_getElem? (i := 156) rfl)) rfl
theorem mw_877 : Cond.selects "BallotDeskModel" yn_M_candidates yn_M_candidates ∈ lw_g := tg_of (tw_4 (List.mem_of_getElem? (i := 157) rfl)) rfl
theorem mw_878 : Cond.code yn_M_candidates prog_13_method_9_code 3 (Option.some Jvm.ClassFile.FieldType.int) ∈ lw_g := tg_of (tw_4 (List.mem_of_getElem? (i := 158) rfl)) rfl
theorem mw_879 : Cond.methodLink "BallotDeskModel" 82 yn_M_within ∈ lw_g := tg_of (tw_4 (List.mem_of_getElem? (i := 159) rfl)) rfl
theorem mw_880 : Cond.static yn_M_within ∈ lw_g := tg_of (tw_4 (List.mem_of_getElem? (i := 160) rfl)) rfl
theorem mw_881 : Cond.code yn_M_within prog_13_method_5_code 3 (Option.some Jvm.ClassFile.FieldType.boolean) ∈ lw_g := tg_of (tw_4 (List.mem_of_getElem? (i := 161) rfl)) rfl
theorem mw_882 : Cond.methodLink "BallotDeskModel" 86 yn_M_goes ∈ lw_g := tg_of (tw_4 (List.mem_of_getElem? (i := 162) rfl)) rfl
theorem mw_884 : Cond.instanceMethod yn_M_goes ∈ lw_g := tg_of (tw_4 (List.mem_of_getElem? (i := 164) rfl)) rfl
theorem mw_885 : Cond.code yn_M_goes prog_13_method_4_code 3 (Option.some Jvm.ClassFile.FieldType.boolean) ∈ lw_g := tg_of (tw_4 (List.mem_of_getElem? (i := 165) rfl)) rfl
theorem mw_886 : Cond.methodLink "BallotDeskLaw" 92 yn_M_ballot ∈ lw_g := tg_of (tw_4 (List.mem_of_getElem? (i := 166) rfl)) rfl
theorem mw_887 : Cond.instanceMethod yn_M_ballot ∈ lw_g := tg_of (tw_4 (List.mem_of_getElem? (i := 167) rfl)) rfl
theorem mw_888 : Cond.selects "BallotDeskModel" yn_M_ballot yn_M_ballot ∈ lw_g := tg_of (tw_4 (List.mem_of_getElem? (i := 168) rfl)) rfl
theorem mw_889 : Cond.code yn_M_ballot prog_13_method_10_code 3 (Option.some Jvm.ClassFile.FieldType.int) ∈ lw_g := tg_of (tw_4 (List.mem_of_getElem? (i := 169) rfl)) rfl
theorem mw_890 : Cond.methodLink "BallotDeskModel" 90 yn_M_isOrder ∈ lw_g := tg_of (tw_4 (List.mem_of_getElem? (i := 170) rfl)) rfl
theorem mw_892 : Cond.instanceMethod yn_M_isOrder ∈ lw_g := tg_of (tw_4 (List.mem_of_getElem? (i := 172) rfl)) rfl
theorem mw_893 : Cond.code yn_M_isOrder prog_13_method_6_code 4 (Option.some Jvm.ClassFile.FieldType.boolean) ∈ lw_g := tg_of (tw_4 (List.mem_of_getElem? (i := 173) rfl)) rfl
theorem mw_894 : Cond.constant "BallotDeskModel" 94 100000 ∈ lw_g := tg_of (tw_4 (List.mem_of_getElem? (i := 174) rfl)) rfl
theorem mw_895 : Cond.methodLink "BallotDeskModel" 95 yn_M_unpack ∈ lw_g := tg_of (tw_4 (List.mem_of_getElem? (i := 175) rfl)) rfl
theorem mw_897 : Cond.instanceMethod yn_M_unpack ∈ lw_g := tg_of (tw_4 (List.mem_of_getElem? (i := 177) rfl)) rfl
theorem mw_898 : Cond.code yn_M_unpack prog_13_method_7_code 5 (Option.none : Option Jvm.ClassFile.FieldType) ∈ lw_g := tg_of (tw_4 (List.mem_of_getElem? (i := 178) rfl)) rfl
theorem mw_899 : Cond.methodLink "BallotDeskLaw" 95 yn_M_amount ∈ lw_g := tg_of (tw_4 (List.mem_of_getElem? (i := 179) rfl)) rfl
theorem mw_900 : Cond.instanceMethod yn_M_amount ∈ lw_g := tg_of (tw_4 (List.mem_of_getElem? (i := 180) rfl)) rfl
theorem mw_901 : Cond.selects "BallotDeskModel" yn_M_amount yn_M_amount ∈ lw_g := tg_of (tw_4 (List.mem_of_getElem? (i := 181) rfl)) rfl
theorem mw_902 : Cond.code yn_M_amount prog_13_method_12_code 4 (Option.some Jvm.ClassFile.FieldType.int) ∈ lw_g := tg_of (tw_4 (List.mem_of_getElem? (i := 182) rfl)) rfl
theorem mw_903 : Cond.methodLink "BallotDeskModel" 99 yn_M_isType ∈ lw_g := tg_of (tw_4 (List.mem_of_getElem? (i := 183) rfl)) rfl
theorem mw_905 : Cond.instanceMethod yn_M_isType ∈ lw_g := tg_of (tw_4 (List.mem_of_getElem? (i := 185) rfl)) rfl
theorem mw_906 : Cond.code yn_M_isType prog_13_method_11_code 2 (Option.some Jvm.ClassFile.FieldType.boolean) ∈ lw_g := tg_of (tw_4 (List.mem_of_getElem? (i := 186) rfl)) rfl
theorem mw_907 : Cond.methodLink "BallotDeskLaw" 98 yn_M_drop ∈ lw_g := tg_of (tw_4 (List.mem_of_getElem? (i := 187) rfl)) rfl
theorem mw_908 : Cond.instanceMethod yn_M_drop ∈ lw_g := tg_of (tw_4 (List.mem_of_getElem? (i := 188) rfl)) rfl
theorem mw_909 : Cond.selects "BallotDeskModel" yn_M_drop yn_M_drop ∈ lw_g := tg_of (tw_4 (List.mem_of_getElem? (i := 189) rfl)) rfl
theorem mw_910 : Cond.code yn_M_drop prog_13_method_13_code 4 (Option.some Jvm.ClassFile.FieldType.int) ∈ lw_g := tg_of (tw_4 (List.mem_of_getElem? (i := 190) rfl)) rfl
theorem mw_911 : Cond.methodLink "BallotDeskLaw" 101 yn_M_tieOrder ∈ lw_g := tg_of (tw_4 (List.mem_of_getElem? (i := 191) rfl)) rfl
theorem mw_912 : Cond.instanceMethod yn_M_tieOrder ∈ lw_g := tg_of (tw_4 (List.mem_of_getElem? (i := 192) rfl)) rfl
theorem mw_913 : Cond.selects "BallotDeskModel" yn_M_tieOrder yn_M_tieOrder ∈ lw_g := tg_of (tw_4 (List.mem_of_getElem? (i := 193) rfl)) rfl
theorem mw_914 : Cond.code yn_M_tieOrder prog_13_method_14_code 3 (Option.some Jvm.ClassFile.FieldType.int) ∈ lw_g := tg_of (tw_4 (List.mem_of_getElem? (i := 194) rfl)) rfl
theorem mw_915 : Cond.methodLink "BallotDeskModel" 102 yn_M_packed ∈ lw_g := tg_of (tw_4 (List.mem_of_getElem? (i := 195) rfl)) rfl
theorem mw_917 : Cond.instanceMethod yn_M_packed ∈ lw_g := tg_of (tw_4 (List.mem_of_getElem? (i := 197) rfl)) rfl
theorem mw_918 : Cond.code yn_M_packed prog_13_method_8_code 5 (Option.some Jvm.ClassFile.FieldType.int) ∈ lw_g := tg_of (tw_4 (List.mem_of_getElem? (i := 198) rfl)) rfl
theorem mw_919 : Cond.methodLink "BallotDeskLaw" 104 yn_M_agenda ∈ lw_g := tg_of (tw_4 (List.mem_of_getElem? (i := 199) rfl)) rfl
theorem mw_920 : Cond.instanceMethod yn_M_agenda ∈ lw_g := tg_of (tw_4 (List.mem_of_getElem? (i := 200) rfl)) rfl
theorem mw_921 : Cond.selects "BallotDeskModel" yn_M_agenda yn_M_agenda ∈ lw_g := tg_of (tw_4 (List.mem_of_getElem? (i := 201) rfl)) rfl
theorem mw_922 : Cond.code yn_M_agenda prog_13_method_15_code 3 (Option.some Jvm.ClassFile.FieldType.int) ∈ lw_g := tg_of (tw_4 (List.mem_of_getElem? (i := 202) rfl)) rfl
theorem mw_923 : Cond.methodLink "BallotDeskLaw" 107 yn_M_weight ∈ lw_g := tg_of (tw_4 (List.mem_of_getElem? (i := 203) rfl)) rfl
theorem mw_924 : Cond.instanceMethod yn_M_weight ∈ lw_g := tg_of (tw_4 (List.mem_of_getElem? (i := 204) rfl)) rfl
theorem mw_925 : Cond.selects "BallotDeskModel" yn_M_weight yn_M_weight ∈ lw_g := tg_of (tw_4 (List.mem_of_getElem? (i := 205) rfl)) rfl
theorem mw_926 : Cond.code yn_M_weight prog_13_method_16_code 4 (Option.some Jvm.ClassFile.FieldType.int) ∈ lw_g := tg_of (tw_4 (List.mem_of_getElem? (i := 206) rfl)) rfl
theorem mw_927 : Cond.methodLink "BallotDeskLaw" 110 yn_M_winners ∈ lw_g := tg_of (tw_4 (List.mem_of_getElem? (i := 207) rfl)) rfl
theorem mw_928 : Cond.instanceMethod yn_M_winners ∈ lw_g := tg_of (tw_4 (List.mem_of_getElem? (i := 208) rfl)) rfl
theorem mw_929 : Cond.selects "BallotDeskModel" yn_M_winners yn_M_winners ∈ lw_g := tg_of (tw_4 (List.mem_of_getElem? (i := 209) rfl)) rfl
theorem mw_930 : Cond.code yn_M_winners prog_13_method_46_code 2 (Option.some Jvm.ClassFile.FieldType.int) ∈ lw_g := tg_of (tw_4 (List.mem_of_getElem? (i := 210) rfl)) rfl
theorem mw_931 : Cond.methodLink "BallotDeskModel" 190 yn_M_isRule ∈ lw_g := tg_of (tw_4 (List.mem_of_getElem? (i := 211) rfl)) rfl
theorem mw_932 : Cond.static yn_M_isRule ∈ lw_g := tg_of (tw_4 (List.mem_of_getElem? (i := 212) rfl)) rfl
theorem mw_933 : Cond.code yn_M_isRule prog_13_method_44_code 1 (Option.some Jvm.ClassFile.FieldType.boolean) ∈ lw_g := tg_of (tw_4 (List.mem_of_getElem? (i := 213) rfl)) rfl
theorem mw_934 : Cond.methodLink "BallotDeskModel" 193 yn_M_load ∈ lw_g := tg_of (tw_4 (List.mem_of_getElem? (i := 214) rfl)) rfl
theorem mw_936 : Cond.instanceMethod yn_M_load ∈ lw_g := tg_of (tw_4 (List.mem_of_getElem? (i := 216) rfl)) rfl
theorem mw_937 : Cond.code yn_M_load prog_13_method_17_code 2 (Option.none : Option Jvm.ClassFile.FieldType) ∈ lw_g := tg_of (tw_4 (List.mem_of_getElem? (i := 217) rfl)) rfl
theorem mw_938 : Cond.methodLink "BallotDeskModel" 196 yn_M_work ∈ lw_g := tg_of (tw_4 (List.mem_of_getElem? (i := 218) rfl)) rfl
theorem mw_940 : Cond.instanceMethod yn_M_work ∈ lw_g := tg_of (tw_4 (List.mem_of_getElem? (i := 220) rfl)) rfl
theorem mw_941 : Cond.code yn_M_work prog_13_method_42_code 2 (Option.some Jvm.ClassFile.FieldType.int) ∈ lw_g := tg_of (tw_4 (List.mem_of_getElem? (i := 221) rfl)) rfl
theorem mw_942 : Cond.methodLink "BallotDeskModel" 162 yn_M_tally ∈ lw_g := tg_of (tw_4 (List.mem_of_getElem? (i := 222) rfl)) rfl
theorem mw_944 : Cond.instanceMethod yn_M_tally ∈ lw_g := tg_of (tw_4 (List.mem_of_getElem? (i := 224) rfl)) rfl
theorem mw_945 : Cond.code yn_M_tally prog_13_method_22_code 5 (Option.none : Option Jvm.ClassFile.FieldType) ∈ lw_g := tg_of (tw_4 (List.mem_of_getElem? (i := 225) rfl)) rfl
theorem mw_946 : Cond.methodLink "BallotDeskModel" 165 yn_M_extreme ∈ lw_g := tg_of (tw_4 (List.mem_of_getElem? (i := 226) rfl)) rfl
theorem mw_948 : Cond.instanceMethod yn_M_extreme ∈ lw_g := tg_of (tw_4 (List.mem_of_getElem? (i := 228) rfl)) rfl
theorem mw_949 : Cond.code yn_M_extreme prog_13_method_27_code 7 (Option.some Jvm.ClassFile.FieldType.int) ∈ lw_g := tg_of (tw_4 (List.mem_of_getElem? (i := 229) rfl)) rfl
theorem mw_950 : Cond.methodLink "BallotDeskModel" 132 yn_M_scored ∈ lw_g := tg_of (tw_4 (List.mem_of_getElem? (i := 230) rfl)) rfl
theorem mw_952 : Cond.instanceMethod yn_M_scored ∈ lw_g := tg_of (tw_4 (List.mem_of_getElem? (i := 232) rfl)) rfl
theorem mw_953 : Cond.code yn_M_scored prog_13_method_26_code 7 (Option.some Jvm.ClassFile.FieldType.long) ∈ lw_g := tg_of (tw_4 (List.mem_of_getElem? (i := 233) rfl)) rfl
theorem mw_954 : Cond.methodLink "BallotDeskModel" 115 yn_M_all ∈ lw_g := tg_of (tw_4 (List.mem_of_getElem? (i := 234) rfl)) rfl
theorem mw_956 : Cond.instanceMethod yn_M_all ∈ lw_g := tg_of (tw_4 (List.mem_of_getElem? (i := 236) rfl)) rfl
theorem mw_957 : Cond.code yn_M_all prog_13_method_25_code 1 (Option.some Jvm.ClassFile.FieldType.int) ∈ lw_g := tg_of (tw_4 (List.mem_of_getElem? (i := 237) rfl)) rfl
theorem mw_958 : Cond.methodLink "BallotDeskModel" 119 yn_M_ahead ∈ lw_g := tg_of (tw_4 (List.mem_of_getElem? (i := 238) rfl)) rfl
theorem mw_960 : Cond.instanceMethod yn_M_ahead ∈ lw_g := tg_of (tw_5 (List.mem_of_getElem? (i := 0) rfl)) rfl
theorem mw_961 : Cond.code yn_M_ahead prog_13_method_24_code 6 (Option.some Jvm.ClassFile.FieldType.int) ∈ lw_g := tg_of (tw_5 (List.mem_of_getElem? (i := 1) rfl)) rfl
theorem mw_962 : Cond.methodLink "BallotDeskModel" 123 yn_M_placeOf ∈ lw_g := tg_of (tw_5 (List.mem_of_getElem? (i := 2) rfl)) rfl
theorem mw_964 : Cond.instanceMethod yn_M_placeOf ∈ lw_g := tg_of (tw_5 (List.mem_of_getElem? (i := 4) rfl)) rfl
theorem mw_965 : Cond.code yn_M_placeOf prog_13_method_20_code 4 (Option.some Jvm.ClassFile.FieldType.int) ∈ lw_g := tg_of (tw_5 (List.mem_of_getElem? (i := 5) rfl)) rfl
theorem mw_966 : Cond.methodLink "BallotDeskModel" 126 yn_M_beats ∈ lw_g := tg_of (tw_5 (List.mem_of_getElem? (i := 6) rfl)) rfl
theorem mw_968 : Cond.instanceMethod yn_M_beats ∈ lw_g := tg_of (tw_5 (List.mem_of_getElem? (i := 8) rfl)) rfl
theorem mw_969 : Cond.code yn_M_beats prog_13_method_23_code 3 (Option.some Jvm.ClassFile.FieldType.boolean) ∈ lw_g := tg_of (tw_5 (List.mem_of_getElem? (i := 9) rfl)) rfl
theorem mw_970 : Cond.constantLong "BallotDeskModel" 130 2 ∈ lw_g := tg_of (tw_5 (List.mem_of_getElem? (i := 10) rfl)) rfl
theorem mw_971 : Cond.methodLink "BallotDeskModel" 169 yn_M_runoff ∈ lw_g := tg_of (tw_5 (List.mem_of_getElem? (i := 11) rfl)) rfl
theorem mw_973 : Cond.instanceMethod yn_M_runoff ∈ lw_g := tg_of (tw_5 (List.mem_of_getElem? (i := 13) rfl)) rfl
theorem mw_974 : Cond.code yn_M_runoff prog_13_method_28_code 8 (Option.some Jvm.ClassFile.FieldType.int) ∈ lw_g := tg_of (tw_5 (List.mem_of_getElem? (i := 14) rfl)) rfl
theorem mw_975 : Cond.methodLink "BallotDeskModel" 172 yn_M_eliminate ∈ lw_g := tg_of (tw_5 (List.mem_of_getElem? (i := 15) rfl)) rfl
theorem mw_977 : Cond.instanceMethod yn_M_eliminate ∈ lw_g := tg_of (tw_5 (List.mem_of_getElem? (i := 17) rfl)) rfl
theorem mw_978 : Cond.code yn_M_eliminate prog_13_method_31_code 5 (Option.some Jvm.ClassFile.FieldType.int) ∈ lw_g := tg_of (tw_5 (List.mem_of_getElem? (i := 18) rfl)) rfl
theorem mw_979 : Cond.methodLink "BallotDeskModel" 136 yn_M_single ∈ lw_g := tg_of (tw_5 (List.mem_of_getElem? (i := 19) rfl)) rfl
theorem mw_980 : Cond.static yn_M_single ∈ lw_g := tg_of (tw_5 (List.mem_of_getElem? (i := 20) rfl)) rfl
theorem mw_981 : Cond.code yn_M_single prog_13_method_30_code 1 (Option.some Jvm.ClassFile.FieldType.boolean) ∈ lw_g := tg_of (tw_5 (List.mem_of_getElem? (i := 21) rfl)) rfl
theorem mw_982 : Cond.methodLink "BallotDeskModel" 139 yn_M_weakest ∈ lw_g := tg_of (tw_5 (List.mem_of_getElem? (i := 22) rfl)) rfl
theorem mw_984 : Cond.instanceMethod yn_M_weakest ∈ lw_g := tg_of (tw_5 (List.mem_of_getElem? (i := 24) rfl)) rfl
theorem mw_985 : Cond.code yn_M_weakest prog_13_method_29_code 6 (Option.some Jvm.ClassFile.FieldType.int) ∈ lw_g := tg_of (tw_5 (List.mem_of_getElem? (i := 25) rfl)) rfl
theorem mw_986 : Cond.methodLink "BallotDeskModel" 175 yn_M_pathWinners ∈ lw_g := tg_of (tw_5 (List.mem_of_getElem? (i := 26) rfl)) rfl
theorem mw_988 : Cond.instanceMethod yn_M_pathWinners ∈ lw_g := tg_of (tw_5 (List.mem_of_getElem? (i := 28) rfl)) rfl
theorem mw_989 : Cond.code yn_M_pathWinners prog_13_method_33_code 5 (Option.some Jvm.ClassFile.FieldType.int) ∈ lw_g := tg_of (tw_5 (List.mem_of_getElem? (i := 29) rfl)) rfl
theorem mw_990 : Cond.methodLink "BallotDeskModel" 143 yn_M_findPaths ∈ lw_g := tg_of (tw_5 (List.mem_of_getElem? (i := 30) rfl)) rfl
theorem mw_992 : Cond.instanceMethod yn_M_findPaths ∈ lw_g := tg_of (tw_5 (List.mem_of_getElem? (i := 32) rfl)) rfl
theorem mw_993 : Cond.code yn_M_findPaths prog_13_method_32_code 6 (Option.none : Option Jvm.ClassFile.FieldType) ∈ lw_g := tg_of (tw_5 (List.mem_of_getElem? (i := 33) rfl)) rfl
theorem mw_994 : Cond.methodLink "BallotDeskModel" 178 yn_M_lockWinners ∈ lw_g := tg_of (tw_5 (List.mem_of_getElem? (i := 34) rfl)) rfl
theorem mw_996 : Cond.instanceMethod yn_M_lockWinners ∈ lw_g := tg_of (tw_5 (List.mem_of_getElem? (i := 36) rfl)) rfl
theorem mw_997 : Cond.code yn_M_lockWinners prog_13_method_36_code 7 (Option.some Jvm.ClassFile.FieldType.int) ∈ lw_g := tg_of (tw_5 (List.mem_of_getElem? (i := 37) rfl)) rfl
theorem mw_998 : Cond.methodLink "BallotDeskModel" 149 yn_M_sooner ∈ lw_g := tg_of (tw_5 (List.mem_of_getElem? (i := 38) rfl)) rfl
theorem mw_1000 : Cond.instanceMethod yn_M_sooner ∈ lw_g := tg_of (tw_5 (List.mem_of_getElem? (i := 40) rfl)) rfl
theorem mw_1001 : Cond.code yn_M_sooner prog_13_method_35_code 7 (Option.some Jvm.ClassFile.FieldType.boolean) ∈ lw_g := tg_of (tw_5 (List.mem_of_getElem? (i := 41) rfl)) rfl
theorem mw_1002 : Cond.methodLink "BallotDeskModel" 146 yn_M_tiePlace ∈ lw_g := tg_of (tw_5 (List.mem_of_getElem? (i := 42) rfl)) rfl
theorem mw_1004 : Cond.instanceMethod yn_M_tiePlace ∈ lw_g := tg_of (tw_5 (List.mem_of_getElem? (i := 44) rfl)) rfl
theorem mw_1005 : Cond.code yn_M_tiePlace prog_13_method_21_code 3 (Option.some Jvm.ClassFile.FieldType.int) ∈ lw_g := tg_of (tw_5 (List.mem_of_getElem? (i := 45) rfl)) rfl
theorem mw_1006 : Cond.methodLink "BallotDeskModel" 153 yn_M_leads ∈ lw_g := tg_of (tw_5 (List.mem_of_getElem? (i := 46) rfl)) rfl
theorem mw_1008 : Cond.instanceMethod yn_M_leads ∈ lw_g := tg_of (tw_5 (List.mem_of_getElem? (i := 48) rfl)) rfl
theorem mw_1009 : Cond.code yn_M_leads prog_13_method_34_code 7 (Option.some Jvm.ClassFile.FieldType.boolean) ∈ lw_g := tg_of (tw_5 (List.mem_of_getElem? (i := 49) rfl)) rfl
theorem mw_1010 : Cond.methodLink "BallotDeskModel" 181 yn_M_agreeing ∈ lw_g := tg_of (tw_5 (List.mem_of_getElem? (i := 50) rfl)) rfl
theorem mw_1012 : Cond.instanceMethod yn_M_agreeing ∈ lw_g := tg_of (tw_5 (List.mem_of_getElem? (i := 52) rfl)) rfl
theorem mw_1013 : Cond.code yn_M_agreeing prog_13_method_39_code 4 (Option.some Jvm.ClassFile.FieldType.int) ∈ lw_g := tg_of (tw_5 (List.mem_of_getElem? (i := 53) rfl)) rfl
theorem mw_1014 : Cond.methodLink "BallotDeskModel" 159 yn_M_findLeast ∈ lw_g := tg_of (tw_5 (List.mem_of_getElem? (i := 54) rfl)) rfl
theorem mw_1016 : Cond.instanceMethod yn_M_findLeast ∈ lw_g := tg_of (tw_5 (List.mem_of_getElem? (i := 56) rfl)) rfl
theorem mw_1017 : Cond.code yn_M_findLeast prog_13_method_38_code 7 (Option.none : Option Jvm.ClassFile.FieldType) ∈ lw_g := tg_of (tw_5 (List.mem_of_getElem? (i := 57) rfl)) rfl
theorem mw_1018 : Cond.methodLink "BallotDeskModel" 156 yn_M_over ∈ lw_g := tg_of (tw_5 (List.mem_of_getElem? (i := 58) rfl)) rfl
theorem mw_1020 : Cond.instanceMethod yn_M_over ∈ lw_g := tg_of (tw_5 (List.mem_of_getElem? (i := 60) rfl)) rfl
theorem mw_1021 : Cond.code yn_M_over prog_13_method_37_code 6 (Option.some Jvm.ClassFile.FieldType.long) ∈ lw_g := tg_of (tw_5 (List.mem_of_getElem? (i := 61) rfl)) rfl
theorem mw_1022 : Cond.methodLink "BallotDeskModel" 184 yn_M_uncovered ∈ lw_g := tg_of (tw_5 (List.mem_of_getElem? (i := 62) rfl)) rfl
theorem mw_1024 : Cond.instanceMethod yn_M_uncovered ∈ lw_g := tg_of (tw_5 (List.mem_of_getElem? (i := 64) rfl)) rfl
theorem mw_1025 : Cond.code yn_M_uncovered prog_13_method_40_code 6 (Option.some Jvm.ClassFile.FieldType.int) ∈ lw_g := tg_of (tw_5 (List.mem_of_getElem? (i := 65) rfl)) rfl
theorem mw_1026 : Cond.methodLink "BallotDeskModel" 187 yn_M_byAgenda ∈ lw_g := tg_of (tw_5 (List.mem_of_getElem? (i := 66) rfl)) rfl
theorem mw_1028 : Cond.instanceMethod yn_M_byAgenda ∈ lw_g := tg_of (tw_5 (List.mem_of_getElem? (i := 68) rfl)) rfl
theorem mw_1029 : Cond.code yn_M_byAgenda prog_13_method_41_code 5 (Option.some Jvm.ClassFile.FieldType.int) ∈ lw_g := tg_of (tw_5 (List.mem_of_getElem? (i := 69) rfl)) rfl
theorem mw_1030 : Cond.methodLink "BallotDeskLaw" 113 yn_M_winner ∈ lw_g := tg_of (tw_5 (List.mem_of_getElem? (i := 70) rfl)) rfl
theorem mw_1031 : Cond.instanceMethod yn_M_winner ∈ lw_g := tg_of (tw_5 (List.mem_of_getElem? (i := 71) rfl)) rfl
theorem mw_1032 : Cond.selects "BallotDeskModel" yn_M_winner yn_M_winner ∈ lw_g := tg_of (tw_5 (List.mem_of_getElem? (i := 72) rfl)) rfl
theorem mw_1033 : Cond.code yn_M_winner prog_13_method_47_code 2 (Option.some Jvm.ClassFile.FieldType.int) ∈ lw_g := tg_of (tw_5 (List.mem_of_getElem? (i := 73) rfl)) rfl
theorem mw_1034 : Cond.methodLink "BallotDeskModel" 199 yn_M_firstOf ∈ lw_g := tg_of (tw_5 (List.mem_of_getElem? (i := 74) rfl)) rfl
theorem mw_1036 : Cond.instanceMethod yn_M_firstOf ∈ lw_g := tg_of (tw_5 (List.mem_of_getElem? (i := 76) rfl)) rfl
theorem mw_1037 : Cond.code yn_M_firstOf prog_13_method_43_code 3 (Option.some Jvm.ClassFile.FieldType.int) ∈ lw_g := tg_of (tw_5 (List.mem_of_getElem? (i := 77) rfl)) rfl
theorem mw_1038 : Cond.methodLink "BallotDeskLaw" 116 yn_M_score ∈ lw_g := tg_of (tw_5 (List.mem_of_getElem? (i := 78) rfl)) rfl
theorem mw_1039 : Cond.instanceMethod yn_M_score ∈ lw_g := tg_of (tw_5 (List.mem_of_getElem? (i := 79) rfl)) rfl
theorem mw_1040 : Cond.selects "BallotDeskModel" yn_M_score yn_M_score ∈ lw_g := tg_of (tw_5 (List.mem_of_getElem? (i := 80) rfl)) rfl
theorem mw_1041 : Cond.code yn_M_score prog_13_method_48_code 3 (Option.some Jvm.ClassFile.FieldType.long) ∈ lw_g := tg_of (tw_5 (List.mem_of_getElem? (i := 81) rfl)) rfl
theorem mw_1042 : Cond.methodLink "BallotDeskModel" 202 yn_M_isCandidate ∈ lw_g := tg_of (tw_5 (List.mem_of_getElem? (i := 82) rfl)) rfl
theorem mw_1044 : Cond.instanceMethod yn_M_isCandidate ∈ lw_g := tg_of (tw_5 (List.mem_of_getElem? (i := 84) rfl)) rfl
theorem mw_1045 : Cond.code yn_M_isCandidate prog_13_method_45_code 2 (Option.some Jvm.ClassFile.FieldType.boolean) ∈ lw_g := tg_of (tw_5 (List.mem_of_getElem? (i := 85) rfl)) rfl
theorem mw_1046 : Cond.methodLink "BallotDeskLaw" 119 yn_M_pair ∈ lw_g := tg_of (tw_5 (List.mem_of_getElem? (i := 86) rfl)) rfl
theorem mw_1047 : Cond.instanceMethod yn_M_pair ∈ lw_g := tg_of (tw_5 (List.mem_of_getElem? (i := 87) rfl)) rfl
theorem mw_1048 : Cond.selects "BallotDeskModel" yn_M_pair yn_M_pair ∈ lw_g := tg_of (tw_5 (List.mem_of_getElem? (i := 88) rfl)) rfl
theorem mw_1049 : Cond.code yn_M_pair prog_13_method_49_code 3 (Option.some Jvm.ClassFile.FieldType.int) ∈ lw_g := tg_of (tw_5 (List.mem_of_getElem? (i := 89) rfl)) rfl
theorem mw_1050 : Cond.methodLink "BallotDeskLaw" 122 yn_M_path ∈ lw_g := tg_of (tw_5 (List.mem_of_getElem? (i := 90) rfl)) rfl
theorem mw_1051 : Cond.instanceMethod yn_M_path ∈ lw_g := tg_of (tw_5 (List.mem_of_getElem? (i := 91) rfl)) rfl
theorem mw_1052 : Cond.selects "BallotDeskModel" yn_M_path yn_M_path ∈ lw_g := tg_of (tw_5 (List.mem_of_getElem? (i := 92) rfl)) rfl
theorem mw_1053 : Cond.code yn_M_path prog_13_method_50_code 3 (Option.some Jvm.ClassFile.FieldType.int) ∈ lw_g := tg_of (tw_5 (List.mem_of_getElem? (i := 93) rfl)) rfl
theorem mw_1054 : Cond.methodLink "BallotDeskLaw" 126 yn_M_branches ∈ lw_g := tg_of (tw_5 (List.mem_of_getElem? (i := 94) rfl)) rfl
theorem mw_1055 : Cond.instanceMethod yn_M_branches ∈ lw_g := tg_of (tw_5 (List.mem_of_getElem? (i := 95) rfl)) rfl
theorem mw_1056 : Cond.selects "BallotDeskModel" yn_M_branches yn_M_branches ∈ lw_g := tg_of (tw_5 (List.mem_of_getElem? (i := 96) rfl)) rfl
theorem mw_1057 : Cond.code yn_M_branches prog_13_method_51_code 4 (Option.some Jvm.ClassFile.FieldType.int) ∈ lw_g := tg_of (tw_5 (List.mem_of_getElem? (i := 97) rfl)) rfl
theorem mw_1058 : Cond.methodLink "BallotDeskLaw" 129 yn_M_step ∈ lw_g := tg_of (tw_5 (List.mem_of_getElem? (i := 98) rfl)) rfl
theorem mw_1059 : Cond.instanceMethod yn_M_step ∈ lw_g := tg_of (tw_5 (List.mem_of_getElem? (i := 99) rfl)) rfl
theorem mw_1060 : Cond.selects "BallotDeskModel" yn_M_step yn_M_step ∈ lw_g := tg_of (tw_5 (List.mem_of_getElem? (i := 100) rfl)) rfl
theorem mw_1061 : Cond.code yn_M_step prog_13_method_52_code 7 (Option.some Jvm.ClassFile.FieldType.int) ∈ lw_g := tg_of (tw_5 (List.mem_of_getElem? (i := 101) rfl)) rfl
theorem mw_1062 : Cond.methodLink "BallotDeskLaw" 134 yn_M_disagreement ∈ lw_g := tg_of (tw_5 (List.mem_of_getElem? (i := 102) rfl)) rfl
theorem mw_1063 : Cond.instanceMethod yn_M_disagreement ∈ lw_g := tg_of (tw_5 (List.mem_of_getElem? (i := 103) rfl)) rfl
theorem mw_1064 : Cond.selects "BallotDeskModel" yn_M_disagreement yn_M_disagreement ∈ lw_g := tg_of (tw_5 (List.mem_of_getElem? (i := 104) rfl)) rfl
theorem mw_1065 : Cond.code yn_M_disagreement prog_13_method_58_code 1 (Option.some Jvm.ClassFile.FieldType.long) ∈ lw_g := tg_of (tw_5 (List.mem_of_getElem? (i := 105) rfl)) rfl
theorem mw_1066 : Cond.methodLink "BallotDeskModel" 220 yn_M_findAgreed ∈ lw_g := tg_of (tw_5 (List.mem_of_getElem? (i := 106) rfl)) rfl
theorem mw_1068 : Cond.instanceMethod yn_M_findAgreed ∈ lw_g := tg_of (tw_5 (List.mem_of_getElem? (i := 108) rfl)) rfl
theorem mw_1069 : Cond.code yn_M_findAgreed prog_13_method_57_code 7 (Option.some Jvm.ClassFile.FieldType.long) ∈ lw_g := tg_of (tw_5 (List.mem_of_getElem? (i := 109) rfl)) rfl
theorem mw_1070 : Cond.methodLink "BallotDeskModel" 205 yn_M_firstOrder ∈ lw_g := tg_of (tw_5 (List.mem_of_getElem? (i := 110) rfl)) rfl
theorem mw_1072 : Cond.instanceMethod yn_M_firstOrder ∈ lw_g := tg_of (tw_5 (List.mem_of_getElem? (i := 112) rfl)) rfl
theorem mw_1073 : Cond.code yn_M_firstOrder prog_13_method_53_code 2 (Option.none : Option Jvm.ClassFile.FieldType) ∈ lw_g := tg_of (tw_5 (List.mem_of_getElem? (i := 113) rfl)) rfl
theorem mw_1074 : Cond.constantLong "BallotDeskModel" 208 (-1) ∈ lw_g := tg_of (tw_5 (List.mem_of_getElem? (i := 114) rfl)) rfl
theorem mw_1075 : Cond.methodLink "BallotDeskModel" 210 yn_M_disagreementOf ∈ lw_g := tg_of (tw_5 (List.mem_of_getElem? (i := 115) rfl)) rfl
theorem mw_1077 : Cond.instanceMethod yn_M_disagreementOf ∈ lw_g := tg_of (tw_5 (List.mem_of_getElem? (i := 117) rfl)) rfl
theorem mw_1078 : Cond.code yn_M_disagreementOf prog_13_method_55_code 5 (Option.some Jvm.ClassFile.FieldType.long) ∈ lw_g := tg_of (tw_5 (List.mem_of_getElem? (i := 118) rfl)) rfl
theorem mw_1079 : Cond.methodLink "BallotDeskModel" 214 yn_M_sooner2 ∈ lw_g := tg_of (tw_5 (List.mem_of_getElem? (i := 119) rfl)) rfl
theorem mw_1081 : Cond.instanceMethod yn_M_sooner2 ∈ lw_g := tg_of (tw_5 (List.mem_of_getElem? (i := 121) rfl)) rfl
theorem mw_1082 : Cond.code yn_M_sooner2 prog_13_method_56_code 2 (Option.some Jvm.ClassFile.FieldType.boolean) ∈ lw_g := tg_of (tw_5 (List.mem_of_getElem? (i := 122) rfl)) rfl
theorem mw_1083 : Cond.methodLink "BallotDeskModel" 217 yn_M_nextOrder ∈ lw_g := tg_of (tw_5 (List.mem_of_getElem? (i := 123) rfl)) rfl
theorem mw_1085 : Cond.instanceMethod yn_M_nextOrder ∈ lw_g := tg_of (tw_5 (List.mem_of_getElem? (i := 125) rfl)) rfl
theorem mw_1086 : Cond.code yn_M_nextOrder prog_13_method_54_code 6 (Option.some Jvm.ClassFile.FieldType.boolean) ∈ lw_g := tg_of (tw_5 (List.mem_of_getElem? (i := 126) rfl)) rfl
theorem mw_1087 : Cond.methodLink "BallotDeskLaw" 138 yn_M_agreed ∈ lw_g := tg_of (tw_5 (List.mem_of_getElem? (i := 127) rfl)) rfl
theorem mw_1088 : Cond.instanceMethod yn_M_agreed ∈ lw_g := tg_of (tw_5 (List.mem_of_getElem? (i := 128) rfl)) rfl
theorem mw_1089 : Cond.selects "BallotDeskModel" yn_M_agreed yn_M_agreed ∈ lw_g := tg_of (tw_5 (List.mem_of_getElem? (i := 129) rfl)) rfl
theorem mw_1090 : Cond.code yn_M_agreed prog_13_method_59_code 3 (Option.some Jvm.ClassFile.FieldType.int) ∈ lw_g := tg_of (tw_5 (List.mem_of_getElem? (i := 130) rfl)) rfl
theorem mw_1091 : Cond.methodLink "BallotDeskLaw" 142 yn_M_change ∈ lw_g := tg_of (tw_5 (List.mem_of_getElem? (i := 131) rfl)) rfl
theorem mw_1092 : Cond.instanceMethod yn_M_change ∈ lw_g := tg_of (tw_5 (List.mem_of_getElem? (i := 132) rfl)) rfl
theorem mw_1093 : Cond.selects "BallotDeskModel" yn_M_change yn_M_change ∈ lw_g := tg_of (tw_5 (List.mem_of_getElem? (i := 133) rfl)) rfl
theorem mw_1094 : Cond.code yn_M_change prog_13_method_60_code 8 (Option.some Jvm.ClassFile.FieldType.int) ∈ lw_g := tg_of (tw_5 (List.mem_of_getElem? (i := 134) rfl)) rfl
theorem mw_1095 : Cond.methodLink "BallotDeskLaw" 146 yn_M_changed ∈ lw_g := tg_of (tw_5 (List.mem_of_getElem? (i := 135) rfl)) rfl
theorem mw_1096 : Cond.instanceMethod yn_M_changed ∈ lw_g := tg_of (tw_5 (List.mem_of_getElem? (i := 136) rfl)) rfl
theorem mw_1097 : Cond.selects "BallotDeskModel" yn_M_changed yn_M_changed ∈ lw_g := tg_of (tw_5 (List.mem_of_getElem? (i := 137) rfl)) rfl
theorem mw_1098 : Cond.code yn_M_changed prog_13_method_61_code 1 (Option.some Jvm.ClassFile.FieldType.int) ∈ lw_g := tg_of (tw_5 (List.mem_of_getElem? (i := 138) rfl)) rfl
theorem mw_1099 : Cond.methodLink "BallotDeskLaw" 149 yn_M_property ∈ lw_g := tg_of (tw_5 (List.mem_of_getElem? (i := 139) rfl)) rfl
theorem mw_1100 : Cond.instanceMethod yn_M_property ∈ lw_g := tg_of (tw_5 (List.mem_of_getElem? (i := 140) rfl)) rfl
theorem mw_1101 : Cond.selects "BallotDeskModel" yn_M_property yn_M_property ∈ lw_g := tg_of (tw_5 (List.mem_of_getElem? (i := 141) rfl)) rfl
theorem mw_1102 : Cond.code yn_M_property prog_13_method_66_code 3 (Option.some Jvm.ClassFile.FieldType.boolean) ∈ lw_g := tg_of (tw_5 (List.mem_of_getElem? (i := 142) rfl)) rfl
theorem mw_1103 : Cond.methodLink "BallotDeskModel" 230 yn_M_brokenByPairs ∈ lw_g := tg_of (tw_5 (List.mem_of_getElem? (i := 143) rfl)) rfl
theorem mw_1105 : Cond.instanceMethod yn_M_brokenByPairs ∈ lw_g := tg_of (tw_5 (List.mem_of_getElem? (i := 145) rfl)) rfl
theorem mw_1106 : Cond.code yn_M_brokenByPairs prog_13_method_63_code 6 (Option.some Jvm.ClassFile.FieldType.int) ∈ lw_g := tg_of (tw_5 (List.mem_of_getElem? (i := 146) rfl)) rfl
theorem mw_1107 : Cond.methodLink "BallotDeskModel" 223 yn_M_over2 ∈ lw_g := tg_of (tw_5 (List.mem_of_getElem? (i := 147) rfl)) rfl
theorem mw_1109 : Cond.instanceMethod yn_M_over2 ∈ lw_g := tg_of (tw_5 (List.mem_of_getElem? (i := 149) rfl)) rfl
theorem mw_1110 : Cond.code yn_M_over2 prog_13_method_62_code 5 (Option.some Jvm.ClassFile.FieldType.boolean) ∈ lw_g := tg_of (tw_5 (List.mem_of_getElem? (i := 150) rfl)) rfl
theorem mw_1111 : Cond.methodLink "BallotDeskModel" 233 yn_M_brokenByType ∈ lw_g := tg_of (tw_5 (List.mem_of_getElem? (i := 151) rfl)) rfl
theorem mw_1113 : Cond.instanceMethod yn_M_brokenByType ∈ lw_g := tg_of (tw_5 (List.mem_of_getElem? (i := 153) rfl)) rfl
theorem mw_1114 : Cond.code yn_M_brokenByType prog_13_method_64_code 6 (Option.some Jvm.ClassFile.FieldType.int) ∈ lw_g := tg_of (tw_5 (List.mem_of_getElem? (i := 154) rfl)) rfl
theorem mw_1115 : Cond.methodLink "BallotDeskModel" 236 yn_M_brokenByLeaving ∈ lw_g := tg_of (tw_5 (List.mem_of_getElem? (i := 155) rfl)) rfl
theorem mw_1117 : Cond.instanceMethod yn_M_brokenByLeaving ∈ lw_g := tg_of (tw_5 (List.mem_of_getElem? (i := 157) rfl)) rfl
theorem mw_1118 : Cond.code yn_M_brokenByLeaving prog_13_method_65_code 5 (Option.some Jvm.ClassFile.FieldType.int) ∈ lw_g := tg_of (tw_5 (List.mem_of_getElem? (i := 158) rfl)) rfl
theorem mw_1119 : Cond.methodLink "BallotDeskModel" 226 yn_M_leaveOut ∈ lw_g := tg_of (tw_5 (List.mem_of_getElem? (i := 159) rfl)) rfl
theorem mw_1121 : Cond.instanceMethod yn_M_leaveOut ∈ lw_g := tg_of (tw_5 (List.mem_of_getElem? (i := 161) rfl)) rfl
theorem mw_1122 : Cond.code yn_M_leaveOut prog_13_method_19_code 3 (Option.none : Option Jvm.ClassFile.FieldType) ∈ lw_g := tg_of (tw_5 (List.mem_of_getElem? (i := 162) rfl)) rfl
theorem mw_1123 : Cond.methodLink "BallotDeskModel" 112 yn_M_without ∈ lw_g := tg_of (tw_5 (List.mem_of_getElem? (i := 163) rfl)) rfl
theorem mw_1125 : Cond.instanceMethod yn_M_without ∈ lw_g := tg_of (tw_5 (List.mem_of_getElem? (i := 165) rfl)) rfl
theorem mw_1126 : Cond.code yn_M_without prog_13_method_18_code 7 (Option.none : Option Jvm.ClassFile.FieldType) ∈ lw_g := tg_of (tw_5 (List.mem_of_getElem? (i := 166) rfl)) rfl
theorem mw_1127 : Cond.methodLink "BallotDeskLaw" 153 yn_M_witness ∈ lw_g := tg_of (tw_5 (List.mem_of_getElem? (i := 167) rfl)) rfl
theorem mw_1128 : Cond.instanceMethod yn_M_witness ∈ lw_g := tg_of (tw_5 (List.mem_of_getElem? (i := 168) rfl)) rfl
theorem mw_1129 : Cond.selects "BallotDeskModel" yn_M_witness yn_M_witness ∈ lw_g := tg_of (tw_5 (List.mem_of_getElem? (i := 169) rfl)) rfl
theorem mw_1130 : Cond.code yn_M_witness prog_13_method_67_code 1 (Option.some Jvm.ClassFile.FieldType.int) ∈ lw_g := tg_of (tw_5 (List.mem_of_getElem? (i := 170) rfl)) rfl
theorem mw_1131 : Cond.methodLink "BallotDeskLaw" 156 yn_M_circle ∈ lw_g := tg_of (tw_5 (List.mem_of_getElem? (i := 171) rfl)) rfl
theorem mw_1132 : Cond.instanceMethod yn_M_circle ∈ lw_g := tg_of (tw_5 (List.mem_of_getElem? (i := 172) rfl)) rfl
theorem mw_1133 : Cond.selects "BallotDeskModel" yn_M_circle yn_M_circle ∈ lw_g := tg_of (tw_5 (List.mem_of_getElem? (i := 173) rfl)) rfl
theorem mw_1134 : Cond.code yn_M_circle prog_13_method_68_code 6 (Option.some Jvm.ClassFile.FieldType.int) ∈ lw_g := tg_of (tw_5 (List.mem_of_getElem? (i := 174) rfl)) rfl
theorem mw_1135 : Cond.methodLink "BallotDeskLaw" 159 yn_M_clones ∈ lw_g := tg_of (tw_5 (List.mem_of_getElem? (i := 175) rfl)) rfl
theorem mw_1136 : Cond.instanceMethod yn_M_clones ∈ lw_g := tg_of (tw_5 (List.mem_of_getElem? (i := 176) rfl)) rfl
theorem mw_1137 : Cond.selects "BallotDeskModel" yn_M_clones yn_M_clones ∈ lw_g := tg_of (tw_5 (List.mem_of_getElem? (i := 177) rfl)) rfl
theorem mw_1138 : Cond.code yn_M_clones prog_13_method_69_code 8 (Option.some Jvm.ClassFile.FieldType.boolean) ∈ lw_g := tg_of (tw_5 (List.mem_of_getElem? (i := 178) rfl)) rfl
theorem mw_1139 : Cond.methodLink "BallotDeskLaw" 162 yn_M_count ∈ lw_g := tg_of (tw_5 (List.mem_of_getElem? (i := 179) rfl)) rfl
theorem mw_1140 : Cond.instanceMethod yn_M_count ∈ lw_g := tg_of (tw_5 (List.mem_of_getElem? (i := 180) rfl)) rfl
theorem mw_1141 : Cond.selects "BallotDeskModel" yn_M_count yn_M_count ∈ lw_g := tg_of (tw_5 (List.mem_of_getElem? (i := 181) rfl)) rfl
theorem mw_1142 : Cond.code yn_M_count prog_13_method_70_code 4 (Option.some Jvm.ClassFile.FieldType.int) ∈ lw_g := tg_of (tw_5 (List.mem_of_getElem? (i := 182) rfl)) rfl
theorem ms_0 : Cond.selects "BallotDesk$Poll" yn_P_empty yn_P_empty ∈ lw_g := tg_of (List.mem_append_left _ (List.mem_of_getElem? (i := 0) rfl)) rfl
theorem ms_1 : Cond.selects "BallotDesk$Elimination" yn_E_spread yn_E_spread ∈ lw_g := tg_of (List.mem_append_left _ (List.mem_of_getElem? (i := 1) rfl)) rfl
theorem ms_2 : Cond.selects "BallotDesk$Elimination" yn_E_goers yn_E_goers ∈ lw_g := tg_of (List.mem_append_left _ (List.mem_of_getElem? (i := 2) rfl)) rfl
theorem ms_3 : Cond.selects "BallotDesk$Elimination" yn_E_countLeads yn_E_countLeads ∈ lw_g := tg_of (List.mem_append_left _ (List.mem_of_getElem? (i := 3) rfl)) rfl
theorem ms_4 : Cond.selects "BallotDesk$Agreement" yn_A_weigh yn_A_weigh ∈ lw_g := tg_of (List.mem_append_left _ (List.mem_of_getElem? (i := 4) rfl)) rfl
theorem ms_5 : Cond.selects "BallotDesk$Agreement" yn_A_sumAgainst yn_A_sumAgainst ∈ lw_g := tg_of (List.mem_append_left _ (List.mem_of_getElem? (i := 5) rfl)) rfl
theorem ms_6 : Cond.selects "BallotDesk$Agreement" yn_A_bestLeaders yn_A_bestLeaders ∈ lw_g := tg_of (List.mem_append_left _ (List.mem_of_getElem? (i := 6) rfl)) rfl
theorem ms_7 : Cond.selects "java/lang/Throwable" ⟨"java/lang/Throwable", "fillInStackTrace", "(I)Ljava/lang/Throwable;"⟩ ⟨"java/lang/Throwable", "fillInStackTrace", "(I)Ljava/lang/Throwable;"⟩ ∈ lw_g := tg_of (List.mem_append_left _ (List.mem_of_getElem? (i := 7) rfl)) rfl
theorem ms_8 : Cond.selects "BallotDesk$Poll" yn_P_tally yn_P_tally ∈ lw_g := tg_of (List.mem_append_left _ (List.mem_of_getElem? (i := 8) rfl)) rfl
theorem ms_9 : Cond.selects "BallotDesk" yn_D_isType yn_D_isType ∈ lw_g := tg_of (List.mem_append_left _ (List.mem_of_getElem? (i := 9) rfl)) rfl
theorem ms_10 : Cond.selects "BallotDesk$Paths" yn_H_widen yn_H_widen ∈ lw_g := tg_of (List.mem_append_left _ (List.mem_of_getElem? (i := 10) rfl)) rfl
theorem ms_11 : Cond.selects "BallotDesk$Locks" yn_K_collect yn_K_collect ∈ lw_g := tg_of (List.mem_append_left _ (List.mem_of_getElem? (i := 11) rfl)) rfl
theorem ms_12 : Cond.selects "BallotDesk$Locks" yn_K_insert yn_K_insert ∈ lw_g := tg_of (List.mem_append_left _ (List.mem_of_getElem? (i := 12) rfl)) rfl
theorem ms_13 : Cond.selects "BallotDesk$Locks" yn_K_lock yn_K_lock ∈ lw_g := tg_of (List.mem_append_left _ (List.mem_of_getElem? (i := 13) rfl)) rfl
theorem ms_14 : Cond.selects "BallotDesk$Rules" yn_R_uncovered yn_R_uncovered ∈ lw_g := tg_of (List.mem_append_left _ (List.mem_of_getElem? (i := 14) rfl)) rfl
theorem ms_15 : Cond.selects "BallotDesk" yn_D_isCandidate yn_D_isCandidate ∈ lw_g := tg_of (List.mem_append_left _ (List.mem_of_getElem? (i := 15) rfl)) rfl
theorem ms_16 : Cond.selects "BallotDesk$Orders" yn_S_swap yn_S_swap ∈ lw_g := tg_of (List.mem_append_left _ (List.mem_of_getElem? (i := 16) rfl)) rfl
theorem ms_17 : Cond.selects "BallotDeskModel" yn_M_reset yn_M_reset ∈ lw_g := tg_of (List.mem_append_left _ (List.mem_of_getElem? (i := 17) rfl)) rfl
theorem ms_18 : Cond.selects "BallotDeskModel" yn_M_goes yn_M_goes ∈ lw_g := tg_of (List.mem_append_left _ (List.mem_of_getElem? (i := 18) rfl)) rfl
theorem ms_19 : Cond.selects "BallotDeskModel" yn_M_isOrder yn_M_isOrder ∈ lw_g := tg_of (List.mem_append_left _ (List.mem_of_getElem? (i := 19) rfl)) rfl
theorem ms_20 : Cond.selects "BallotDeskModel" yn_M_unpack yn_M_unpack ∈ lw_g := tg_of (List.mem_append_left _ (List.mem_of_getElem? (i := 20) rfl)) rfl
theorem ms_21 : Cond.selects "BallotDeskModel" yn_M_isType yn_M_isType ∈ lw_g := tg_of (List.mem_append_left _ (List.mem_of_getElem? (i := 21) rfl)) rfl
theorem ms_22 : Cond.selects "BallotDeskModel" yn_M_packed yn_M_packed ∈ lw_g := tg_of (List.mem_append_left _ (List.mem_of_getElem? (i := 22) rfl)) rfl
theorem ms_23 : Cond.selects "BallotDeskModel" yn_M_load yn_M_load ∈ lw_g := tg_of (List.mem_append_left _ (List.mem_of_getElem? (i := 23) rfl)) rfl
theorem ms_24 : Cond.selects "BallotDeskModel" yn_M_work yn_M_work ∈ lw_g := tg_of (List.mem_append_left _ (List.mem_of_getElem? (i := 24) rfl)) rfl
theorem ms_25 : Cond.selects "BallotDeskModel" yn_M_tally yn_M_tally ∈ lw_g := tg_of (List.mem_append_left _ (List.mem_of_getElem? (i := 25) rfl)) rfl
theorem ms_26 : Cond.selects "BallotDeskModel" yn_M_extreme yn_M_extreme ∈ lw_g := tg_of (List.mem_append_left _ (List.mem_of_getElem? (i := 26) rfl)) rfl
theorem ms_27 : Cond.selects "BallotDeskModel" yn_M_scored yn_M_scored ∈ lw_g := tg_of (List.mem_append_left _ (List.mem_of_getElem? (i := 27) rfl)) rfl
theorem ms_28 : Cond.selects "BallotDeskModel" yn_M_all yn_M_all ∈ lw_g := tg_of (List.mem_append_left _ (List.mem_of_getElem? (i := 28) rfl)) rfl
theorem ms_29 : Cond.selects "BallotDeskModel" yn_M_ahead yn_M_ahead ∈ lw_g := tg_of (List.mem_append_left _ (List.mem_of_getElem? (i := 29) rfl)) rfl
theorem ms_30 : Cond.selects "BallotDeskModel" yn_M_placeOf yn_M_placeOf ∈ lw_g := tg_of (List.mem_append_left _ (List.mem_of_getElem? (i := 30) rfl)) rfl
theorem ms_31 : Cond.selects "BallotDeskModel" yn_M_beats yn_M_beats ∈ lw_g := tg_of (List.mem_append_left _ (List.mem_of_getElem? (i := 31) rfl)) rfl
theorem ms_32 : Cond.selects "BallotDeskModel" yn_M_runoff yn_M_runoff ∈ lw_g := tg_of (List.mem_append_left _ (List.mem_of_getElem? (i := 32) rfl)) rfl
theorem ms_33 : Cond.selects "BallotDeskModel" yn_M_eliminate yn_M_eliminate ∈ lw_g := tg_of (List.mem_append_left _ (List.mem_of_getElem? (i := 33) rfl)) rfl
theorem ms_34 : Cond.selects "BallotDeskModel" yn_M_weakest yn_M_weakest ∈ lw_g := tg_of (List.mem_append_left _ (List.mem_of_getElem? (i := 34) rfl)) rfl
theorem ms_35 : Cond.selects "BallotDeskModel" yn_M_pathWinners yn_M_pathWinners ∈ lw_g := tg_of (List.mem_append_left _ (List.mem_of_getElem? (i := 35) rfl)) rfl
theorem ms_36 : Cond.selects "BallotDeskModel" yn_M_findPaths yn_M_findPaths ∈ lw_g := tg_of (List.mem_append_left _ (List.mem_of_getElem? (i := 36) rfl)) rfl
theorem ms_37 : Cond.selects "BallotDeskModel" yn_M_lockWinners yn_M_lockWinners ∈ lw_g := tg_of (List.mem_append_left _ (List.mem_of_getElem? (i := 37) rfl)) rfl
theorem ms_38 : Cond.selects "BallotDeskModel" yn_M_sooner yn_M_sooner ∈ lw_g := tg_of (List.mem_append_left _ (List.mem_of_getElem? (i := 38) rfl)) rfl
theorem ms_39 : Cond.selects "BallotDeskModel" yn_M_tiePlace yn_M_tiePlace ∈ lw_g := tg_of (List.mem_append_left _ (List.mem_of_getElem? (i := 39) rfl)) rfl
theorem ms_40 : Cond.selects "BallotDeskModel" yn_M_leads yn_M_leads ∈ lw_g := tg_of (List.mem_append_left _ (List.mem_of_getElem? (i := 40) rfl)) rfl
theorem ms_41 : Cond.selects "BallotDeskModel" yn_M_agreeing yn_M_agreeing ∈ lw_g := tg_of (List.mem_append_left _ (List.mem_of_getElem? (i := 41) rfl)) rfl
theorem ms_42 : Cond.selects "BallotDeskModel" yn_M_findLeast yn_M_findLeast ∈ lw_g := tg_of (List.mem_append_left _ (List.mem_of_getElem? (i := 42) rfl)) rfl
theorem ms_43 : Cond.selects "BallotDeskModel" yn_M_over yn_M_over ∈ lw_g := tg_of (List.mem_append_left _ (List.mem_of_getElem? (i := 43) rfl)) rfl
theorem ms_44 : Cond.selects "BallotDeskModel" yn_M_uncovered yn_M_uncovered ∈ lw_g := tg_of (List.mem_append_left _ (List.mem_of_getElem? (i := 44) rfl)) rfl
theorem ms_45 : Cond.selects "BallotDeskModel" yn_M_byAgenda yn_M_byAgenda ∈ lw_g := tg_of (List.mem_append_left _ (List.mem_of_getElem? (i := 45) rfl)) rfl
theorem ms_46 : Cond.selects "BallotDeskModel" yn_M_firstOf yn_M_firstOf ∈ lw_g := tg_of (List.mem_append_left _ (List.mem_of_getElem? (i := 46) rfl)) rfl
theorem ms_47 : Cond.selects "BallotDeskModel" yn_M_isCandidate yn_M_isCandidate ∈ lw_g := tg_of (List.mem_append_left _ (List.mem_of_getElem? (i := 47) rfl)) rfl
theorem ms_48 : Cond.selects "BallotDeskModel" yn_M_findAgreed yn_M_findAgreed ∈ lw_g := tg_of (List.mem_append_left _ (List.mem_of_getElem? (i := 48) rfl)) rfl
theorem ms_49 : Cond.selects "BallotDeskModel" yn_M_firstOrder yn_M_firstOrder ∈ lw_g := tg_of (List.mem_append_left _ (List.mem_of_getElem? (i := 49) rfl)) rfl
theorem ms_50 : Cond.selects "BallotDeskModel" yn_M_disagreementOf yn_M_disagreementOf ∈ lw_g := tg_of (List.mem_append_left _ (List.mem_of_getElem? (i := 50) rfl)) rfl
theorem ms_51 : Cond.selects "BallotDeskModel" yn_M_sooner2 yn_M_sooner2 ∈ lw_g := tg_of (List.mem_append_left _ (List.mem_of_getElem? (i := 51) rfl)) rfl
theorem ms_52 : Cond.selects "BallotDeskModel" yn_M_nextOrder yn_M_nextOrder ∈ lw_g := tg_of (List.mem_append_left _ (List.mem_of_getElem? (i := 52) rfl)) rfl
theorem ms_53 : Cond.selects "BallotDeskModel" yn_M_brokenByPairs yn_M_brokenByPairs ∈ lw_g := tg_of (List.mem_append_left _ (List.mem_of_getElem? (i := 53) rfl)) rfl
theorem ms_54 : Cond.selects "BallotDeskModel" yn_M_over2 yn_M_over2 ∈ lw_g := tg_of (List.mem_append_left _ (List.mem_of_getElem? (i := 54) rfl)) rfl
theorem ms_55 : Cond.selects "BallotDeskModel" yn_M_brokenByType yn_M_brokenByType ∈ lw_g := tg_of (List.mem_append_left _ (List.mem_of_getElem? (i := 55) rfl)) rfl
theorem ms_56 : Cond.selects "BallotDeskModel" yn_M_brokenByLeaving yn_M_brokenByLeaving ∈ lw_g := tg_of (List.mem_append_left _ (List.mem_of_getElem? (i := 56) rfl)) rfl
theorem ms_57 : Cond.selects "BallotDeskModel" yn_M_leaveOut yn_M_leaveOut ∈ lw_g := tg_of (List.mem_append_left _ (List.mem_of_getElem? (i := 57) rfl)) rfl
theorem ms_58 : Cond.selects "BallotDeskModel" yn_M_without yn_M_without ∈ lw_g := tg_of (List.mem_append_left _ (List.mem_of_getElem? (i := 58) rfl)) rfl
theorem iw_D : ∀ w ∈ u_ws rc_D tf_D 5, w ∈ lw_g := fun w h => tg_of ((by decide +kernel : ∀ w ∈ u_ws rc_D tf_D 5, w ∈ lw_tbl) w h) ((by decide +kernel : ∀ w ∈ u_ws rc_D tf_D 5, goodWord w = true) w h)
theorem iw_P : ∀ w ∈ u_ws rc_P tf_P 9, w ∈ lw_g := fun w h => tg_of ((by decide +kernel : ∀ w ∈ u_ws rc_P tf_P 9, w ∈ lw_tbl) w h) ((by decide +kernel : ∀ w ∈ u_ws rc_P tf_P 9, goodWord w = true) w h)
theorem iw_R : ∀ w ∈ u_ws rc_R tf_R 5, w ∈ lw_g := fun w h => tg_of ((by decide +kernel : ∀ w ∈ u_ws rc_R tf_R 5, w ∈ lw_tbl) w h) ((by decide +kernel : ∀ w ∈ u_ws rc_R tf_R 5, goodWord w = true) w h)
theorem iw_E : ∀ w ∈ u_ws rc_E tf_E 2, w ∈ lw_g := fun w h => tg_of ((by decide +kernel : ∀ w ∈ u_ws rc_E tf_E 2, w ∈ lw_tbl) w h) ((by decide +kernel : ∀ w ∈ u_ws rc_E tf_E 2, goodWord w = true) w h)
theorem iw_H : ∀ w ∈ u_ws rc_H tf_H 1, w ∈ lw_g := fun w h => tg_of ((by decide +kernel : ∀ w ∈ u_ws rc_H tf_H 1, w ∈ lw_tbl) w h) ((by decide +kernel : ∀ w ∈ u_ws rc_H tf_H 1, goodWord w = true) w h)
theorem iw_K : ∀ w ∈ u_ws rc_K tf_K 3, w ∈ lw_g := fun w h => tg_of ((by decide +kernel : ∀ w ∈ u_ws rc_K tf_K 3, w ∈ lw_tbl) w h) ((by decide +kernel : ∀ w ∈ u_ws rc_K tf_K 3, goodWord w = true) w h)
theorem iw_A : ∀ w ∈ u_ws rc_A tf_A 2, w ∈ lw_g := fun w h => tg_of ((by decide +kernel : ∀ w ∈ u_ws rc_A tf_A 2, w ∈ lw_tbl) w h) ((by decide +kernel : ∀ w ∈ u_ws rc_A tf_A 2, goodWord w = true) w h)
theorem iw_W : ∀ w ∈ u_ws rc_W tf_W 4, w ∈ lw_g := fun w h => tg_of ((by decide +kernel : ∀ w ∈ u_ws rc_W tf_W 4, w ∈ lw_tbl) w h) ((by decide +kernel : ∀ w ∈ u_ws rc_W tf_W 4, goodWord w = true) w h)
theorem iw_S : ∀ w ∈ u_ws rc_S tf_S 2, w ∈ lw_g := fun w h => tg_of ((by decide +kernel : ∀ w ∈ u_ws rc_S tf_S 2, w ∈ lw_tbl) w h) ((by decide +kernel : ∀ w ∈ u_ws rc_S tf_S 2, goodWord w = true) w h)
theorem iw_M : ∀ w ∈ u_ws rc_M tf_M 24, w ∈ lw_g := fun w h => tg_of ((by decide +kernel : ∀ w ∈ u_ws rc_M tf_M 24, w ∈ lw_tbl) w h) ((by decide +kernel : ∀ w ∈ u_ws rc_M tf_M 24, goodWord w = true) w h)

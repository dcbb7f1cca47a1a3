/-- all words of the tables that last -/
def wal : List Cond := lw_tbl.filter goodWord
theorem wal_in {w : Cond} (h : w ∈ lw_tbl) (g : goodWord w = true) : w ∈ wal := List.mem_filter.mpr ⟨h, g⟩
theorem wal_t {w : Cond} (h : w ∈ wal) : w ∈ lw_tbl := (List.mem_filter.mp h).1
theorem wal_g {w : Cond} (h : w ∈ wal) : goodWord w = true := (List.mem_filter.mp h).2
theorem tbl_r {w : Cond} (h : w ∈ tables_1) : w ∈ lw_tbl := List.mem_append_right _ h
theorem tin_1 {w : Cond} (h : w ∈ tables_1_1) : w ∈ lw_tbl := tbl_r (List.mem_append_left _ h)
theorem tin_2 {w : Cond} (h : w ∈ tables_1_2) : w ∈ lw_tbl := tbl_r (List.mem_append_right _ (List.mem_append_left _ h))
theorem tin_3 {w : Cond} (h : w ∈ tables_1_3) : w ∈ lw_tbl := tbl_r (List.mem_append_right _ (List.mem_append_right _ (List.mem_append_left _ h)))
theorem tin_4 {w : Cond} (h : w ∈ tables_1_4) : w ∈ lw_tbl := tbl_r (List.mem_append_right _ (List.mem_append_right _ (List.mem_append_right _ (List.mem_append_left _ h))))
theorem tin_5 {w : Cond} (h : w ∈ tables_1_5) : w ∈ lw_tbl := tbl_r (List.mem_append_right _ (List.mem_append_right _ (List.mem_append_right _ (List.mem_append_right _ (h)))))
theorem k_0 : (Cond.initialized rc_L) ∈ wal := wal_in (tin_1 (List.mem_of_getElem? (i := 0) (by decide +kernel))) rfl
theorem k_1 : (Cond.initialized rc_F) ∈ wal := wal_in (tin_1 (List.mem_of_getElem? (i := 1) (by decide +kernel))) rfl
theorem k_2 : (Cond.initialized rc_D) ∈ wal := wal_in (tin_1 (List.mem_of_getElem? (i := 2) (by decide +kernel))) rfl
theorem k_3 : (Cond.initialized rc_B) ∈ wal := wal_in (tin_1 (List.mem_of_getElem? (i := 3) (by decide +kernel))) rfl
theorem k_4 : (Cond.initialized rc_R) ∈ wal := wal_in (tin_1 (List.mem_of_getElem? (i := 4) (by decide +kernel))) rfl
theorem k_5 : (Cond.initialized rc_T) ∈ wal := wal_in (tin_1 (List.mem_of_getElem? (i := 5) (by decide +kernel))) rfl
theorem k_6 : (Cond.initialized rc_E) ∈ wal := wal_in (tin_1 (List.mem_of_getElem? (i := 6) (by decide +kernel))) rfl
theorem k_7 : (Cond.initialized rc_M) ∈ wal := wal_in (tin_1 (List.mem_of_getElem? (i := 7) (by decide +kernel))) rfl
theorem k_8 : (Cond.initialized rc_S) ∈ wal := wal_in (tin_1 (List.mem_of_getElem? (i := 8) (by decide +kernel))) rfl
theorem k_9 : (Cond.initialized rc_O) ∈ wal := wal_in (tin_1 (List.mem_of_getElem? (i := 9) (by decide +kernel))) rfl
theorem k_10 : (Cond.initialized "java/util/Arrays") ∈ wal := wal_in (tin_1 (List.mem_of_getElem? (i := 10) (by decide +kernel))) rfl
theorem k_11 : (Cond.initialized "java/lang/Throwable") ∈ wal := wal_in (tin_1 (List.mem_of_getElem? (i := 11) (by decide +kernel))) rfl
theorem k_12 : (Cond.initialized "java/lang/Exception") ∈ wal := wal_in (tin_1 (List.mem_of_getElem? (i := 12) (by decide +kernel))) rfl
theorem k_13 : (Cond.initialized "java/lang/RuntimeException") ∈ wal := wal_in (tin_1 (List.mem_of_getElem? (i := 13) (by decide +kernel))) rfl
theorem k_14 : (Cond.initialized "java/lang/IllegalArgumentException") ∈ wal := wal_in (tin_1 (List.mem_of_getElem? (i := 14) (by decide +kernel))) rfl
theorem k_15 : (Cond.initialized "java/lang/UnsupportedOperationException") ∈ wal := wal_in (tin_1 (List.mem_of_getElem? (i := 15) (by decide +kernel))) rfl
theorem k_16 : (Cond.initialized "java/lang/IllegalStateException") ∈ wal := wal_in (tin_1 (List.mem_of_getElem? (i := 16) (by decide +kernel))) rfl
theorem k_17 : (Cond.initialized "java/lang/Math") ∈ wal := wal_in (tin_1 (List.mem_of_getElem? (i := 17) (by decide +kernel))) rfl
theorem k_18 : (Cond.classLink rc_L 8 rc_F) ∈ wal := wal_in (tin_1 (List.mem_of_getElem? (i := 18) (by decide +kernel))) rfl
theorem k_19 : (Cond.instantiable rc_F 3) ∈ wal := wal_in (tin_1 (List.mem_of_getElem? (i := 19) (by decide +kernel))) rfl
theorem k_20 : (Cond.methodLink rc_L 23 y_F_init) ∈ wal := wal_in (tin_1 (List.mem_of_getElem? (i := 20) (by decide +kernel))) rfl
theorem k_21 : (Cond.instanceMethod y_F_init) ∈ wal := wal_in (tin_1 (List.mem_of_getElem? (i := 21) (by decide +kernel))) rfl
theorem k_22 : (Cond.code y_F_init prog_1_method_1_code 1 none) ∈ wal := wal_in (tin_1 (List.mem_of_getElem? (i := 22) rfl)) rfl
theorem k_23 : (Cond.methodLink rc_F 1 ⟨"java/lang/Object", "<init>", "()V"⟩) ∈ wal := wal_in (tin_1 (List.mem_of_getElem? (i := 23) (by decide +kernel))) rfl
theorem k_24 : (Cond.instanceMethod ⟨"java/lang/Object", "<init>", "()V"⟩) ∈ wal := wal_in (tin_1 (List.mem_of_getElem? (i := 24) (by decide +kernel))) rfl
theorem k_25 : (Cond.code ⟨"java/lang/Object", "<init>", "()V"⟩ object_method_1_code 1 none) ∈ wal := wal_in (tin_1 (List.mem_of_getElem? (i := 25) rfl)) rfl
theorem k_26 : (Cond.classLink rc_F 7 rc_D) ∈ wal := wal_in (tin_1 (List.mem_of_getElem? (i := 26) (by decide +kernel))) rfl
theorem k_27 : (Cond.instantiable rc_D 3) ∈ wal := wal_in (tin_1 (List.mem_of_getElem? (i := 27) (by decide +kernel))) rfl
theorem k_28 : (Cond.methodLinkNest rc_F 9 y_D_init rc_F) ∈ lw_tbl := tin_1 (List.mem_of_getElem? (i := 28) (by decide +kernel))
theorem k_29 : (Cond.instanceMethod y_D_init) ∈ wal := wal_in (tin_1 (List.mem_of_getElem? (i := 29) (by decide +kernel))) rfl
theorem k_30 : (Cond.code y_D_init prog_2_method_1_code 1 none) ∈ wal := wal_in (tin_1 (List.mem_of_getElem? (i := 30) rfl)) rfl
theorem k_31 : (Cond.methodLink rc_D 1 ⟨"java/lang/Object", "<init>", "()V"⟩) ∈ wal := wal_in (tin_1 (List.mem_of_getElem? (i := 31) (by decide +kernel))) rfl
theorem k_32 : (Cond.fieldLink rc_D 9 rc_D "signs" "[C") ∈ wal := wal_in (tin_1 (List.mem_of_getElem? (i := 32) (by decide +kernel))) rfl
theorem k_33 : (Cond.fieldLink rc_D 17 rc_D "length" "I") ∈ wal := wal_in (tin_1 (List.mem_of_getElem? (i := 33) (by decide +kernel))) rfl
theorem k_34 : (Cond.fieldLink rc_D 13 rc_D "typed" "I") ∈ wal := wal_in (tin_1 (List.mem_of_getElem? (i := 34) (by decide +kernel))) rfl
theorem k_35 : (Cond.laysFinal rc_D rc_D "signs" "[C") ∈ wal := wal_in (tin_1 (List.mem_of_getElem? (i := 35) (by decide +kernel))) rfl
theorem k_36 : (Cond.soleField rc_D "signs") ∈ wal := wal_in (tin_1 (List.mem_of_getElem? (i := 36) (by decide +kernel))) rfl
theorem k_37 : (Cond.lays rc_D rc_D "length" "I") ∈ wal := wal_in (tin_1 (List.mem_of_getElem? (i := 37) (by decide +kernel))) rfl
theorem k_38 : (Cond.soleField rc_D "length") ∈ wal := wal_in (tin_1 (List.mem_of_getElem? (i := 38) (by decide +kernel))) rfl
theorem k_39 : (Cond.lays rc_D rc_D "typed" "I") ∈ wal := wal_in (tin_1 (List.mem_of_getElem? (i := 39) (by decide +kernel))) rfl
theorem k_40 : (Cond.soleField rc_D "typed") ∈ wal := wal_in (tin_1 (List.mem_of_getElem? (i := 40) (by decide +kernel))) rfl
theorem k_41 : (Cond.superclass rc_D "java/lang/Object") ∈ wal := wal_in (tin_1 (List.mem_of_getElem? (i := 41) (by decide +kernel))) rfl
theorem k_42 : (Cond.arrayClass FieldType.char) ∈ wal := wal_in (tin_1 (List.mem_of_getElem? (i := 42) (by decide +kernel))) rfl
theorem k_43 : (Cond.classLink rc_F 16 rc_B) ∈ wal := wal_in (tin_1 (List.mem_of_getElem? (i := 43) (by decide +kernel))) rfl
theorem k_44 : (Cond.instantiable rc_B 2) ∈ wal := wal_in (tin_1 (List.mem_of_getElem? (i := 44) (by decide +kernel))) rfl
theorem k_45 : (Cond.methodLink rc_F 18 y_B_init) ∈ wal := wal_in (tin_1 (List.mem_of_getElem? (i := 45) (by decide +kernel))) rfl
theorem k_46 : (Cond.instanceMethod y_B_init) ∈ wal := wal_in (tin_1 (List.mem_of_getElem? (i := 46) (by decide +kernel))) rfl
theorem k_47 : (Cond.code y_B_init prog_7_method_1_code 2 none) ∈ wal := wal_in (tin_1 (List.mem_of_getElem? (i := 47) rfl)) rfl
theorem k_48 : (Cond.methodLink rc_B 1 ⟨"java/lang/Object", "<init>", "()V"⟩) ∈ wal := wal_in (tin_1 (List.mem_of_getElem? (i := 48) (by decide +kernel))) rfl
theorem k_49 : (Cond.classLink rc_B 9 rc_R) ∈ wal := wal_in (tin_1 (List.mem_of_getElem? (i := 49) (by decide +kernel))) rfl
theorem k_50 : (Cond.arrayOver (FieldType.object rc_R)) ∈ lw_tbl := tin_1 (List.mem_of_getElem? (i := 50) (by decide +kernel))
theorem k_51 : (Cond.instantiable rc_R 3) ∈ wal := wal_in (tin_1 (List.mem_of_getElem? (i := 51) (by decide +kernel))) rfl
theorem k_52 : (Cond.methodLinkNest rc_B 15 y_R_init rc_F) ∈ lw_tbl := tin_1 (List.mem_of_getElem? (i := 52) (by decide +kernel))
theorem k_53 : (Cond.instanceMethod y_R_init) ∈ wal := wal_in (tin_1 (List.mem_of_getElem? (i := 53) (by decide +kernel))) rfl
theorem k_54 : (Cond.code y_R_init prog_6_method_1_code 1 none) ∈ wal := wal_in (tin_1 (List.mem_of_getElem? (i := 54) rfl)) rfl
theorem k_55 : (Cond.methodLink rc_R 3 ⟨"java/lang/Object", "<init>", "()V"⟩) ∈ wal := wal_in (tin_1 (List.mem_of_getElem? (i := 55) (by decide +kernel))) rfl
theorem k_56 : (Cond.classLink rc_R 9 rc_T) ∈ wal := wal_in (tin_1 (List.mem_of_getElem? (i := 56) (by decide +kernel))) rfl
theorem k_57 : (Cond.instantiable rc_T 11) ∈ wal := wal_in (tin_1 (List.mem_of_getElem? (i := 57) (by decide +kernel))) rfl
theorem k_58 : (Cond.methodLink rc_R 13 y_T_init) ∈ wal := wal_in (tin_1 (List.mem_of_getElem? (i := 58) (by decide +kernel))) rfl
theorem k_59 : (Cond.instanceMethod y_T_init) ∈ wal := wal_in (tin_1 (List.mem_of_getElem? (i := 59) (by decide +kernel))) rfl
theorem k_60 : (Cond.code y_T_init prog_8_method_1_code 2 none) ∈ wal := wal_in (tin_1 (List.mem_of_getElem? (i := 60) rfl)) rfl
theorem k_61 : (Cond.methodLink rc_T 3 ⟨"java/lang/Object", "<init>", "()V"⟩) ∈ wal := wal_in (tin_1 (List.mem_of_getElem? (i := 61) (by decide +kernel))) rfl
theorem k_62 : (Cond.fieldLink rc_T 15 rc_T "sign" "[C") ∈ wal := wal_in (tin_1 (List.mem_of_getElem? (i := 62) (by decide +kernel))) rfl
theorem k_63 : (Cond.fieldLink rc_T 19 rc_T "stamp" "[I") ∈ wal := wal_in (tin_1 (List.mem_of_getElem? (i := 63) (by decide +kernel))) rfl
theorem k_64 : (Cond.fieldLink rc_T 22 rc_T "span" "[I") ∈ wal := wal_in (tin_1 (List.mem_of_getElem? (i := 64) (by decide +kernel))) rfl
theorem k_65 : (Cond.fieldLink rc_T 25 rc_T "items" "[I") ∈ wal := wal_in (tin_1 (List.mem_of_getElem? (i := 65) (by decide +kernel))) rfl
theorem k_66 : (Cond.fieldLink rc_T 28 rc_T "repeated" "[Z") ∈ wal := wal_in (tin_1 (List.mem_of_getElem? (i := 66) (by decide +kernel))) rfl
theorem k_67 : (Cond.fieldLink rc_T 11 rc_T "open" "[I") ∈ wal := wal_in (tin_1 (List.mem_of_getElem? (i := 67) (by decide +kernel))) rfl
theorem k_68 : (Cond.fieldLink rc_T 32 rc_T "size" "I") ∈ wal := wal_in (tin_1 (List.mem_of_getElem? (i := 68) (by decide +kernel))) rfl
theorem k_69 : (Cond.fieldLink rc_T 36 rc_T "start" "I") ∈ wal := wal_in (tin_1 (List.mem_of_getElem? (i := 69) (by decide +kernel))) rfl
theorem k_70 : (Cond.fieldLink rc_T 39 rc_T "deep" "I") ∈ wal := wal_in (tin_1 (List.mem_of_getElem? (i := 70) (by decide +kernel))) rfl
theorem k_71 : (Cond.fieldLink rc_T 42 rc_T "deepest" "I") ∈ wal := wal_in (tin_1 (List.mem_of_getElem? (i := 71) (by decide +kernel))) rfl
theorem k_72 : (Cond.fieldLink rc_T 45 rc_T "last" "I") ∈ wal := wal_in (tin_1 (List.mem_of_getElem? (i := 72) (by decide +kernel))) rfl
theorem k_73 : (Cond.laysFinal rc_T rc_T "sign" "[C") ∈ wal := wal_in (tin_1 (List.mem_of_getElem? (i := 73) (by decide +kernel))) rfl
theorem k_74 : (Cond.soleField rc_T "sign") ∈ wal := wal_in (tin_1 (List.mem_of_getElem? (i := 74) (by decide +kernel))) rfl
theorem k_75 : (Cond.laysFinal rc_T rc_T "stamp" "[I") ∈ wal := wal_in (tin_1 (List.mem_of_getElem? (i := 75) (by decide +kernel))) rfl
theorem k_76 : (Cond.soleField rc_T "stamp") ∈ wal := wal_in (tin_1 (List.mem_of_getElem? (i := 76) (by decide +kernel))) rfl
theorem k_77 : (Cond.laysFinal rc_T rc_T "span" "[I") ∈ wal := wal_in (tin_1 (List.mem_of_getElem? (i := 77) (by decide +kernel))) rfl
theorem k_78 : (Cond.soleField rc_T "span") ∈ wal := wal_in (tin_1 (List.mem_of_getElem? (i := 78) (by decide +kernel))) rfl
theorem k_79 : (Cond.laysFinal rc_T rc_T "items" "[I") ∈ wal := wal_in (tin_1 (List.mem_of_getElem? (i := 79) (by decide +kernel))) rfl
theorem k_80 : (Cond.soleField rc_T "items") ∈ wal := wal_in (tin_1 (List.mem_of_getElem? (i := 80) (by decide +kernel))) rfl
theorem k_81 : (Cond.laysFinal rc_T rc_T "repeated" "[Z") ∈ wal := wal_in (tin_1 (List.mem_of_getElem? (i := 81) (by decide +kernel))) rfl
theorem k_82 : (Cond.soleField rc_T "repeated") ∈ wal := wal_in (tin_1 (List.mem_of_getElem? (i := 82) (by decide +kernel))) rfl
theorem k_83 : (Cond.laysFinal rc_T rc_T "open" "[I") ∈ wal := wal_in (tin_1 (List.mem_of_getElem? (i := 83) (by decide +kernel))) rfl
theorem k_84 : (Cond.soleField rc_T "open") ∈ wal := wal_in (tin_1 (List.mem_of_getElem? (i := 84) (by decide +kernel))) rfl
theorem k_85 : (Cond.lays rc_T rc_T "size" "I") ∈ wal := wal_in (tin_1 (List.mem_of_getElem? (i := 85) (by decide +kernel))) rfl
theorem k_86 : (Cond.soleField rc_T "size") ∈ wal := wal_in (tin_1 (List.mem_of_getElem? (i := 86) (by decide +kernel))) rfl
theorem k_87 : (Cond.lays rc_T rc_T "start" "I") ∈ wal := wal_in (tin_1 (List.mem_of_getElem? (i := 87) (by decide +kernel))) rfl
theorem k_88 : (Cond.soleField rc_T "start") ∈ wal := wal_in (tin_1 (List.mem_of_getElem? (i := 88) (by decide +kernel))) rfl
theorem k_89 : (Cond.lays rc_T rc_T "deep" "I") ∈ wal := wal_in (tin_1 (List.mem_of_getElem? (i := 89) (by decide +kernel))) rfl
theorem k_90 : (Cond.soleField rc_T "deep") ∈ wal := wal_in (tin_1 (List.mem_of_getElem? (i := 90) (by decide +kernel))) rfl
theorem k_91 : (Cond.lays rc_T rc_T "deepest" "I") ∈ wal := wal_in (tin_1 (List.mem_of_getElem? (i := 91) (by decide +kernel))) rfl
theorem k_92 : (Cond.soleField rc_T "deepest") ∈ wal := wal_in (tin_1 (List.mem_of_getElem? (i := 92) (by decide +kernel))) rfl
theorem k_93 : (Cond.lays rc_T rc_T "last" "I") ∈ wal := wal_in (tin_1 (List.mem_of_getElem? (i := 93) (by decide +kernel))) rfl
theorem k_94 : (Cond.soleField rc_T "last") ∈ wal := wal_in (tin_1 (List.mem_of_getElem? (i := 94) (by decide +kernel))) rfl
theorem k_95 : (Cond.superclass rc_T "java/lang/Object") ∈ wal := wal_in (tin_1 (List.mem_of_getElem? (i := 95) (by decide +kernel))) rfl
theorem k_96 : (Cond.arrayClass FieldType.int) ∈ wal := wal_in (tin_1 (List.mem_of_getElem? (i := 96) (by decide +kernel))) rfl
theorem k_97 : (Cond.arrayClass FieldType.boolean) ∈ wal := wal_in (tin_1 (List.mem_of_getElem? (i := 97) (by decide +kernel))) rfl
theorem k_98 : (Cond.fieldLink rc_R 16 rc_R "terms" "LMacroForge$Terms;") ∈ wal := wal_in (tin_1 (List.mem_of_getElem? (i := 98) (by decide +kernel))) rfl
theorem k_99 : (Cond.fieldLink rc_R 22 rc_R "kinds" "[I") ∈ wal := wal_in (tin_1 (List.mem_of_getElem? (i := 99) (by decide +kernel))) rfl
theorem k_100 : (Cond.fieldLink rc_R 26 rc_R "template" "I") ∈ wal := wal_in (tin_1 (List.mem_of_getElem? (i := 100) (by decide +kernel))) rfl
theorem k_101 : (Cond.laysFinal rc_R rc_R "terms" "LMacroForge$Terms;") ∈ wal := wal_in (tin_1 (List.mem_of_getElem? (i := 101) (by decide +kernel))) rfl
theorem k_102 : (Cond.soleField rc_R "terms") ∈ wal := wal_in (tin_1 (List.mem_of_getElem? (i := 102) (by decide +kernel))) rfl
theorem k_103 : (Cond.laysFinal rc_R rc_R "kinds" "[I") ∈ wal := wal_in (tin_1 (List.mem_of_getElem? (i := 103) (by decide +kernel))) rfl
theorem k_104 : (Cond.soleField rc_R "kinds") ∈ wal := wal_in (tin_1 (List.mem_of_getElem? (i := 104) (by decide +kernel))) rfl
theorem k_105 : (Cond.lays rc_R rc_R "template" "I") ∈ wal := wal_in (tin_1 (List.mem_of_getElem? (i := 105) (by decide +kernel))) rfl
theorem k_106 : (Cond.soleField rc_R "template") ∈ wal := wal_in (tin_1 (List.mem_of_getElem? (i := 106) (by decide +kernel))) rfl
theorem k_107 : (Cond.superclass rc_R "java/lang/Object") ∈ wal := wal_in (tin_1 (List.mem_of_getElem? (i := 107) (by decide +kernel))) rfl
theorem k_108 : (Cond.fieldLink rc_B 11 rc_B "told" "[LMacroForge$Rule;") ∈ wal := wal_in (tin_1 (List.mem_of_getElem? (i := 108) (by decide +kernel))) rfl
theorem k_109 : (Cond.fieldLink rc_B 16 rc_B "size" "I") ∈ wal := wal_in (tin_1 (List.mem_of_getElem? (i := 109) (by decide +kernel))) rfl
theorem k_110 : (Cond.laysFinal rc_B rc_B "told" "[LMacroForge$Rule;") ∈ wal := wal_in (tin_1 (List.mem_of_getElem? (i := 110) (by decide +kernel))) rfl
theorem k_111 : (Cond.soleField rc_B "told") ∈ wal := wal_in (tin_1 (List.mem_of_getElem? (i := 111) (by decide +kernel))) rfl
theorem k_112 : (Cond.lays rc_B rc_B "size" "I") ∈ wal := wal_in (tin_1 (List.mem_of_getElem? (i := 112) (by decide +kernel))) rfl
theorem k_113 : (Cond.soleField rc_B "size") ∈ wal := wal_in (tin_1 (List.mem_of_getElem? (i := 113) (by decide +kernel))) rfl
theorem k_114 : (Cond.superclass rc_B "java/lang/Object") ∈ wal := wal_in (tin_1 (List.mem_of_getElem? (i := 114) (by decide +kernel))) rfl
theorem k_115 : (Cond.classLink rc_F 23 rc_E) ∈ wal := wal_in (tin_1 (List.mem_of_getElem? (i := 115) (by decide +kernel))) rfl
theorem k_116 : (Cond.instantiable rc_E 9) ∈ wal := wal_in (tin_1 (List.mem_of_getElem? (i := 116) (by decide +kernel))) rfl
theorem k_117 : (Cond.methodLinkNest rc_F 25 y_E_init rc_F) ∈ lw_tbl := tin_1 (List.mem_of_getElem? (i := 117) (by decide +kernel))
theorem k_118 : (Cond.instanceMethod y_E_init) ∈ wal := wal_in (tin_1 (List.mem_of_getElem? (i := 118) (by decide +kernel))) rfl
theorem k_119 : (Cond.code y_E_init prog_3_method_1_code 1 none) ∈ wal := wal_in (tin_1 (List.mem_of_getElem? (i := 119) rfl)) rfl
theorem k_120 : (Cond.methodLink rc_E 3 ⟨"java/lang/Object", "<init>", "()V"⟩) ∈ wal := wal_in (tin_1 (List.mem_of_getElem? (i := 120) (by decide +kernel))) rfl
theorem k_121 : (Cond.classLink rc_E 9 rc_T) ∈ wal := wal_in (tin_1 (List.mem_of_getElem? (i := 121) (by decide +kernel))) rfl
theorem k_122 : (Cond.methodLink rc_E 11 y_T_init) ∈ wal := wal_in (tin_1 (List.mem_of_getElem? (i := 122) (by decide +kernel))) rfl
theorem k_123 : (Cond.classLink rc_E 20 rc_M) ∈ wal := wal_in (tin_1 (List.mem_of_getElem? (i := 123) (by decide +kernel))) rfl
theorem k_124 : (Cond.instantiable rc_M 2) ∈ wal := wal_in (tin_1 (List.mem_of_getElem? (i := 124) (by decide +kernel))) rfl
theorem k_125 : (Cond.methodLinkNest rc_E 22 y_M_init rc_F) ∈ lw_tbl := tin_1 (List.mem_of_getElem? (i := 125) (by decide +kernel))
theorem k_126 : (Cond.instanceMethod y_M_init) ∈ wal := wal_in (tin_1 (List.mem_of_getElem? (i := 126) (by decide +kernel))) rfl
theorem k_127 : (Cond.code y_M_init prog_4_method_1_code 1 none) ∈ wal := wal_in (tin_1 (List.mem_of_getElem? (i := 127) rfl)) rfl
theorem k_128 : (Cond.methodLink rc_M 3 ⟨"java/lang/Object", "<init>", "()V"⟩) ∈ wal := wal_in (tin_1 (List.mem_of_getElem? (i := 128) (by decide +kernel))) rfl
theorem k_129 : (Cond.classLink rc_M 11 "[[I") ∈ wal := wal_in (tin_1 (List.mem_of_getElem? (i := 129) (by decide +kernel))) rfl
theorem k_130 : (Cond.arrayOver (FieldType.array FieldType.int)) ∈ lw_tbl := tin_1 (List.mem_of_getElem? (i := 130) (by decide +kernel))
theorem k_131 : (Cond.fieldLink rc_M 13 rc_M "found" "[[I") ∈ wal := wal_in (tin_1 (List.mem_of_getElem? (i := 131) (by decide +kernel))) rfl
theorem k_132 : (Cond.fieldLink rc_M 18 rc_M "counts" "[I") ∈ wal := wal_in (tin_1 (List.mem_of_getElem? (i := 132) (by decide +kernel))) rfl
theorem k_133 : (Cond.laysFinal rc_M rc_M "found" "[[I") ∈ wal := wal_in (tin_1 (List.mem_of_getElem? (i := 133) (by decide +kernel))) rfl
theorem k_134 : (Cond.soleField rc_M "found") ∈ wal := wal_in (tin_1 (List.mem_of_getElem? (i := 134) (by decide +kernel))) rfl
theorem k_135 : (Cond.laysFinal rc_M rc_M "counts" "[I") ∈ wal := wal_in (tin_1 (List.mem_of_getElem? (i := 135) (by decide +kernel))) rfl
theorem k_136 : (Cond.soleField rc_M "counts") ∈ wal := wal_in (tin_1 (List.mem_of_getElem? (i := 136) (by decide +kernel))) rfl
theorem k_137 : (Cond.superclass rc_M "java/lang/Object") ∈ wal := wal_in (tin_1 (List.mem_of_getElem? (i := 137) (by decide +kernel))) rfl
theorem k_138 : (Cond.classLink rc_E 27 rc_S) ∈ wal := wal_in (tin_1 (List.mem_of_getElem? (i := 138) (by decide +kernel))) rfl
theorem k_139 : (Cond.instantiable rc_S 3) ∈ wal := wal_in (tin_1 (List.mem_of_getElem? (i := 139) (by decide +kernel))) rfl
theorem k_140 : (Cond.methodLinkNest rc_E 29 y_S_init rc_F) ∈ lw_tbl := tin_1 (List.mem_of_getElem? (i := 140) (by decide +kernel))
theorem k_141 : (Cond.instanceMethod y_S_init) ∈ wal := wal_in (tin_1 (List.mem_of_getElem? (i := 141) (by decide +kernel))) rfl
theorem k_142 : (Cond.code y_S_init prog_5_method_1_code 1 none) ∈ wal := wal_in (tin_1 (List.mem_of_getElem? (i := 142) rfl)) rfl
theorem k_143 : (Cond.methodLink rc_S 3 ⟨"java/lang/Object", "<init>", "()V"⟩) ∈ wal := wal_in (tin_1 (List.mem_of_getElem? (i := 143) (by decide +kernel))) rfl
theorem k_144 : (Cond.fieldLink rc_S 11 rc_S "marks" "[I") ∈ wal := wal_in (tin_1 (List.mem_of_getElem? (i := 144) (by decide +kernel))) rfl
theorem k_145 : (Cond.fieldLink rc_S 15 rc_S "found" "I") ∈ wal := wal_in (tin_1 (List.mem_of_getElem? (i := 145) (by decide +kernel))) rfl
theorem k_146 : (Cond.fieldLink rc_S 19 rc_S "length" "I") ∈ wal := wal_in (tin_1 (List.mem_of_getElem? (i := 146) (by decide +kernel))) rfl
theorem k_147 : (Cond.laysFinal rc_S rc_S "marks" "[I") ∈ wal := wal_in (tin_1 (List.mem_of_getElem? (i := 147) (by decide +kernel))) rfl
theorem k_148 : (Cond.soleField rc_S "marks") ∈ wal := wal_in (tin_1 (List.mem_of_getElem? (i := 148) (by decide +kernel))) rfl
theorem k_149 : (Cond.lays rc_S rc_S "found" "I") ∈ wal := wal_in (tin_1 (List.mem_of_getElem? (i := 149) (by decide +kernel))) rfl
theorem k_150 : (Cond.soleField rc_S "found") ∈ wal := wal_in (tin_1 (List.mem_of_getElem? (i := 150) (by decide +kernel))) rfl
theorem k_151 : (Cond.lays rc_S rc_S "length" "I") ∈ wal := wal_in (tin_1 (List.mem_of_getElem? (i := 151) (by decide +kernel))) rfl
theorem k_152 : (Cond.soleField rc_S "length") ∈ wal := wal_in (tin_1 (List.mem_of_getElem? (i := 152) (by decide +kernel))) rfl
theorem k_153 : (Cond.superclass rc_S "java/lang/Object") ∈ wal := wal_in (tin_1 (List.mem_of_getElem? (i := 153) (by decide +kernel))) rfl
theorem k_154 : (Cond.fieldLink rc_E 14 rc_E "terms" "LMacroForge$Terms;") ∈ wal := wal_in (tin_1 (List.mem_of_getElem? (i := 154) (by decide +kernel))) rfl
theorem k_155 : (Cond.fieldLink rc_E 23 rc_E "match" "LMacroForge$Match;") ∈ wal := wal_in (tin_1 (List.mem_of_getElem? (i := 155) (by decide +kernel))) rfl
theorem k_156 : (Cond.fieldLink rc_E 30 rc_E "result" "LMacroForge$Result;") ∈ wal := wal_in (tin_1 (List.mem_of_getElem? (i := 156) (by decide +kernel))) rfl
theorem k_157 : (Cond.fieldLink rc_E 34 rc_E "boundLetters" "[C") ∈ wal := wal_in (tin_1 (List.mem_of_getElem? (i := 157) (by decide +kernel))) rfl
theorem k_158 : (Cond.fieldLink rc_E 38 rc_E "boundStamps" "[I") ∈ wal := wal_in (tin_1 (List.mem_of_getElem? (i := 158) (by decide +kernel))) rfl
theorem k_159 : (Cond.fieldLink rc_E 59 rc_E "book" "LMacroForge$RuleBook;") ∈ wal := wal_in (tin_1 (List.mem_of_getElem? (i := 159) (by decide +kernel))) rfl
theorem k_160 : (Cond.fieldLink rc_E 66 rc_E "bound" "I") ∈ wal := wal_in (tin_1 (List.mem_of_getElem? (i := 160) (by decide +kernel))) rfl
theorem k_161 : (Cond.fieldLink rc_E 63 rc_E "fuel" "I") ∈ wal := wal_in (tin_1 (List.mem_of_getElem? (i := 161) (by decide +kernel))) rfl
theorem k_162 : (Cond.fieldLink rc_E 42 rc_E "made" "I") ∈ wal := wal_in (tin_1 (List.mem_of_getElem? (i := 162) (by decide +kernel))) rfl
theorem k_163 : (Cond.laysFinal rc_E rc_E "terms" "LMacroForge$Terms;") ∈ wal := wal_in (tin_1 (List.mem_of_getElem? (i := 163) (by decide +kernel))) rfl
theorem k_164 : (Cond.soleField rc_E "terms") ∈ wal := wal_in (tin_1 (List.mem_of_getElem? (i := 164) (by decide +kernel))) rfl
theorem k_165 : (Cond.laysFinal rc_E rc_E "match" "LMacroForge$Match;") ∈ wal := wal_in (tin_1 (List.mem_of_getElem? (i := 165) (by decide +kernel))) rfl
theorem k_166 : (Cond.soleField rc_E "match") ∈ wal := wal_in (tin_1 (List.mem_of_getElem? (i := 166) (by decide +kernel))) rfl
theorem k_167 : (Cond.laysFinal rc_E rc_E "result" "LMacroForge$Result;") ∈ wal := wal_in (tin_1 (List.mem_of_getElem? (i := 167) (by decide +kernel))) rfl
theorem k_168 : (Cond.soleField rc_E "result") ∈ wal := wal_in (tin_1 (List.mem_of_getElem? (i := 168) (by decide +kernel))) rfl
theorem k_169 : (Cond.laysFinal rc_E rc_E "boundLetters" "[C") ∈ wal := wal_in (tin_1 (List.mem_of_getElem? (i := 169) (by decide +kernel))) rfl
theorem k_170 : (Cond.soleField rc_E "boundLetters") ∈ wal := wal_in (tin_1 (List.mem_of_getElem? (i := 170) (by decide +kernel))) rfl
theorem k_171 : (Cond.laysFinal rc_E rc_E "boundStamps" "[I") ∈ wal := wal_in (tin_1 (List.mem_of_getElem? (i := 171) (by decide +kernel))) rfl
theorem k_172 : (Cond.soleField rc_E "boundStamps") ∈ wal := wal_in (tin_1 (List.mem_of_getElem? (i := 172) (by decide +kernel))) rfl
theorem k_173 : (Cond.lays rc_E rc_E "book" "LMacroForge$RuleBook;") ∈ wal := wal_in (tin_1 (List.mem_of_getElem? (i := 173) (by decide +kernel))) rfl
theorem k_174 : (Cond.soleField rc_E "book") ∈ wal := wal_in (tin_1 (List.mem_of_getElem? (i := 174) (by decide +kernel))) rfl
theorem k_175 : (Cond.lays rc_E rc_E "bound" "I") ∈ wal := wal_in (tin_1 (List.mem_of_getElem? (i := 175) (by decide +kernel))) rfl
theorem k_176 : (Cond.soleField rc_E "bound") ∈ wal := wal_in (tin_1 (List.mem_of_getElem? (i := 176) (by decide +kernel))) rfl
theorem k_177 : (Cond.lays rc_E rc_E "fuel" "I") ∈ wal := wal_in (tin_1 (List.mem_of_getElem? (i := 177) (by decide +kernel))) rfl
theorem k_178 : (Cond.soleField rc_E "fuel") ∈ wal := wal_in (tin_1 (List.mem_of_getElem? (i := 178) (by decide +kernel))) rfl
theorem k_179 : (Cond.lays rc_E rc_E "made" "I") ∈ wal := wal_in (tin_1 (List.mem_of_getElem? (i := 179) (by decide +kernel))) rfl
theorem k_180 : (Cond.soleField rc_E "made") ∈ wal := wal_in (tin_1 (List.mem_of_getElem? (i := 180) (by decide +kernel))) rfl
theorem k_181 : (Cond.superclass rc_E "java/lang/Object") ∈ wal := wal_in (tin_1 (List.mem_of_getElem? (i := 181) (by decide +kernel))) rfl
theorem k_182 : (Cond.fieldLink rc_F 10 rc_F "draft" "LMacroForge$Draft;") ∈ wal := wal_in (tin_1 (List.mem_of_getElem? (i := 182) (by decide +kernel))) rfl
theorem k_183 : (Cond.fieldLink rc_F 19 rc_F "book" "LMacroForge$RuleBook;") ∈ wal := wal_in (tin_1 (List.mem_of_getElem? (i := 183) (by decide +kernel))) rfl
theorem k_184 : (Cond.fieldLink rc_F 26 rc_F "expansion" "LMacroForge$Expansion;") ∈ wal := wal_in (tin_1 (List.mem_of_getElem? (i := 184) (by decide +kernel))) rfl
theorem k_185 : (Cond.laysFinal rc_F rc_F "draft" "LMacroForge$Draft;") ∈ wal := wal_in (tin_1 (List.mem_of_getElem? (i := 185) (by decide +kernel))) rfl
theorem k_186 : (Cond.soleField rc_F "draft") ∈ wal := wal_in (tin_1 (List.mem_of_getElem? (i := 186) (by decide +kernel))) rfl
theorem k_187 : (Cond.laysFinal rc_F rc_F "book" "LMacroForge$RuleBook;") ∈ wal := wal_in (tin_1 (List.mem_of_getElem? (i := 187) (by decide +kernel))) rfl
theorem k_188 : (Cond.soleField rc_F "book") ∈ wal := wal_in (tin_1 (List.mem_of_getElem? (i := 188) (by decide +kernel))) rfl
theorem k_189 : (Cond.laysFinal rc_F rc_F "expansion" "LMacroForge$Expansion;") ∈ wal := wal_in (tin_1 (List.mem_of_getElem? (i := 189) (by decide +kernel))) rfl
theorem k_190 : (Cond.soleField rc_F "expansion") ∈ wal := wal_in (tin_1 (List.mem_of_getElem? (i := 190) (by decide +kernel))) rfl
theorem k_191 : (Cond.superclass rc_F "java/lang/Object") ∈ wal := wal_in (tin_1 (List.mem_of_getElem? (i := 191) (by decide +kernel))) rfl
theorem k_192 : (Cond.methodLink rc_L 27 y_F_type) ∈ wal := wal_in (tin_1 (List.mem_of_getElem? (i := 192) (by decide +kernel))) rfl
theorem k_193 : (Cond.instanceMethod y_F_type) ∈ wal := wal_in (tin_1 (List.mem_of_getElem? (i := 193) (by decide +kernel))) rfl
theorem k_194 : (Cond.selects rc_F y_F_type y_F_type) ∈ wal := wal_in (tin_1 (List.mem_of_getElem? (i := 194) (by decide +kernel))) rfl
theorem k_195 : (Cond.code y_F_type prog_1_method_2_code 2 (some FieldType.boolean)) ∈ wal := wal_in (tin_1 (List.mem_of_getElem? (i := 195) rfl)) rfl
theorem k_196 : (Cond.methodLink rc_F 30 y_D_put) ∈ wal := wal_in (tin_1 (List.mem_of_getElem? (i := 196) (by decide +kernel))) rfl
theorem k_197 : (Cond.instanceMethod y_D_put) ∈ wal := wal_in (tin_1 (List.mem_of_getElem? (i := 197) (by decide +kernel))) rfl
theorem k_198 : (Cond.selects rc_D y_D_put y_D_put) ∈ wal := wal_in (tin_1 (List.mem_of_getElem? (i := 198) (by decide +kernel))) rfl
theorem k_199 : (Cond.code y_D_put prog_2_method_2_code 2 (some FieldType.boolean)) ∈ wal := wal_in (tin_1 (List.mem_of_getElem? (i := 199) rfl)) rfl
theorem k_200 : (Cond.methodLink rc_L 41 y_F_forget) ∈ wal := wal_in (tin_1 (List.mem_of_getElem? (i := 200) (by decide +kernel))) rfl
theorem k_201 : (Cond.instanceMethod y_F_forget) ∈ wal := wal_in (tin_1 (List.mem_of_getElem? (i := 201) (by decide +kernel))) rfl
theorem k_202 : (Cond.selects rc_F y_F_forget y_F_forget) ∈ wal := wal_in (tin_1 (List.mem_of_getElem? (i := 202) (by decide +kernel))) rfl
theorem k_203 : (Cond.code y_F_forget prog_1_method_4_code 2 (some FieldType.int)) ∈ wal := wal_in (tin_1 (List.mem_of_getElem? (i := 203) rfl)) rfl
theorem k_204 : (Cond.methodLink rc_F 61 y_B_drop) ∈ wal := wal_in (tin_1 (List.mem_of_getElem? (i := 204) (by decide +kernel))) rfl
theorem k_205 : (Cond.instanceMethod y_B_drop) ∈ wal := wal_in (tin_1 (List.mem_of_getElem? (i := 205) (by decide +kernel))) rfl
theorem k_206 : (Cond.selects rc_B y_B_drop y_B_drop) ∈ wal := wal_in (tin_1 (List.mem_of_getElem? (i := 206) (by decide +kernel))) rfl
theorem k_207 : (Cond.code y_B_drop prog_7_method_6_code 6 (some FieldType.int)) ∈ wal := wal_in (tin_1 (List.mem_of_getElem? (i := 207) rfl)) rfl
theorem k_208 : (Cond.methodLink rc_B 24 y_R_macro) ∈ wal := wal_in (tin_1 (List.mem_of_getElem? (i := 208) (by decide +kernel))) rfl
theorem k_209 : (Cond.instanceMethod y_R_macro) ∈ wal := wal_in (tin_1 (List.mem_of_getElem? (i := 209) (by decide +kernel))) rfl
theorem k_210 : (Cond.selects rc_R y_R_macro y_R_macro) ∈ wal := wal_in (tin_1 (List.mem_of_getElem? (i := 210) (by decide +kernel))) rfl
theorem k_211 : (Cond.code y_R_macro prog_6_method_4_code 1 (some FieldType.char)) ∈ wal := wal_in (tin_1 (List.mem_of_getElem? (i := 211) rfl)) rfl
theorem k_212 : (Cond.methodLink rc_R 30 y_T_sign) ∈ wal := wal_in (tin_1 (List.mem_of_getElem? (i := 212) (by decide +kernel))) rfl
theorem k_213 : (Cond.instanceMethod y_T_sign) ∈ wal := wal_in (tin_1 (List.mem_of_getElem? (i := 213) (by decide +kernel))) rfl
theorem k_214 : (Cond.selects rc_T y_T_sign y_T_sign) ∈ wal := wal_in (tin_1 (List.mem_of_getElem? (i := 214) (by decide +kernel))) rfl
theorem k_215 : (Cond.code y_T_sign prog_8_method_3_code 2 (some FieldType.char)) ∈ wal := wal_in (tin_1 (List.mem_of_getElem? (i := 215) rfl)) rfl
theorem k_216 : (Cond.methodLink rc_L 46 y_F_rules) ∈ wal := wal_in (tin_1 (List.mem_of_getElem? (i := 216) (by decide +kernel))) rfl
theorem k_217 : (Cond.instanceMethod y_F_rules) ∈ wal := wal_in (tin_1 (List.mem_of_getElem? (i := 217) (by decide +kernel))) rfl
theorem k_218 : (Cond.selects rc_F y_F_rules y_F_rules) ∈ wal := wal_in (tin_1 (List.mem_of_getElem? (i := 218) (by decide +kernel))) rfl
theorem k_219 : (Cond.code y_F_rules prog_1_method_5_code 1 (some FieldType.int)) ∈ wal := wal_in (tin_1 (List.mem_of_getElem? (i := 219) rfl)) rfl
theorem k_220 : (Cond.methodLink rc_F 65 y_B_size) ∈ wal := wal_in (tin_1 (List.mem_of_getElem? (i := 220) (by decide +kernel))) rfl
theorem k_221 : (Cond.instanceMethod y_B_size) ∈ wal := wal_in (tin_1 (List.mem_of_getElem? (i := 221) (by decide +kernel))) rfl
theorem k_222 : (Cond.selects rc_B y_B_size y_B_size) ∈ wal := wal_in (tin_1 (List.mem_of_getElem? (i := 222) (by decide +kernel))) rfl
theorem k_223 : (Cond.code y_B_size prog_7_method_2_code 1 (some FieldType.int)) ∈ wal := wal_in (tin_1 (List.mem_of_getElem? (i := 223) rfl)) rfl
theorem k_224 : (Cond.methodLink rc_L 54 y_F_replaced) ∈ wal := wal_in (tin_1 (List.mem_of_getElem? (i := 224) (by decide +kernel))) rfl
theorem k_225 : (Cond.instanceMethod y_F_replaced) ∈ wal := wal_in (tin_1 (List.mem_of_getElem? (i := 225) (by decide +kernel))) rfl
theorem k_226 : (Cond.selects rc_F y_F_replaced y_F_replaced) ∈ wal := wal_in (tin_1 (List.mem_of_getElem? (i := 226) (by decide +kernel))) rfl
theorem k_227 : (Cond.code y_F_replaced prog_1_method_7_code 1 (some FieldType.int)) ∈ wal := wal_in (tin_1 (List.mem_of_getElem? (i := 227) rfl)) rfl
theorem k_228 : (Cond.methodLink rc_F 75 y_E_made) ∈ wal := wal_in (tin_1 (List.mem_of_getElem? (i := 228) (by decide +kernel))) rfl
theorem k_229 : (Cond.instanceMethod y_E_made) ∈ wal := wal_in (tin_1 (List.mem_of_getElem? (i := 229) (by decide +kernel))) rfl
theorem k_230 : (Cond.selects rc_E y_E_made y_E_made) ∈ wal := wal_in (tin_1 (List.mem_of_getElem? (i := 230) (by decide +kernel))) rfl
theorem k_231 : (Cond.code y_E_made prog_3_method_3_code 1 (some FieldType.int)) ∈ wal := wal_in (tin_1 (List.mem_of_getElem? (i := 231) rfl)) rfl
theorem k_232 : (Cond.methodLink rc_L 58 y_F_mark) ∈ wal := wal_in (tin_1 (List.mem_of_getElem? (i := 232) (by decide +kernel))) rfl
theorem k_233 : (Cond.instanceMethod y_F_mark) ∈ wal := wal_in (tin_1 (List.mem_of_getElem? (i := 233) (by decide +kernel))) rfl
theorem k_234 : (Cond.selects rc_F y_F_mark y_F_mark) ∈ wal := wal_in (tin_1 (List.mem_of_getElem? (i := 234) (by decide +kernel))) rfl
theorem k_235 : (Cond.code y_F_mark prog_1_method_8_code 2 (some FieldType.int)) ∈ wal := wal_in (tin_1 (List.mem_of_getElem? (i := 235) rfl)) rfl
theorem k_236 : (Cond.methodLink rc_F 78 y_E_result) ∈ wal := wal_in (tin_1 (List.mem_of_getElem? (i := 236) (by decide +kernel))) rfl

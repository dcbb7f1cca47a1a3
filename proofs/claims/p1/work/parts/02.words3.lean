theorem k_485 : (Cond.privateMethod y_E_expression) ∈ lw_tbl := tin_3 (List.mem_of_getElem? (i := 5) (by decide +kernel))
theorem k_486 : (Cond.instanceMethod y_E_expression) ∈ wal := wal_in (tin_3 (List.mem_of_getElem? (i := 6) (by decide +kernel))) rfl
theorem k_487 : (Cond.code y_E_expression prog_3_method_6_code 6 none) ∈ wal := wal_in (tin_3 (List.mem_of_getElem? (i := 7) rfl)) rfl
theorem k_488 : (Cond.classLink rc_E 77 "java/lang/UnsupportedOperationException") ∈ wal := wal_in (tin_3 (List.mem_of_getElem? (i := 8) (by decide +kernel))) rfl
theorem k_489 : (Cond.stringRef rc_E 79 "an expression is more than 12 deep") ∈ lw_tbl := tin_3 (List.mem_of_getElem? (i := 9) (by decide +kernel))
theorem k_490 : (Cond.methodLink rc_E 81 ⟨"java/lang/UnsupportedOperationException", "<init>", "(Ljava/lang/String;)V"⟩) ∈ wal := wal_in (tin_3 (List.mem_of_getElem? (i := 10) (by decide +kernel))) rfl
theorem k_491 : (Cond.methodLink rc_E 84 y_E_isUse) ∈ wal := wal_in (tin_3 (List.mem_of_getElem? (i := 11) (by decide +kernel))) rfl
theorem k_492 : (Cond.privateMethod y_E_isUse) ∈ lw_tbl := tin_3 (List.mem_of_getElem? (i := 12) (by decide +kernel))
theorem k_493 : (Cond.instanceMethod y_E_isUse) ∈ wal := wal_in (tin_3 (List.mem_of_getElem? (i := 13) (by decide +kernel))) rfl
theorem k_494 : (Cond.code y_E_isUse prog_3_method_16_code 3 (some FieldType.boolean)) ∈ wal := wal_in (tin_3 (List.mem_of_getElem? (i := 14) rfl)) rfl
theorem k_495 : (Cond.methodLink rc_E 137 y_T_items) ∈ wal := wal_in (tin_3 (List.mem_of_getElem? (i := 15) (by decide +kernel))) rfl
theorem k_496 : (Cond.instanceMethod y_T_items) ∈ wal := wal_in (tin_3 (List.mem_of_getElem? (i := 16) (by decide +kernel))) rfl
theorem k_497 : (Cond.selects rc_T y_T_items y_T_items) ∈ wal := wal_in (tin_3 (List.mem_of_getElem? (i := 17) (by decide +kernel))) rfl
theorem k_498 : (Cond.code y_T_items prog_8_method_5_code 2 (some FieldType.int)) ∈ wal := wal_in (tin_3 (List.mem_of_getElem? (i := 18) rfl)) rfl
theorem k_499 : (Cond.methodLink rc_E 92 y_T_sign) ∈ wal := wal_in (tin_3 (List.mem_of_getElem? (i := 19) (by decide +kernel))) rfl
theorem k_500 : (Cond.methodLinkNest rc_E 96 y_F_isName rc_F) ∈ lw_tbl := tin_3 (List.mem_of_getElem? (i := 20) (by decide +kernel))
theorem k_501 : (Cond.methodLink rc_E 149 y_B_hasMacro) ∈ wal := wal_in (tin_3 (List.mem_of_getElem? (i := 21) (by decide +kernel))) rfl
theorem k_502 : (Cond.instanceMethod y_B_hasMacro) ∈ wal := wal_in (tin_3 (List.mem_of_getElem? (i := 22) (by decide +kernel))) rfl
theorem k_503 : (Cond.selects rc_B y_B_hasMacro y_B_hasMacro) ∈ wal := wal_in (tin_3 (List.mem_of_getElem? (i := 23) (by decide +kernel))) rfl
theorem k_504 : (Cond.code y_B_hasMacro prog_7_method_7_code 3 (some FieldType.boolean)) ∈ wal := wal_in (tin_3 (List.mem_of_getElem? (i := 24) rfl)) rfl
theorem k_505 : (Cond.methodLink rc_E 100 y_E_levelOf) ∈ wal := wal_in (tin_3 (List.mem_of_getElem? (i := 25) (by decide +kernel))) rfl
theorem k_506 : (Cond.privateMethod y_E_levelOf) ∈ lw_tbl := tin_3 (List.mem_of_getElem? (i := 26) (by decide +kernel))
theorem k_507 : (Cond.instanceMethod y_E_levelOf) ∈ wal := wal_in (tin_3 (List.mem_of_getElem? (i := 27) (by decide +kernel))) rfl
theorem k_508 : (Cond.code y_E_levelOf prog_3_method_15_code 3 (some FieldType.int)) ∈ wal := wal_in (tin_3 (List.mem_of_getElem? (i := 28) rfl)) rfl
theorem k_509 : (Cond.methodLink rc_E 146 y_T_stamp) ∈ wal := wal_in (tin_3 (List.mem_of_getElem? (i := 29) (by decide +kernel))) rfl
theorem k_510 : (Cond.instanceMethod y_T_stamp) ∈ wal := wal_in (tin_3 (List.mem_of_getElem? (i := 30) (by decide +kernel))) rfl
theorem k_511 : (Cond.selects rc_T y_T_stamp y_T_stamp) ∈ wal := wal_in (tin_3 (List.mem_of_getElem? (i := 31) (by decide +kernel))) rfl
theorem k_512 : (Cond.code y_T_stamp prog_8_method_4_code 2 (some FieldType.int)) ∈ wal := wal_in (tin_3 (List.mem_of_getElem? (i := 32) rfl)) rfl
theorem k_513 : (Cond.methodLink rc_E 88 y_E_replace) ∈ wal := wal_in (tin_3 (List.mem_of_getElem? (i := 33) (by decide +kernel))) rfl
theorem k_514 : (Cond.privateMethod y_E_replace) ∈ lw_tbl := tin_3 (List.mem_of_getElem? (i := 34) (by decide +kernel))
theorem k_515 : (Cond.instanceMethod y_E_replace) ∈ wal := wal_in (tin_3 (List.mem_of_getElem? (i := 35) (by decide +kernel))) rfl
theorem k_516 : (Cond.code y_E_replace prog_3_method_17_code 4 (some FieldType.int)) ∈ wal := wal_in (tin_3 (List.mem_of_getElem? (i := 36) rfl)) rfl
theorem k_517 : (Cond.stringRef rc_E 154 "no replacement is left") ∈ lw_tbl := tin_3 (List.mem_of_getElem? (i := 37) (by decide +kernel))
theorem k_518 : (Cond.methodLink rc_E 156 y_E_firstFit) ∈ wal := wal_in (tin_3 (List.mem_of_getElem? (i := 38) (by decide +kernel))) rfl
theorem k_519 : (Cond.privateMethod y_E_firstFit) ∈ lw_tbl := tin_3 (List.mem_of_getElem? (i := 39) (by decide +kernel))
theorem k_520 : (Cond.instanceMethod y_E_firstFit) ∈ wal := wal_in (tin_3 (List.mem_of_getElem? (i := 40) (by decide +kernel))) rfl
theorem k_521 : (Cond.code y_E_firstFit prog_3_method_18_code 5 (some (FieldType.object rc_R))) ∈ wal := wal_in (tin_3 (List.mem_of_getElem? (i := 41) rfl)) rfl
theorem k_522 : (Cond.methodLink rc_E 180 y_B_size) ∈ wal := wal_in (tin_3 (List.mem_of_getElem? (i := 42) (by decide +kernel))) rfl
theorem k_523 : (Cond.methodLink rc_E 183 y_B_get) ∈ wal := wal_in (tin_3 (List.mem_of_getElem? (i := 43) (by decide +kernel))) rfl
theorem k_524 : (Cond.instanceMethod y_B_get) ∈ wal := wal_in (tin_3 (List.mem_of_getElem? (i := 44) (by decide +kernel))) rfl
theorem k_525 : (Cond.selects rc_B y_B_get y_B_get) ∈ wal := wal_in (tin_3 (List.mem_of_getElem? (i := 45) (by decide +kernel))) rfl
theorem k_526 : (Cond.code y_B_get prog_7_method_8_code 2 (some (FieldType.object rc_R))) ∈ wal := wal_in (tin_3 (List.mem_of_getElem? (i := 46) rfl)) rfl
theorem k_527 : (Cond.methodLink rc_E 186 y_R_macro) ∈ wal := wal_in (tin_3 (List.mem_of_getElem? (i := 47) (by decide +kernel))) rfl
theorem k_528 : (Cond.methodLink rc_E 190 y_M_fits) ∈ wal := wal_in (tin_3 (List.mem_of_getElem? (i := 48) (by decide +kernel))) rfl
theorem k_529 : (Cond.instanceMethod y_M_fits) ∈ wal := wal_in (tin_3 (List.mem_of_getElem? (i := 49) (by decide +kernel))) rfl
theorem k_530 : (Cond.selects rc_M y_M_fits y_M_fits) ∈ wal := wal_in (tin_3 (List.mem_of_getElem? (i := 50) (by decide +kernel))) rfl
theorem k_531 : (Cond.code y_M_fits prog_4_method_2_code 4 (some FieldType.boolean)) ∈ wal := wal_in (tin_3 (List.mem_of_getElem? (i := 51) rfl)) rfl
theorem k_532 : (Cond.methodLink rc_M 22 ⟨"java/util/Arrays", "fill", "([II)V"⟩) ∈ wal := wal_in (tin_3 (List.mem_of_getElem? (i := 52) (by decide +kernel))) rfl
theorem k_533 : (Cond.methodLink rc_M 28 y_R_terms) ∈ wal := wal_in (tin_3 (List.mem_of_getElem? (i := 53) (by decide +kernel))) rfl
theorem k_534 : (Cond.instanceMethod y_R_terms) ∈ wal := wal_in (tin_3 (List.mem_of_getElem? (i := 54) (by decide +kernel))) rfl
theorem k_535 : (Cond.selects rc_R y_R_terms y_R_terms) ∈ wal := wal_in (tin_3 (List.mem_of_getElem? (i := 55) (by decide +kernel))) rfl
theorem k_536 : (Cond.code y_R_terms prog_6_method_2_code 1 (some (FieldType.object rc_T))) ∈ wal := wal_in (tin_3 (List.mem_of_getElem? (i := 56) rfl)) rfl
theorem k_537 : (Cond.methodLink rc_M 34 y_M_fitItems) ∈ wal := wal_in (tin_3 (List.mem_of_getElem? (i := 57) (by decide +kernel))) rfl
theorem k_538 : (Cond.privateMethod y_M_fitItems) ∈ lw_tbl := tin_3 (List.mem_of_getElem? (i := 58) (by decide +kernel))
theorem k_539 : (Cond.instanceMethod y_M_fitItems) ∈ wal := wal_in (tin_3 (List.mem_of_getElem? (i := 59) (by decide +kernel))) rfl
theorem k_540 : (Cond.code y_M_fitItems prog_4_method_3_code 10 (some FieldType.boolean)) ∈ wal := wal_in (tin_3 (List.mem_of_getElem? (i := 60) rfl)) rfl
theorem k_541 : (Cond.methodLink rc_M 38 y_T_items) ∈ wal := wal_in (tin_3 (List.mem_of_getElem? (i := 61) (by decide +kernel))) rfl
theorem k_542 : (Cond.methodLink rc_M 42 y_M_fitTerm) ∈ wal := wal_in (tin_3 (List.mem_of_getElem? (i := 62) (by decide +kernel))) rfl
theorem k_543 : (Cond.privateMethod y_M_fitTerm) ∈ lw_tbl := tin_3 (List.mem_of_getElem? (i := 63) (by decide +kernel))
theorem k_544 : (Cond.instanceMethod y_M_fitTerm) ∈ wal := wal_in (tin_3 (List.mem_of_getElem? (i := 64) (by decide +kernel))) rfl
theorem k_545 : (Cond.code y_M_fitTerm prog_4_method_4_code 6 (some FieldType.boolean)) ∈ wal := wal_in (tin_3 (List.mem_of_getElem? (i := 65) rfl)) rfl
theorem k_546 : (Cond.methodLink rc_M 53 y_T_sign) ∈ wal := wal_in (tin_3 (List.mem_of_getElem? (i := 66) (by decide +kernel))) rfl
theorem k_547 : (Cond.methodLinkNest rc_M 57 y_F_isName rc_F) ∈ lw_tbl := tin_3 (List.mem_of_getElem? (i := 67) (by decide +kernel))
theorem k_548 : (Cond.methodLink rc_M 61 y_M_bind) ∈ wal := wal_in (tin_3 (List.mem_of_getElem? (i := 68) (by decide +kernel))) rfl
theorem k_549 : (Cond.privateMethod y_M_bind) ∈ lw_tbl := tin_3 (List.mem_of_getElem? (i := 69) (by decide +kernel))
theorem k_550 : (Cond.instanceMethod y_M_bind) ∈ wal := wal_in (tin_3 (List.mem_of_getElem? (i := 70) (by decide +kernel))) rfl
theorem k_551 : (Cond.code y_M_bind prog_4_method_5_code 3 (some FieldType.boolean)) ∈ wal := wal_in (tin_3 (List.mem_of_getElem? (i := 71) rfl)) rfl
theorem k_552 : (Cond.methodLink rc_M 46 y_T_isRepeated) ∈ wal := wal_in (tin_3 (List.mem_of_getElem? (i := 72) (by decide +kernel))) rfl
theorem k_553 : (Cond.methodLink rc_M 50 y_T_after) ∈ wal := wal_in (tin_3 (List.mem_of_getElem? (i := 73) (by decide +kernel))) rfl
theorem k_554 : (Cond.methodLink rc_E 160 y_M_isEven) ∈ wal := wal_in (tin_3 (List.mem_of_getElem? (i := 74) (by decide +kernel))) rfl
theorem k_555 : (Cond.instanceMethod y_M_isEven) ∈ wal := wal_in (tin_3 (List.mem_of_getElem? (i := 75) (by decide +kernel))) rfl
theorem k_556 : (Cond.selects rc_M y_M_isEven y_M_isEven) ∈ wal := wal_in (tin_3 (List.mem_of_getElem? (i := 76) (by decide +kernel))) rfl
theorem k_557 : (Cond.code y_M_isEven prog_4_method_7_code 4 (some FieldType.boolean)) ∈ wal := wal_in (tin_3 (List.mem_of_getElem? (i := 77) rfl)) rfl
theorem k_558 : (Cond.methodLink rc_M 65 y_R_template) ∈ wal := wal_in (tin_3 (List.mem_of_getElem? (i := 78) (by decide +kernel))) rfl
theorem k_559 : (Cond.instanceMethod y_R_template) ∈ wal := wal_in (tin_3 (List.mem_of_getElem? (i := 79) (by decide +kernel))) rfl
theorem k_560 : (Cond.selects rc_R y_R_template y_R_template) ∈ wal := wal_in (tin_3 (List.mem_of_getElem? (i := 80) (by decide +kernel))) rfl
theorem k_561 : (Cond.code y_R_template prog_6_method_3_code 1 (some FieldType.int)) ∈ wal := wal_in (tin_3 (List.mem_of_getElem? (i := 81) rfl)) rfl
theorem k_562 : (Cond.methodLink rc_M 69 y_T_size) ∈ wal := wal_in (tin_3 (List.mem_of_getElem? (i := 82) (by decide +kernel))) rfl
theorem k_563 : (Cond.methodLink rc_M 72 y_M_copies) ∈ wal := wal_in (tin_3 (List.mem_of_getElem? (i := 83) (by decide +kernel))) rfl
theorem k_564 : (Cond.instanceMethod y_M_copies) ∈ wal := wal_in (tin_3 (List.mem_of_getElem? (i := 84) (by decide +kernel))) rfl
theorem k_565 : (Cond.selects rc_M y_M_copies y_M_copies) ∈ wal := wal_in (tin_3 (List.mem_of_getElem? (i := 85) (by decide +kernel))) rfl
theorem k_566 : (Cond.code y_M_copies prog_4_method_8_code 7 (some FieldType.int)) ∈ wal := wal_in (tin_3 (List.mem_of_getElem? (i := 86) rfl)) rfl
theorem k_567 : (Cond.methodLink rc_M 76 y_R_isMany) ∈ wal := wal_in (tin_3 (List.mem_of_getElem? (i := 87) (by decide +kernel))) rfl
theorem k_568 : (Cond.classLink rc_E 122 "java/lang/IllegalStateException") ∈ wal := wal_in (tin_3 (List.mem_of_getElem? (i := 88) (by decide +kernel))) rfl
theorem k_569 : (Cond.instantiable "java/lang/IllegalStateException" 6) ∈ wal := wal_in (tin_3 (List.mem_of_getElem? (i := 89) (by decide +kernel))) rfl
theorem k_570 : (Cond.castable "java/lang/IllegalStateException" "java/lang/IllegalStateException") ∈ lw_tbl := tin_3 (List.mem_of_getElem? (i := 90) (by decide +kernel))
theorem k_571 : (Cond.selects "java/lang/IllegalStateException" ⟨"java/lang/Throwable", "fillInStackTrace", "(I)Ljava/lang/Throwable;"⟩ ⟨"java/lang/Throwable", "fillInStackTrace", "(I)Ljava/lang/Throwable;"⟩) ∈ wal := wal_in (tin_3 (List.mem_of_getElem? (i := 91) (by decide +kernel))) rfl
theorem k_572 : (Cond.lays "java/lang/IllegalStateException" "java/lang/Throwable" "cause" "Ljava/lang/Throwable;") ∈ wal := wal_in (tin_3 (List.mem_of_getElem? (i := 92) (by decide +kernel))) rfl
theorem k_573 : (Cond.lays "java/lang/IllegalStateException" "java/lang/Throwable" "stackTrace" "[Ljava/lang/StackTraceElement;") ∈ wal := wal_in (tin_3 (List.mem_of_getElem? (i := 93) (by decide +kernel))) rfl
theorem k_574 : (Cond.lays "java/lang/IllegalStateException" "java/lang/Throwable" "suppressedExceptions" "Ljava/util/List;") ∈ wal := wal_in (tin_3 (List.mem_of_getElem? (i := 94) (by decide +kernel))) rfl
theorem k_575 : (Cond.lays "java/lang/IllegalStateException" "java/lang/Throwable" "detailMessage" "Ljava/lang/String;") ∈ wal := wal_in (tin_3 (List.mem_of_getElem? (i := 95) (by decide +kernel))) rfl
theorem k_576 : (Cond.lays "java/lang/IllegalStateException" "java/lang/Throwable" "backtrace" "Ljava/lang/Object;") ∈ wal := wal_in (tin_3 (List.mem_of_getElem? (i := 96) (by decide +kernel))) rfl
theorem k_577 : (Cond.stringRef rc_E 164 "no rule matches, or MANYs matched unequally many") ∈ lw_tbl := tin_3 (List.mem_of_getElem? (i := 97) (by decide +kernel))
theorem k_578 : (Cond.methodLink rc_E 126 ⟨"java/lang/IllegalStateException", "<init>", "(Ljava/lang/String;)V"⟩) ∈ wal := wal_in (tin_3 (List.mem_of_getElem? (i := 98) (by decide +kernel))) rfl
theorem k_579 : (Cond.instanceMethod ⟨"java/lang/IllegalStateException", "<init>", "(Ljava/lang/String;)V"⟩) ∈ wal := wal_in (tin_3 (List.mem_of_getElem? (i := 99) (by decide +kernel))) rfl
theorem k_580 : (Cond.code ⟨"java/lang/IllegalStateException", "<init>", "(Ljava/lang/String;)V"⟩ prog_13_method_2_code 2 none) ∈ wal := wal_in (tin_3 (List.mem_of_getElem? (i := 100) rfl)) rfl
theorem k_581 : (Cond.methodLink "java/lang/IllegalStateException" 7 ⟨"java/lang/RuntimeException", "<init>", "(Ljava/lang/String;)V"⟩) ∈ wal := wal_in (tin_3 (List.mem_of_getElem? (i := 101) (by decide +kernel))) rfl
theorem k_582 : (Cond.lays "java/lang/IllegalStateException" "java/lang/Throwable" "depth" "I") ∈ wal := wal_in (tin_3 (List.mem_of_getElem? (i := 102) (by decide +kernel))) rfl
theorem k_583 : (Cond.superclass "java/lang/IllegalStateException" "java/lang/RuntimeException") ∈ wal := wal_in (tin_3 (List.mem_of_getElem? (i := 103) (by decide +kernel))) rfl
theorem k_584 : (Cond.methodLink rc_E 166 y_T_begin) ∈ wal := wal_in (tin_3 (List.mem_of_getElem? (i := 104) (by decide +kernel))) rfl
theorem k_585 : (Cond.methodLink rc_E 169 y_R_template) ∈ wal := wal_in (tin_3 (List.mem_of_getElem? (i := 105) (by decide +kernel))) rfl
theorem k_586 : (Cond.methodLink rc_E 174 y_E_fill) ∈ wal := wal_in (tin_3 (List.mem_of_getElem? (i := 106) (by decide +kernel))) rfl
theorem k_587 : (Cond.privateMethod y_E_fill) ∈ lw_tbl := tin_3 (List.mem_of_getElem? (i := 107) (by decide +kernel))
theorem k_588 : (Cond.instanceMethod y_E_fill) ∈ wal := wal_in (tin_3 (List.mem_of_getElem? (i := 108) (by decide +kernel))) rfl
theorem k_589 : (Cond.code y_E_fill prog_3_method_19_code 11 (some FieldType.boolean)) ∈ wal := wal_in (tin_3 (List.mem_of_getElem? (i := 109) rfl)) rfl
theorem k_590 : (Cond.methodLink rc_E 194 y_R_terms) ∈ wal := wal_in (tin_3 (List.mem_of_getElem? (i := 110) (by decide +kernel))) rfl
theorem k_591 : (Cond.methodLink rc_E 197 y_R_isVariable) ∈ wal := wal_in (tin_3 (List.mem_of_getElem? (i := 111) (by decide +kernel))) rfl
theorem k_592 : (Cond.methodLink rc_E 200 y_R_isMany) ∈ wal := wal_in (tin_3 (List.mem_of_getElem? (i := 112) (by decide +kernel))) rfl
theorem k_593 : (Cond.methodLink rc_E 203 y_M_term) ∈ wal := wal_in (tin_3 (List.mem_of_getElem? (i := 113) (by decide +kernel))) rfl
theorem k_594 : (Cond.instanceMethod y_M_term) ∈ wal := wal_in (tin_3 (List.mem_of_getElem? (i := 114) (by decide +kernel))) rfl
theorem k_595 : (Cond.selects rc_M y_M_term y_M_term) ∈ wal := wal_in (tin_3 (List.mem_of_getElem? (i := 115) (by decide +kernel))) rfl
theorem k_596 : (Cond.code y_M_term prog_4_method_6_code 3 (some FieldType.int)) ∈ wal := wal_in (tin_3 (List.mem_of_getElem? (i := 116) rfl)) rfl
theorem k_597 : (Cond.methodLink rc_E 207 y_E_copy) ∈ wal := wal_in (tin_3 (List.mem_of_getElem? (i := 117) (by decide +kernel))) rfl
theorem k_598 : (Cond.privateMethod y_E_copy) ∈ lw_tbl := tin_3 (List.mem_of_getElem? (i := 118) (by decide +kernel))
theorem k_599 : (Cond.instanceMethod y_E_copy) ∈ wal := wal_in (tin_3 (List.mem_of_getElem? (i := 119) (by decide +kernel))) rfl
theorem k_600 : (Cond.code y_E_copy prog_3_method_20_code 5 (some FieldType.boolean)) ∈ wal := wal_in (tin_3 (List.mem_of_getElem? (i := 120) rfl)) rfl
theorem k_601 : (Cond.methodLink rc_E 210 y_T_add) ∈ wal := wal_in (tin_3 (List.mem_of_getElem? (i := 121) (by decide +kernel))) rfl
theorem k_602 : (Cond.methodLink rc_E 140 y_T_after) ∈ wal := wal_in (tin_3 (List.mem_of_getElem? (i := 122) (by decide +kernel))) rfl
theorem k_603 : (Cond.methodLink rc_E 221 y_T_close) ∈ wal := wal_in (tin_3 (List.mem_of_getElem? (i := 123) (by decide +kernel))) rfl
theorem k_604 : (Cond.methodLink rc_E 214 y_T_isRepeated) ∈ wal := wal_in (tin_3 (List.mem_of_getElem? (i := 124) (by decide +kernel))) rfl
theorem k_605 : (Cond.methodLink rc_E 217 y_M_copies) ∈ wal := wal_in (tin_3 (List.mem_of_getElem? (i := 125) (by decide +kernel))) rfl
theorem k_606 : (Cond.stringRef rc_E 178 "a replacement is too large or too deep") ∈ lw_tbl := tin_3 (List.mem_of_getElem? (i := 126) (by decide +kernel))
theorem k_607 : (Cond.methodLink rc_E 103 y_E_letterMark) ∈ wal := wal_in (tin_3 (List.mem_of_getElem? (i := 127) (by decide +kernel))) rfl
theorem k_608 : (Cond.static y_E_letterMark) ∈ wal := wal_in (tin_3 (List.mem_of_getElem? (i := 128) (by decide +kernel))) rfl
theorem k_609 : (Cond.code y_E_letterMark prog_3_method_12_code 1 (some FieldType.int)) ∈ wal := wal_in (tin_3 (List.mem_of_getElem? (i := 129) rfl)) rfl
theorem k_610 : (Cond.methodLink rc_E 107 y_S_put) ∈ wal := wal_in (tin_3 (List.mem_of_getElem? (i := 130) (by decide +kernel))) rfl
theorem k_611 : (Cond.instanceMethod y_S_put) ∈ wal := wal_in (tin_3 (List.mem_of_getElem? (i := 131) (by decide +kernel))) rfl
theorem k_612 : (Cond.selects rc_S y_S_put y_S_put) ∈ wal := wal_in (tin_3 (List.mem_of_getElem? (i := 132) (by decide +kernel))) rfl
theorem k_613 : (Cond.code y_S_put prog_5_method_3_code 2 none) ∈ wal := wal_in (tin_3 (List.mem_of_getElem? (i := 133) rfl)) rfl
theorem k_614 : (Cond.classLink rc_S 22 "java/lang/UnsupportedOperationException") ∈ wal := wal_in (tin_3 (List.mem_of_getElem? (i := 134) (by decide +kernel))) rfl
theorem k_615 : (Cond.stringRef rc_S 24 "more than 150 marks") ∈ lw_tbl := tin_3 (List.mem_of_getElem? (i := 135) (by decide +kernel))
theorem k_616 : (Cond.methodLink rc_S 26 ⟨"java/lang/UnsupportedOperationException", "<init>", "(Ljava/lang/String;)V"⟩) ∈ wal := wal_in (tin_3 (List.mem_of_getElem? (i := 136) (by decide +kernel))) rfl
theorem k_617 : (Cond.methodLinkNest rc_E 110 y_F_isNumeral rc_F) ∈ lw_tbl := tin_3 (List.mem_of_getElem? (i := 137) (by decide +kernel))
theorem k_618 : (Cond.methodLink rc_E 113 y_E_numeralMark) ∈ wal := wal_in (tin_3 (List.mem_of_getElem? (i := 138) (by decide +kernel))) rfl
theorem k_619 : (Cond.static y_E_numeralMark) ∈ wal := wal_in (tin_3 (List.mem_of_getElem? (i := 139) (by decide +kernel))) rfl
theorem k_620 : (Cond.code y_E_numeralMark prog_3_method_13_code 1 (some FieldType.int)) ∈ wal := wal_in (tin_3 (List.mem_of_getElem? (i := 140) rfl)) rfl
theorem k_621 : (Cond.methodLink rc_E 116 y_E_form) ∈ wal := wal_in (tin_3 (List.mem_of_getElem? (i := 141) (by decide +kernel))) rfl
theorem k_622 : (Cond.privateMethod y_E_form) ∈ lw_tbl := tin_3 (List.mem_of_getElem? (i := 142) (by decide +kernel))
theorem k_623 : (Cond.instanceMethod y_E_form) ∈ wal := wal_in (tin_3 (List.mem_of_getElem? (i := 143) (by decide +kernel))) rfl
theorem k_624 : (Cond.code y_E_form prog_3_method_7_code 4 none) ∈ wal := wal_in (tin_3 (List.mem_of_getElem? (i := 144) rfl)) rfl
theorem k_625 : (Cond.methodLink rc_E 119 y_E_isWellFormed) ∈ wal := wal_in (tin_3 (List.mem_of_getElem? (i := 145) (by decide +kernel))) rfl
theorem k_626 : (Cond.privateMethod y_E_isWellFormed) ∈ lw_tbl := tin_3 (List.mem_of_getElem? (i := 146) (by decide +kernel))
theorem k_627 : (Cond.instanceMethod y_E_isWellFormed) ∈ wal := wal_in (tin_3 (List.mem_of_getElem? (i := 147) (by decide +kernel))) rfl
theorem k_628 : (Cond.code y_E_isWellFormed prog_3_method_8_code 4 (some FieldType.boolean)) ∈ wal := wal_in (tin_3 (List.mem_of_getElem? (i := 148) rfl)) rfl
theorem k_629 : (Cond.stringRef rc_E 124 "malformed") ∈ lw_tbl := tin_3 (List.mem_of_getElem? (i := 149) (by decide +kernel))
theorem k_630 : (Cond.methodLink rc_E 127 y_E_bind) ∈ wal := wal_in (tin_3 (List.mem_of_getElem? (i := 150) (by decide +kernel))) rfl
theorem k_631 : (Cond.privateMethod y_E_bind) ∈ lw_tbl := tin_3 (List.mem_of_getElem? (i := 151) (by decide +kernel))
theorem k_632 : (Cond.instanceMethod y_E_bind) ∈ wal := wal_in (tin_3 (List.mem_of_getElem? (i := 152) (by decide +kernel))) rfl
theorem k_633 : (Cond.code y_E_bind prog_3_method_14_code 2 none) ∈ wal := wal_in (tin_3 (List.mem_of_getElem? (i := 153) rfl)) rfl
theorem k_634 : (Cond.methodLink rc_E 130 y_E_expressions) ∈ wal := wal_in (tin_3 (List.mem_of_getElem? (i := 154) (by decide +kernel))) rfl
theorem k_635 : (Cond.privateMethod y_E_expressions) ∈ lw_tbl := tin_3 (List.mem_of_getElem? (i := 155) (by decide +kernel))
theorem k_636 : (Cond.instanceMethod y_E_expressions) ∈ wal := wal_in (tin_3 (List.mem_of_getElem? (i := 156) (by decide +kernel))) rfl
theorem k_637 : (Cond.code y_E_expressions prog_3_method_9_code 6 none) ∈ wal := wal_in (tin_3 (List.mem_of_getElem? (i := 157) rfl)) rfl
theorem k_638 : (Cond.methodLink rc_E 134 y_E_quote) ∈ wal := wal_in (tin_3 (List.mem_of_getElem? (i := 158) (by decide +kernel))) rfl
theorem k_639 : (Cond.privateMethod y_E_quote) ∈ lw_tbl := tin_3 (List.mem_of_getElem? (i := 159) (by decide +kernel))
theorem k_640 : (Cond.instanceMethod y_E_quote) ∈ wal := wal_in (tin_3 (List.mem_of_getElem? (i := 160) (by decide +kernel))) rfl
theorem k_641 : (Cond.code y_E_quote prog_3_method_10_code 5 none) ∈ wal := wal_in (tin_3 (List.mem_of_getElem? (i := 161) rfl)) rfl
theorem k_642 : (Cond.methodLink rc_E 143 y_E_quotedMark) ∈ wal := wal_in (tin_3 (List.mem_of_getElem? (i := 162) (by decide +kernel))) rfl
theorem k_643 : (Cond.static y_E_quotedMark) ∈ wal := wal_in (tin_3 (List.mem_of_getElem? (i := 163) (by decide +kernel))) rfl
theorem k_644 : (Cond.code y_E_quotedMark prog_3_method_11_code 1 (some FieldType.int)) ∈ wal := wal_in (tin_3 (List.mem_of_getElem? (i := 164) rfl)) rfl
theorem k_645 : (Cond.methodLink rc_E 74 y_S_finish) ∈ wal := wal_in (tin_3 (List.mem_of_getElem? (i := 165) (by decide +kernel))) rfl
theorem k_646 : (Cond.instanceMethod y_S_finish) ∈ wal := wal_in (tin_3 (List.mem_of_getElem? (i := 166) (by decide +kernel))) rfl
theorem k_647 : (Cond.selects rc_S y_S_finish y_S_finish) ∈ wal := wal_in (tin_3 (List.mem_of_getElem? (i := 167) (by decide +kernel))) rfl
theorem k_648 : (Cond.code y_S_finish prog_5_method_4_code 1 (some FieldType.int)) ∈ wal := wal_in (tin_3 (List.mem_of_getElem? (i := 168) rfl)) rfl
theorem k_649 : (Cond.classLink rc_L 24 rc_O) ∈ wal := wal_in (tin_3 (List.mem_of_getElem? (i := 169) (by decide +kernel))) rfl
theorem k_650 : (Cond.instantiable rc_O 42) ∈ wal := wal_in (tin_3 (List.mem_of_getElem? (i := 170) (by decide +kernel))) rfl
theorem k_651 : (Cond.methodLink rc_L 26 y_O_init) ∈ wal := wal_in (tin_3 (List.mem_of_getElem? (i := 171) (by decide +kernel))) rfl
theorem k_652 : (Cond.instanceMethod y_O_init) ∈ wal := wal_in (tin_3 (List.mem_of_getElem? (i := 172) (by decide +kernel))) rfl
theorem k_653 : (Cond.code y_O_init prog_10_method_1_code 1 none) ∈ wal := wal_in (tin_3 (List.mem_of_getElem? (i := 173) rfl)) rfl
theorem k_654 : (Cond.methodLink rc_O 1 ⟨"java/lang/Object", "<init>", "()V"⟩) ∈ wal := wal_in (tin_3 (List.mem_of_getElem? (i := 174) (by decide +kernel))) rfl
theorem k_655 : (Cond.fieldLink rc_O 72 rc_O "code" "I") ∈ wal := wal_in (tin_3 (List.mem_of_getElem? (i := 175) (by decide +kernel))) rfl
theorem k_656 : (Cond.fieldLink rc_O 76 rc_O "typed" "I") ∈ wal := wal_in (tin_3 (List.mem_of_getElem? (i := 176) (by decide +kernel))) rfl
theorem k_657 : (Cond.fieldLink rc_O 7 rc_O "draft" "[C") ∈ wal := wal_in (tin_3 (List.mem_of_getElem? (i := 177) (by decide +kernel))) rfl
theorem k_658 : (Cond.fieldLink rc_O 79 rc_O "size" "I") ∈ wal := wal_in (tin_3 (List.mem_of_getElem? (i := 178) (by decide +kernel))) rfl
theorem k_659 : (Cond.fieldLink rc_O 13 rc_O "token" "[I") ∈ wal := wal_in (tin_3 (List.mem_of_getElem? (i := 179) (by decide +kernel))) rfl
theorem k_660 : (Cond.fieldLink rc_O 150 rc_O "rules" "I") ∈ wal := wal_in (tin_3 (List.mem_of_getElem? (i := 180) (by decide +kernel))) rfl
theorem k_661 : (Cond.fieldLink rc_O 17 rc_O "macro" "[I") ∈ wal := wal_in (tin_3 (List.mem_of_getElem? (i := 181) (by decide +kernel))) rfl
theorem k_662 : (Cond.fieldLink rc_O 20 rc_O "patternSize" "[I") ∈ wal := wal_in (tin_3 (List.mem_of_getElem? (i := 182) (by decide +kernel))) rfl
theorem k_663 : (Cond.fieldLink rc_O 23 rc_O "pattern" "[I") ∈ wal := wal_in (tin_3 (List.mem_of_getElem? (i := 183) (by decide +kernel))) rfl
theorem k_664 : (Cond.fieldLink rc_O 26 rc_O "templateSize" "[I") ∈ wal := wal_in (tin_3 (List.mem_of_getElem? (i := 184) (by decide +kernel))) rfl
theorem k_665 : (Cond.fieldLink rc_O 29 rc_O "template" "[I") ∈ wal := wal_in (tin_3 (List.mem_of_getElem? (i := 185) (by decide +kernel))) rfl
theorem k_666 : (Cond.fieldLink rc_O 32 rc_O "singles" "[I") ∈ wal := wal_in (tin_3 (List.mem_of_getElem? (i := 186) (by decide +kernel))) rfl
theorem k_667 : (Cond.fieldLink rc_O 35 rc_O "manies" "[I") ∈ wal := wal_in (tin_3 (List.mem_of_getElem? (i := 187) (by decide +kernel))) rfl
theorem k_668 : (Cond.fieldLink rc_O 96 rc_O "deep" "I") ∈ wal := wal_in (tin_3 (List.mem_of_getElem? (i := 188) (by decide +kernel))) rfl
theorem k_669 : (Cond.fieldLink rc_O 38 rc_O "begins" "[I") ∈ wal := wal_in (tin_3 (List.mem_of_getElem? (i := 189) (by decide +kernel))) rfl
theorem k_670 : (Cond.fieldLink rc_O 41 rc_O "hasTilde" "[Z") ∈ wal := wal_in (tin_3 (List.mem_of_getElem? (i := 190) (by decide +kernel))) rfl
theorem k_671 : (Cond.fieldLink rc_O 99 rc_O "item" "I") ∈ wal := wal_in (tin_3 (List.mem_of_getElem? (i := 191) (by decide +kernel))) rfl
theorem k_672 : (Cond.fieldLink rc_O 102 rc_O "itemTilde" "Z") ∈ wal := wal_in (tin_3 (List.mem_of_getElem? (i := 192) (by decide +kernel))) rfl
theorem k_673 : (Cond.fieldLink rc_O 110 rc_O "single" "I") ∈ wal := wal_in (tin_3 (List.mem_of_getElem? (i := 193) (by decide +kernel))) rfl
theorem k_674 : (Cond.fieldLink rc_O 117 rc_O "many" "I") ∈ wal := wal_in (tin_3 (List.mem_of_getElem? (i := 194) (by decide +kernel))) rfl
theorem k_675 : (Cond.fieldLink rc_O 45 rc_O "covered" "[Z") ∈ wal := wal_in (tin_3 (List.mem_of_getElem? (i := 195) (by decide +kernel))) rfl
theorem k_676 : (Cond.fieldLink rc_O 233 rc_O "end" "I") ∈ wal := wal_in (tin_3 (List.mem_of_getElem? (i := 196) (by decide +kernel))) rfl
theorem k_677 : (Cond.fieldLink rc_O 48 rc_O "row" "[I") ∈ wal := wal_in (tin_3 (List.mem_of_getElem? (i := 197) (by decide +kernel))) rfl
theorem k_678 : (Cond.fieldLink rc_O 205 rc_O "made" "I") ∈ wal := wal_in (tin_3 (List.mem_of_getElem? (i := 198) (by decide +kernel))) rfl
theorem k_679 : (Cond.fieldLink rc_O 51 rc_O "fresh" "[I") ∈ wal := wal_in (tin_3 (List.mem_of_getElem? (i := 199) (by decide +kernel))) rfl
theorem k_680 : (Cond.fieldLink rc_O 199 rc_O "nodes" "I") ∈ wal := wal_in (tin_3 (List.mem_of_getElem? (i := 200) (by decide +kernel))) rfl
theorem k_681 : (Cond.fieldLink rc_O 193 rc_O "lists" "I") ∈ wal := wal_in (tin_3 (List.mem_of_getElem? (i := 201) (by decide +kernel))) rfl
theorem k_682 : (Cond.fieldLink rc_O 196 rc_O "deepest" "I") ∈ wal := wal_in (tin_3 (List.mem_of_getElem? (i := 202) (by decide +kernel))) rfl
theorem k_683 : (Cond.fieldLink rc_O 202 rc_O "great" "Z") ∈ wal := wal_in (tin_3 (List.mem_of_getElem? (i := 203) (by decide +kernel))) rfl
theorem k_684 : (Cond.fieldLink rc_O 54 rc_O "where" "[I") ∈ wal := wal_in (tin_3 (List.mem_of_getElem? (i := 204) (by decide +kernel))) rfl
theorem k_685 : (Cond.fieldLink rc_O 57 rc_O "times" "[I") ∈ wal := wal_in (tin_3 (List.mem_of_getElem? (i := 205) (by decide +kernel))) rfl
theorem k_686 : (Cond.fieldLink rc_O 60 rc_O "places" "[I") ∈ wal := wal_in (tin_3 (List.mem_of_getElem? (i := 206) (by decide +kernel))) rfl
theorem k_687 : (Cond.fieldLink rc_O 248 rc_O "open" "I") ∈ wal := wal_in (tin_3 (List.mem_of_getElem? (i := 207) (by decide +kernel))) rfl
theorem k_688 : (Cond.fieldLink rc_O 63 rc_O "binds" "[Z") ∈ wal := wal_in (tin_3 (List.mem_of_getElem? (i := 208) (by decide +kernel))) rfl
theorem k_689 : (Cond.fieldLink rc_O 239 rc_O "bound" "I") ∈ wal := wal_in (tin_3 (List.mem_of_getElem? (i := 209) (by decide +kernel))) rfl
theorem k_690 : (Cond.fieldLink rc_O 66 rc_O "names" "[I") ∈ wal := wal_in (tin_3 (List.mem_of_getElem? (i := 210) (by decide +kernel))) rfl
theorem k_691 : (Cond.fieldLink rc_O 182 rc_O "pos" "I") ∈ wal := wal_in (tin_3 (List.mem_of_getElem? (i := 211) (by decide +kernel))) rfl
theorem k_692 : (Cond.fieldLink rc_O 214 rc_O "replaced" "I") ∈ wal := wal_in (tin_3 (List.mem_of_getElem? (i := 212) (by decide +kernel))) rfl
theorem k_693 : (Cond.fieldLink rc_O 236 rc_O "marks" "I") ∈ wal := wal_in (tin_3 (List.mem_of_getElem? (i := 213) (by decide +kernel))) rfl
theorem k_694 : (Cond.fieldLink rc_O 69 rc_O "mark" "[I") ∈ wal := wal_in (tin_3 (List.mem_of_getElem? (i := 214) (by decide +kernel))) rfl
theorem k_695 : (Cond.fieldLink rc_O 223 rc_O "fault" "I") ∈ wal := wal_in (tin_3 (List.mem_of_getElem? (i := 215) (by decide +kernel))) rfl
theorem k_696 : (Cond.fieldLink rc_O 172 rc_O "reached" "I") ∈ wal := wal_in (tin_3 (List.mem_of_getElem? (i := 216) (by decide +kernel))) rfl
theorem k_697 : (Cond.lays rc_O rc_O "code" "I") ∈ wal := wal_in (tin_3 (List.mem_of_getElem? (i := 217) (by decide +kernel))) rfl
theorem k_698 : (Cond.soleField rc_O "code") ∈ wal := wal_in (tin_3 (List.mem_of_getElem? (i := 218) (by decide +kernel))) rfl
theorem k_699 : (Cond.lays rc_O rc_O "typed" "I") ∈ wal := wal_in (tin_3 (List.mem_of_getElem? (i := 219) (by decide +kernel))) rfl
theorem k_700 : (Cond.soleField rc_O "typed") ∈ wal := wal_in (tin_3 (List.mem_of_getElem? (i := 220) (by decide +kernel))) rfl
theorem k_701 : (Cond.laysFinal rc_O rc_O "draft" "[C") ∈ wal := wal_in (tin_3 (List.mem_of_getElem? (i := 221) (by decide +kernel))) rfl
theorem k_702 : (Cond.soleField rc_O "draft") ∈ wal := wal_in (tin_3 (List.mem_of_getElem? (i := 222) (by decide +kernel))) rfl
theorem k_703 : (Cond.lays rc_O rc_O "size" "I") ∈ wal := wal_in (tin_3 (List.mem_of_getElem? (i := 223) (by decide +kernel))) rfl
theorem k_704 : (Cond.soleField rc_O "size") ∈ wal := wal_in (tin_3 (List.mem_of_getElem? (i := 224) (by decide +kernel))) rfl
theorem k_705 : (Cond.laysFinal rc_O rc_O "token" "[I") ∈ wal := wal_in (tin_3 (List.mem_of_getElem? (i := 225) (by decide +kernel))) rfl
theorem k_706 : (Cond.soleField rc_O "token") ∈ wal := wal_in (tin_3 (List.mem_of_getElem? (i := 226) (by decide +kernel))) rfl
theorem k_707 : (Cond.lays rc_O rc_O "rules" "I") ∈ wal := wal_in (tin_3 (List.mem_of_getElem? (i := 227) (by decide +kernel))) rfl
theorem k_708 : (Cond.soleField rc_O "rules") ∈ wal := wal_in (tin_3 (List.mem_of_getElem? (i := 228) (by decide +kernel))) rfl
theorem k_709 : (Cond.laysFinal rc_O rc_O "macro" "[I") ∈ wal := wal_in (tin_3 (List.mem_of_getElem? (i := 229) (by decide +kernel))) rfl
theorem k_710 : (Cond.soleField rc_O "macro") ∈ wal := wal_in (tin_3 (List.mem_of_getElem? (i := 230) (by decide +kernel))) rfl
theorem k_711 : (Cond.laysFinal rc_O rc_O "patternSize" "[I") ∈ wal := wal_in (tin_3 (List.mem_of_getElem? (i := 231) (by decide +kernel))) rfl
theorem k_712 : (Cond.soleField rc_O "patternSize") ∈ wal := wal_in (tin_3 (List.mem_of_getElem? (i := 232) (by decide +kernel))) rfl
theorem k_713 : (Cond.laysFinal rc_O rc_O "pattern" "[I") ∈ wal := wal_in (tin_3 (List.mem_of_getElem? (i := 233) (by decide +kernel))) rfl
theorem k_714 : (Cond.soleField rc_O "pattern") ∈ wal := wal_in (tin_3 (List.mem_of_getElem? (i := 234) (by decide +kernel))) rfl
theorem k_715 : (Cond.laysFinal rc_O rc_O "templateSize" "[I") ∈ wal := wal_in (tin_3 (List.mem_of_getElem? (i := 235) (by decide +kernel))) rfl
theorem k_716 : (Cond.soleField rc_O "templateSize") ∈ wal := wal_in (tin_3 (List.mem_of_getElem? (i := 236) (by decide +kernel))) rfl
theorem k_717 : (Cond.laysFinal rc_O rc_O "template" "[I") ∈ wal := wal_in (tin_3 (List.mem_of_getElem? (i := 237) (by decide +kernel))) rfl
theorem k_718 : (Cond.soleField rc_O "template") ∈ wal := wal_in (tin_3 (List.mem_of_getElem? (i := 238) (by decide +kernel))) rfl
theorem k_719 : (Cond.laysFinal rc_O rc_O "singles" "[I") ∈ wal := wal_in (tin_3 (List.mem_of_getElem? (i := 239) (by decide +kernel))) rfl
theorem k_720 : (Cond.soleField rc_O "singles") ∈ wal := wal_in (tin_4 (List.mem_of_getElem? (i := 0) (by decide +kernel))) rfl
theorem k_721 : (Cond.laysFinal rc_O rc_O "manies" "[I") ∈ wal := wal_in (tin_4 (List.mem_of_getElem? (i := 1) (by decide +kernel))) rfl
theorem k_722 : (Cond.soleField rc_O "manies") ∈ wal := wal_in (tin_4 (List.mem_of_getElem? (i := 2) (by decide +kernel))) rfl
theorem k_723 : (Cond.lays rc_O rc_O "deep" "I") ∈ wal := wal_in (tin_4 (List.mem_of_getElem? (i := 3) (by decide +kernel))) rfl
theorem k_724 : (Cond.soleField rc_O "deep") ∈ wal := wal_in (tin_4 (List.mem_of_getElem? (i := 4) (by decide +kernel))) rfl
theorem k_725 : (Cond.laysFinal rc_O rc_O "begins" "[I") ∈ wal := wal_in (tin_4 (List.mem_of_getElem? (i := 5) (by decide +kernel))) rfl
theorem k_726 : (Cond.soleField rc_O "begins") ∈ wal := wal_in (tin_4 (List.mem_of_getElem? (i := 6) (by decide +kernel))) rfl
theorem k_727 : (Cond.laysFinal rc_O rc_O "hasTilde" "[Z") ∈ wal := wal_in (tin_4 (List.mem_of_getElem? (i := 7) (by decide +kernel))) rfl
theorem k_728 : (Cond.soleField rc_O "hasTilde") ∈ wal := wal_in (tin_4 (List.mem_of_getElem? (i := 8) (by decide +kernel))) rfl
theorem k_729 : (Cond.lays rc_O rc_O "item" "I") ∈ wal := wal_in (tin_4 (List.mem_of_getElem? (i := 9) (by decide +kernel))) rfl
theorem k_730 : (Cond.soleField rc_O "item") ∈ wal := wal_in (tin_4 (List.mem_of_getElem? (i := 10) (by decide +kernel))) rfl
theorem k_731 : (Cond.lays rc_O rc_O "itemTilde" "Z") ∈ wal := wal_in (tin_4 (List.mem_of_getElem? (i := 11) (by decide +kernel))) rfl
theorem k_732 : (Cond.soleField rc_O "itemTilde") ∈ wal := wal_in (tin_4 (List.mem_of_getElem? (i := 12) (by decide +kernel))) rfl

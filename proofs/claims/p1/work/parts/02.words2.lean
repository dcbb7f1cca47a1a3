theorem k_237 : (Cond.instanceMethod y_E_result) ∈ wal := wal_in (tin_1 (List.mem_of_getElem? (i := 237) (by decide +kernel))) rfl
theorem k_238 : (Cond.selects rc_E y_E_result y_E_result) ∈ wal := wal_in (tin_1 (List.mem_of_getElem? (i := 238) (by decide +kernel))) rfl
theorem k_239 : (Cond.code y_E_result prog_3_method_2_code 1 (some (FieldType.object rc_S))) ∈ wal := wal_in (tin_1 (List.mem_of_getElem? (i := 239) rfl)) rfl
theorem k_240 : (Cond.methodLink rc_F 82 y_S_at) ∈ wal := wal_in (tin_2 (List.mem_of_getElem? (i := 0) (by decide +kernel))) rfl
theorem k_241 : (Cond.instanceMethod y_S_at) ∈ wal := wal_in (tin_2 (List.mem_of_getElem? (i := 1) (by decide +kernel))) rfl
theorem k_242 : (Cond.selects rc_S y_S_at y_S_at) ∈ wal := wal_in (tin_2 (List.mem_of_getElem? (i := 2) (by decide +kernel))) rfl
theorem k_243 : (Cond.code y_S_at prog_5_method_5_code 2 (some FieldType.int)) ∈ wal := wal_in (tin_2 (List.mem_of_getElem? (i := 3) rfl)) rfl
theorem k_244 : (Cond.methodLink rc_L 62 y_F_depth) ∈ wal := wal_in (tin_2 (List.mem_of_getElem? (i := 4) (by decide +kernel))) rfl
theorem k_245 : (Cond.instanceMethod y_F_depth) ∈ wal := wal_in (tin_2 (List.mem_of_getElem? (i := 5) (by decide +kernel))) rfl
theorem k_246 : (Cond.selects rc_F y_F_depth y_F_depth) ∈ wal := wal_in (tin_2 (List.mem_of_getElem? (i := 6) (by decide +kernel))) rfl
theorem k_247 : (Cond.code y_F_depth prog_1_method_9_code 1 (some FieldType.int)) ∈ wal := wal_in (tin_2 (List.mem_of_getElem? (i := 7) rfl)) rfl
theorem k_248 : (Cond.methodLink rc_F 88 y_S_deepest) ∈ wal := wal_in (tin_2 (List.mem_of_getElem? (i := 8) (by decide +kernel))) rfl
theorem k_249 : (Cond.instanceMethod y_S_deepest) ∈ wal := wal_in (tin_2 (List.mem_of_getElem? (i := 9) (by decide +kernel))) rfl
theorem k_250 : (Cond.selects rc_S y_S_deepest y_S_deepest) ∈ wal := wal_in (tin_2 (List.mem_of_getElem? (i := 10) (by decide +kernel))) rfl
theorem k_251 : (Cond.code y_S_deepest prog_5_method_6_code 4 (some FieldType.int)) ∈ wal := wal_in (tin_2 (List.mem_of_getElem? (i := 11) rfl)) rfl
theorem k_252 : (Cond.methodLink rc_S 29 ⟨"java/lang/Math", "max", "(II)I"⟩) ∈ wal := wal_in (tin_2 (List.mem_of_getElem? (i := 12) (by decide +kernel))) rfl
theorem k_253 : (Cond.static ⟨"java/lang/Math", "max", "(II)I"⟩) ∈ wal := wal_in (tin_2 (List.mem_of_getElem? (i := 13) (by decide +kernel))) rfl
theorem k_254 : (Cond.code ⟨"java/lang/Math", "max", "(II)I"⟩ prog_14_method_65_code 2 (some FieldType.int)) ∈ wal := wal_in (tin_2 (List.mem_of_getElem? (i := 14) rfl)) rfl
theorem k_255 : (Cond.methodLink rc_L 32 y_L_rule) ∈ wal := wal_in (tin_2 (List.mem_of_getElem? (i := 15) (by decide +kernel))) rfl
theorem k_256 : (Cond.static y_L_rule) ∈ wal := wal_in (tin_2 (List.mem_of_getElem? (i := 16) (by decide +kernel))) rfl
theorem k_257 : (Cond.codeWith y_L_rule method_3_code 3 (some FieldType.int) [(0, 8, 11, 13), (0, 8, 14, 15)]) ∈ wal := wal_in (tin_2 (List.mem_of_getElem? (i := 17) rfl)) rfl
theorem k_258 : (Cond.classLink rc_L 13 "java/lang/IllegalArgumentException") ∈ wal := wal_in (tin_2 (List.mem_of_getElem? (i := 18) (by decide +kernel))) rfl
theorem k_259 : (Cond.classLink rc_L 15 "java/lang/UnsupportedOperationException") ∈ wal := wal_in (tin_2 (List.mem_of_getElem? (i := 19) (by decide +kernel))) rfl
theorem k_260 : (Cond.methodLink rc_L 7 y_F_rule) ∈ wal := wal_in (tin_2 (List.mem_of_getElem? (i := 20) (by decide +kernel))) rfl
theorem k_261 : (Cond.instanceMethod y_F_rule) ∈ wal := wal_in (tin_2 (List.mem_of_getElem? (i := 21) (by decide +kernel))) rfl
theorem k_262 : (Cond.selects rc_F y_F_rule y_F_rule) ∈ wal := wal_in (tin_2 (List.mem_of_getElem? (i := 22) (by decide +kernel))) rfl
theorem k_263 : (Cond.code y_F_rule prog_1_method_3_code 2 (some FieldType.int)) ∈ wal := wal_in (tin_2 (List.mem_of_getElem? (i := 23) rfl)) rfl
theorem k_264 : (Cond.methodLink rc_F 34 y_B_read) ∈ wal := wal_in (tin_2 (List.mem_of_getElem? (i := 24) (by decide +kernel))) rfl
theorem k_265 : (Cond.instanceMethod y_B_read) ∈ wal := wal_in (tin_2 (List.mem_of_getElem? (i := 25) (by decide +kernel))) rfl
theorem k_266 : (Cond.selects rc_B y_B_read y_B_read) ∈ wal := wal_in (tin_2 (List.mem_of_getElem? (i := 26) (by decide +kernel))) rfl
theorem k_267 : (Cond.code y_B_read prog_7_method_4_code 2 (some FieldType.boolean)) ∈ wal := wal_in (tin_2 (List.mem_of_getElem? (i := 27) rfl)) rfl
theorem k_268 : (Cond.methodLink rc_B 20 y_R_read) ∈ wal := wal_in (tin_2 (List.mem_of_getElem? (i := 28) (by decide +kernel))) rfl
theorem k_269 : (Cond.instanceMethod y_R_read) ∈ wal := wal_in (tin_2 (List.mem_of_getElem? (i := 29) (by decide +kernel))) rfl
theorem k_270 : (Cond.selects rc_R y_R_read y_R_read) ∈ wal := wal_in (tin_2 (List.mem_of_getElem? (i := 30) (by decide +kernel))) rfl
theorem k_271 : (Cond.code y_R_read prog_6_method_7_code 3 (some FieldType.boolean)) ∈ wal := wal_in (tin_2 (List.mem_of_getElem? (i := 31) rfl)) rfl
theorem k_272 : (Cond.methodLink rc_R 38 y_D_find) ∈ wal := wal_in (tin_2 (List.mem_of_getElem? (i := 32) (by decide +kernel))) rfl
theorem k_273 : (Cond.instanceMethod y_D_find) ∈ wal := wal_in (tin_2 (List.mem_of_getElem? (i := 33) (by decide +kernel))) rfl
theorem k_274 : (Cond.selects rc_D y_D_find y_D_find) ∈ wal := wal_in (tin_2 (List.mem_of_getElem? (i := 34) (by decide +kernel))) rfl
theorem k_275 : (Cond.code y_D_find prog_2_method_6_code 3 (some FieldType.int)) ∈ wal := wal_in (tin_2 (List.mem_of_getElem? (i := 35) rfl)) rfl
theorem k_276 : (Cond.methodLink rc_R 42 y_T_clear) ∈ wal := wal_in (tin_2 (List.mem_of_getElem? (i := 36) (by decide +kernel))) rfl
theorem k_277 : (Cond.instanceMethod y_T_clear) ∈ wal := wal_in (tin_2 (List.mem_of_getElem? (i := 37) (by decide +kernel))) rfl
theorem k_278 : (Cond.selects rc_T y_T_clear y_T_clear) ∈ wal := wal_in (tin_2 (List.mem_of_getElem? (i := 38) (by decide +kernel))) rfl
theorem k_279 : (Cond.code y_T_clear prog_8_method_8_code 1 none) ∈ wal := wal_in (tin_2 (List.mem_of_getElem? (i := 39) rfl)) rfl
theorem k_280 : (Cond.methodLink rc_R 45 y_R_hasMacro) ∈ wal := wal_in (tin_2 (List.mem_of_getElem? (i := 40) (by decide +kernel))) rfl
theorem k_281 : (Cond.static y_R_hasMacro) ∈ wal := wal_in (tin_2 (List.mem_of_getElem? (i := 41) (by decide +kernel))) rfl
theorem k_282 : (Cond.code y_R_hasMacro prog_6_method_8_code 1 (some FieldType.boolean)) ∈ wal := wal_in (tin_2 (List.mem_of_getElem? (i := 42) rfl)) rfl
theorem k_283 : (Cond.methodLink rc_R 71 y_D_at) ∈ wal := wal_in (tin_2 (List.mem_of_getElem? (i := 43) (by decide +kernel))) rfl
theorem k_284 : (Cond.instanceMethod y_D_at) ∈ wal := wal_in (tin_2 (List.mem_of_getElem? (i := 44) (by decide +kernel))) rfl
theorem k_285 : (Cond.selects rc_D y_D_at y_D_at) ∈ wal := wal_in (tin_2 (List.mem_of_getElem? (i := 45) (by decide +kernel))) rfl
theorem k_286 : (Cond.code y_D_at prog_2_method_5_code 2 (some FieldType.char)) ∈ wal := wal_in (tin_2 (List.mem_of_getElem? (i := 46) rfl)) rfl
theorem k_287 : (Cond.methodLinkNest rc_R 34 y_F_isName rc_F) ∈ lw_tbl := tin_2 (List.mem_of_getElem? (i := 47) (by decide +kernel))
theorem k_288 : (Cond.static y_F_isName) ∈ wal := wal_in (tin_2 (List.mem_of_getElem? (i := 48) (by decide +kernel))) rfl
theorem k_289 : (Cond.code y_F_isName prog_1_method_10_code 1 (some FieldType.boolean)) ∈ wal := wal_in (tin_2 (List.mem_of_getElem? (i := 49) rfl)) rfl
theorem k_290 : (Cond.methodLink rc_R 49 y_R_repeatsLastItems) ∈ wal := wal_in (tin_2 (List.mem_of_getElem? (i := 50) (by decide +kernel))) rfl
theorem k_291 : (Cond.static y_R_repeatsLastItems) ∈ wal := wal_in (tin_2 (List.mem_of_getElem? (i := 51) (by decide +kernel))) rfl
theorem k_292 : (Cond.code y_R_repeatsLastItems prog_6_method_9_code 3 (some FieldType.boolean)) ∈ wal := wal_in (tin_2 (List.mem_of_getElem? (i := 52) rfl)) rfl
theorem k_293 : (Cond.methodLink rc_R 53 y_T_read) ∈ wal := wal_in (tin_2 (List.mem_of_getElem? (i := 53) (by decide +kernel))) rfl
theorem k_294 : (Cond.instanceMethod y_T_read) ∈ wal := wal_in (tin_2 (List.mem_of_getElem? (i := 54) (by decide +kernel))) rfl
theorem k_295 : (Cond.selects rc_T y_T_read y_T_read) ∈ wal := wal_in (tin_2 (List.mem_of_getElem? (i := 55) (by decide +kernel))) rfl
theorem k_296 : (Cond.code y_T_read prog_8_method_10_code 6 (some FieldType.boolean)) ∈ wal := wal_in (tin_2 (List.mem_of_getElem? (i := 56) rfl)) rfl
theorem k_297 : (Cond.methodLink rc_T 48 y_T_begin) ∈ wal := wal_in (tin_2 (List.mem_of_getElem? (i := 57) (by decide +kernel))) rfl
theorem k_298 : (Cond.instanceMethod y_T_begin) ∈ wal := wal_in (tin_2 (List.mem_of_getElem? (i := 58) (by decide +kernel))) rfl
theorem k_299 : (Cond.selects rc_T y_T_begin y_T_begin) ∈ wal := wal_in (tin_2 (List.mem_of_getElem? (i := 59) (by decide +kernel))) rfl
theorem k_300 : (Cond.code y_T_begin prog_8_method_9_code 2 (some FieldType.int)) ∈ wal := wal_in (tin_2 (List.mem_of_getElem? (i := 60) rfl)) rfl
theorem k_301 : (Cond.methodLink rc_T 52 y_D_at) ∈ wal := wal_in (tin_2 (List.mem_of_getElem? (i := 61) (by decide +kernel))) rfl
theorem k_302 : (Cond.methodLink rc_T 58 y_T_take) ∈ wal := wal_in (tin_2 (List.mem_of_getElem? (i := 62) (by decide +kernel))) rfl
theorem k_303 : (Cond.privateMethod y_T_take) ∈ lw_tbl := tin_2 (List.mem_of_getElem? (i := 63) (by decide +kernel))
theorem k_304 : (Cond.instanceMethod y_T_take) ∈ wal := wal_in (tin_2 (List.mem_of_getElem? (i := 64) (by decide +kernel))) rfl
theorem k_305 : (Cond.code y_T_take prog_8_method_11_code 4 (some FieldType.boolean)) ∈ wal := wal_in (tin_2 (List.mem_of_getElem? (i := 65) rfl)) rfl
theorem k_306 : (Cond.methodLink rc_T 62 y_T_close) ∈ wal := wal_in (tin_2 (List.mem_of_getElem? (i := 66) (by decide +kernel))) rfl
theorem k_307 : (Cond.instanceMethod y_T_close) ∈ wal := wal_in (tin_2 (List.mem_of_getElem? (i := 67) (by decide +kernel))) rfl
theorem k_308 : (Cond.selects rc_T y_T_close y_T_close) ∈ wal := wal_in (tin_2 (List.mem_of_getElem? (i := 68) (by decide +kernel))) rfl
theorem k_309 : (Cond.code y_T_close prog_8_method_13_code 1 (some FieldType.boolean)) ∈ wal := wal_in (tin_2 (List.mem_of_getElem? (i := 69) rfl)) rfl
theorem k_310 : (Cond.methodLink rc_T 66 y_T_repeatLast) ∈ wal := wal_in (tin_2 (List.mem_of_getElem? (i := 70) (by decide +kernel))) rfl
theorem k_311 : (Cond.privateMethod y_T_repeatLast) ∈ lw_tbl := tin_2 (List.mem_of_getElem? (i := 71) (by decide +kernel))
theorem k_312 : (Cond.instanceMethod y_T_repeatLast) ∈ wal := wal_in (tin_2 (List.mem_of_getElem? (i := 72) (by decide +kernel))) rfl
theorem k_313 : (Cond.code y_T_repeatLast prog_8_method_14_code 2 (some FieldType.boolean)) ∈ wal := wal_in (tin_2 (List.mem_of_getElem? (i := 73) rfl)) rfl
theorem k_314 : (Cond.methodLinkNest rc_T 69 y_F_isName rc_F) ∈ lw_tbl := tin_2 (List.mem_of_getElem? (i := 74) (by decide +kernel))
theorem k_315 : (Cond.methodLinkNest rc_T 73 y_F_isNumeral rc_F) ∈ lw_tbl := tin_2 (List.mem_of_getElem? (i := 75) (by decide +kernel))
theorem k_316 : (Cond.static y_F_isNumeral) ∈ wal := wal_in (tin_2 (List.mem_of_getElem? (i := 76) (by decide +kernel))) rfl
theorem k_317 : (Cond.code y_F_isNumeral prog_1_method_11_code 1 (some FieldType.boolean)) ∈ wal := wal_in (tin_2 (List.mem_of_getElem? (i := 77) rfl)) rfl
theorem k_318 : (Cond.methodLinkNest rc_T 76 y_F_isKeyword rc_F) ∈ lw_tbl := tin_2 (List.mem_of_getElem? (i := 78) (by decide +kernel))
theorem k_319 : (Cond.static y_F_isKeyword) ∈ wal := wal_in (tin_2 (List.mem_of_getElem? (i := 79) (by decide +kernel))) rfl
theorem k_320 : (Cond.code y_F_isKeyword prog_1_method_12_code 1 (some FieldType.boolean)) ∈ wal := wal_in (tin_2 (List.mem_of_getElem? (i := 80) rfl)) rfl
theorem k_321 : (Cond.methodLink rc_T 79 y_T_add) ∈ wal := wal_in (tin_2 (List.mem_of_getElem? (i := 81) (by decide +kernel))) rfl
theorem k_322 : (Cond.instanceMethod y_T_add) ∈ wal := wal_in (tin_2 (List.mem_of_getElem? (i := 82) (by decide +kernel))) rfl
theorem k_323 : (Cond.selects rc_T y_T_add y_T_add) ∈ wal := wal_in (tin_2 (List.mem_of_getElem? (i := 83) (by decide +kernel))) rfl
theorem k_324 : (Cond.code y_T_add prog_8_method_12_code 5 (some FieldType.boolean)) ∈ wal := wal_in (tin_2 (List.mem_of_getElem? (i := 84) rfl)) rfl
theorem k_325 : (Cond.methodLink rc_R 57 y_R_findVariables) ∈ wal := wal_in (tin_2 (List.mem_of_getElem? (i := 85) (by decide +kernel))) rfl
theorem k_326 : (Cond.privateMethod y_R_findVariables) ∈ lw_tbl := tin_2 (List.mem_of_getElem? (i := 86) (by decide +kernel))
theorem k_327 : (Cond.instanceMethod y_R_findVariables) ∈ wal := wal_in (tin_2 (List.mem_of_getElem? (i := 87) (by decide +kernel))) rfl
theorem k_328 : (Cond.code y_R_findVariables prog_6_method_10_code 4 (some FieldType.boolean)) ∈ wal := wal_in (tin_2 (List.mem_of_getElem? (i := 88) rfl)) rfl
theorem k_329 : (Cond.methodLink rc_R 74 ⟨"java/util/Arrays", "fill", "([II)V"⟩) ∈ wal := wal_in (tin_2 (List.mem_of_getElem? (i := 89) (by decide +kernel))) rfl
theorem k_330 : (Cond.static ⟨"java/util/Arrays", "fill", "([II)V"⟩) ∈ wal := wal_in (tin_2 (List.mem_of_getElem? (i := 90) (by decide +kernel))) rfl
theorem k_331 : (Cond.code ⟨"java/util/Arrays", "fill", "([II)V"⟩ prog_19_method_103_code 4 none) ∈ wal := wal_in (tin_2 (List.mem_of_getElem? (i := 91) rfl)) rfl
theorem k_332 : (Cond.methodLink rc_R 61 y_T_size) ∈ wal := wal_in (tin_2 (List.mem_of_getElem? (i := 92) (by decide +kernel))) rfl
theorem k_333 : (Cond.instanceMethod y_T_size) ∈ wal := wal_in (tin_2 (List.mem_of_getElem? (i := 93) (by decide +kernel))) rfl
theorem k_334 : (Cond.selects rc_T y_T_size y_T_size) ∈ wal := wal_in (tin_2 (List.mem_of_getElem? (i := 94) (by decide +kernel))) rfl
theorem k_335 : (Cond.code y_T_size prog_8_method_2_code 1 (some FieldType.int)) ∈ wal := wal_in (tin_2 (List.mem_of_getElem? (i := 95) rfl)) rfl
theorem k_336 : (Cond.methodLink rc_R 80 y_T_isRepeated) ∈ wal := wal_in (tin_2 (List.mem_of_getElem? (i := 96) (by decide +kernel))) rfl
theorem k_337 : (Cond.instanceMethod y_T_isRepeated) ∈ wal := wal_in (tin_2 (List.mem_of_getElem? (i := 97) (by decide +kernel))) rfl
theorem k_338 : (Cond.selects rc_T y_T_isRepeated y_T_isRepeated) ∈ wal := wal_in (tin_2 (List.mem_of_getElem? (i := 98) (by decide +kernel))) rfl
theorem k_339 : (Cond.code y_T_isRepeated prog_8_method_6_code 2 (some FieldType.boolean)) ∈ wal := wal_in (tin_2 (List.mem_of_getElem? (i := 99) rfl)) rfl
theorem k_340 : (Cond.methodLink rc_R 84 y_T_after) ∈ wal := wal_in (tin_2 (List.mem_of_getElem? (i := 100) (by decide +kernel))) rfl
theorem k_341 : (Cond.instanceMethod y_T_after) ∈ wal := wal_in (tin_2 (List.mem_of_getElem? (i := 101) (by decide +kernel))) rfl
theorem k_342 : (Cond.selects rc_T y_T_after y_T_after) ∈ wal := wal_in (tin_2 (List.mem_of_getElem? (i := 102) (by decide +kernel))) rfl
theorem k_343 : (Cond.code y_T_after prog_8_method_7_code 2 (some FieldType.int)) ∈ wal := wal_in (tin_2 (List.mem_of_getElem? (i := 103) rfl)) rfl
theorem k_344 : (Cond.methodLink rc_R 88 y_R_isVariable) ∈ wal := wal_in (tin_2 (List.mem_of_getElem? (i := 104) (by decide +kernel))) rfl
theorem k_345 : (Cond.instanceMethod y_R_isVariable) ∈ wal := wal_in (tin_2 (List.mem_of_getElem? (i := 105) (by decide +kernel))) rfl
theorem k_346 : (Cond.selects rc_R y_R_isVariable y_R_isVariable) ∈ wal := wal_in (tin_2 (List.mem_of_getElem? (i := 106) (by decide +kernel))) rfl
theorem k_347 : (Cond.code y_R_isVariable prog_6_method_5_code 2 (some FieldType.boolean)) ∈ wal := wal_in (tin_2 (List.mem_of_getElem? (i := 107) rfl)) rfl
theorem k_348 : (Cond.methodLink rc_R 65 y_D_length) ∈ wal := wal_in (tin_2 (List.mem_of_getElem? (i := 108) (by decide +kernel))) rfl
theorem k_349 : (Cond.instanceMethod y_D_length) ∈ wal := wal_in (tin_2 (List.mem_of_getElem? (i := 109) (by decide +kernel))) rfl
theorem k_350 : (Cond.selects rc_D y_D_length y_D_length) ∈ wal := wal_in (tin_2 (List.mem_of_getElem? (i := 110) (by decide +kernel))) rfl
theorem k_351 : (Cond.code y_D_length prog_2_method_4_code 1 (some FieldType.int)) ∈ wal := wal_in (tin_2 (List.mem_of_getElem? (i := 111) rfl)) rfl
theorem k_352 : (Cond.methodLink rc_R 68 y_R_repeatsManys) ∈ wal := wal_in (tin_2 (List.mem_of_getElem? (i := 112) (by decide +kernel))) rfl
theorem k_353 : (Cond.privateMethod y_R_repeatsManys) ∈ lw_tbl := tin_2 (List.mem_of_getElem? (i := 113) (by decide +kernel))
theorem k_354 : (Cond.instanceMethod y_R_repeatsManys) ∈ wal := wal_in (tin_2 (List.mem_of_getElem? (i := 114) (by decide +kernel))) rfl
theorem k_355 : (Cond.code y_R_repeatsManys prog_6_method_11_code 3 (some FieldType.boolean)) ∈ wal := wal_in (tin_2 (List.mem_of_getElem? (i := 115) rfl)) rfl
theorem k_356 : (Cond.methodLink rc_R 91 y_R_holdsMany) ∈ wal := wal_in (tin_2 (List.mem_of_getElem? (i := 116) (by decide +kernel))) rfl
theorem k_357 : (Cond.privateMethod y_R_holdsMany) ∈ lw_tbl := tin_2 (List.mem_of_getElem? (i := 117) (by decide +kernel))
theorem k_358 : (Cond.instanceMethod y_R_holdsMany) ∈ wal := wal_in (tin_2 (List.mem_of_getElem? (i := 118) (by decide +kernel))) rfl
theorem k_359 : (Cond.code y_R_holdsMany prog_6_method_12_code 3 (some FieldType.boolean)) ∈ wal := wal_in (tin_2 (List.mem_of_getElem? (i := 119) rfl)) rfl
theorem k_360 : (Cond.methodLink rc_R 94 y_R_isMany) ∈ wal := wal_in (tin_2 (List.mem_of_getElem? (i := 120) (by decide +kernel))) rfl
theorem k_361 : (Cond.instanceMethod y_R_isMany) ∈ wal := wal_in (tin_2 (List.mem_of_getElem? (i := 121) (by decide +kernel))) rfl
theorem k_362 : (Cond.selects rc_R y_R_isMany y_R_isMany) ∈ wal := wal_in (tin_2 (List.mem_of_getElem? (i := 122) (by decide +kernel))) rfl
theorem k_363 : (Cond.code y_R_isMany prog_6_method_6_code 2 (some FieldType.boolean)) ∈ wal := wal_in (tin_2 (List.mem_of_getElem? (i := 123) rfl)) rfl
theorem k_364 : (Cond.methodLink rc_F 38 y_D_clear) ∈ wal := wal_in (tin_2 (List.mem_of_getElem? (i := 124) (by decide +kernel))) rfl
theorem k_365 : (Cond.instanceMethod y_D_clear) ∈ wal := wal_in (tin_2 (List.mem_of_getElem? (i := 125) (by decide +kernel))) rfl
theorem k_366 : (Cond.selects rc_D y_D_clear y_D_clear) ∈ wal := wal_in (tin_2 (List.mem_of_getElem? (i := 126) (by decide +kernel))) rfl
theorem k_367 : (Cond.code y_D_clear prog_2_method_3_code 1 none) ∈ wal := wal_in (tin_2 (List.mem_of_getElem? (i := 127) rfl)) rfl
theorem k_368 : (Cond.classLink rc_F 41 "java/lang/IllegalArgumentException") ∈ wal := wal_in (tin_2 (List.mem_of_getElem? (i := 128) (by decide +kernel))) rfl
theorem k_369 : (Cond.instantiable "java/lang/IllegalArgumentException" 6) ∈ wal := wal_in (tin_2 (List.mem_of_getElem? (i := 129) (by decide +kernel))) rfl
theorem k_370 : (Cond.castable "java/lang/IllegalArgumentException" "java/lang/IllegalArgumentException") ∈ lw_tbl := tin_2 (List.mem_of_getElem? (i := 130) (by decide +kernel))
theorem k_371 : (Cond.declares ⟨"java/lang/RuntimeException", "<init>", "()V"⟩) ∈ lw_tbl := tin_2 (List.mem_of_getElem? (i := 131) (by decide +kernel))
theorem k_372 : (Cond.declares ⟨"java/lang/RuntimeException", "<init>", "(Ljava/lang/String;)V"⟩) ∈ lw_tbl := tin_2 (List.mem_of_getElem? (i := 132) (by decide +kernel))
theorem k_373 : (Cond.declares ⟨"java/lang/Exception", "<init>", "()V"⟩) ∈ lw_tbl := tin_2 (List.mem_of_getElem? (i := 133) (by decide +kernel))
theorem k_374 : (Cond.declares ⟨"java/lang/Exception", "<init>", "(Ljava/lang/String;)V"⟩) ∈ lw_tbl := tin_2 (List.mem_of_getElem? (i := 134) (by decide +kernel))
theorem k_375 : (Cond.declares ⟨"java/lang/Throwable", "<init>", "()V"⟩) ∈ lw_tbl := tin_2 (List.mem_of_getElem? (i := 135) (by decide +kernel))
theorem k_376 : (Cond.declares ⟨"java/lang/Throwable", "<init>", "(Ljava/lang/String;)V"⟩) ∈ lw_tbl := tin_2 (List.mem_of_getElem? (i := 136) (by decide +kernel))
theorem k_377 : (Cond.selects "java/lang/IllegalArgumentException" ⟨"java/lang/Throwable", "fillInStackTrace", "(I)Ljava/lang/Throwable;"⟩ ⟨"java/lang/Throwable", "fillInStackTrace", "(I)Ljava/lang/Throwable;"⟩) ∈ wal := wal_in (tin_2 (List.mem_of_getElem? (i := 137) (by decide +kernel))) rfl
theorem k_378 : (Cond.selects "java/lang/IllegalArgumentException" ⟨"java/lang/Throwable", "fillInStackTrace", "()Ljava/lang/Throwable;"⟩ ⟨"java/lang/Throwable", "fillInStackTrace", "()Ljava/lang/Throwable;"⟩) ∈ wal := wal_in (tin_2 (List.mem_of_getElem? (i := 138) (by decide +kernel))) rfl
theorem k_379 : (Cond.lays "java/lang/IllegalArgumentException" "java/lang/Throwable" "cause" "Ljava/lang/Throwable;") ∈ wal := wal_in (tin_2 (List.mem_of_getElem? (i := 139) (by decide +kernel))) rfl
theorem k_380 : (Cond.lays "java/lang/Throwable" "java/lang/Throwable" "cause" "Ljava/lang/Throwable;") ∈ wal := wal_in (tin_2 (List.mem_of_getElem? (i := 140) (by decide +kernel))) rfl
theorem k_381 : (Cond.lays "java/lang/IllegalArgumentException" "java/lang/Throwable" "stackTrace" "[Ljava/lang/StackTraceElement;") ∈ wal := wal_in (tin_2 (List.mem_of_getElem? (i := 141) (by decide +kernel))) rfl
theorem k_382 : (Cond.lays "java/lang/Throwable" "java/lang/Throwable" "stackTrace" "[Ljava/lang/StackTraceElement;") ∈ wal := wal_in (tin_2 (List.mem_of_getElem? (i := 142) (by decide +kernel))) rfl
theorem k_383 : (Cond.lays "java/lang/IllegalArgumentException" "java/lang/Throwable" "suppressedExceptions" "Ljava/util/List;") ∈ wal := wal_in (tin_2 (List.mem_of_getElem? (i := 143) (by decide +kernel))) rfl
theorem k_384 : (Cond.lays "java/lang/Throwable" "java/lang/Throwable" "suppressedExceptions" "Ljava/util/List;") ∈ wal := wal_in (tin_2 (List.mem_of_getElem? (i := 144) (by decide +kernel))) rfl
theorem k_385 : (Cond.lays "java/lang/IllegalArgumentException" "java/lang/Throwable" "detailMessage" "Ljava/lang/String;") ∈ wal := wal_in (tin_2 (List.mem_of_getElem? (i := 145) (by decide +kernel))) rfl
theorem k_386 : (Cond.lays "java/lang/Throwable" "java/lang/Throwable" "detailMessage" "Ljava/lang/String;") ∈ wal := wal_in (tin_2 (List.mem_of_getElem? (i := 146) (by decide +kernel))) rfl
theorem k_387 : (Cond.lays "java/lang/IllegalArgumentException" "java/lang/Throwable" "backtrace" "Ljava/lang/Object;") ∈ wal := wal_in (tin_2 (List.mem_of_getElem? (i := 147) (by decide +kernel))) rfl
theorem k_388 : (Cond.lays "java/lang/Throwable" "java/lang/Throwable" "backtrace" "Ljava/lang/Object;") ∈ wal := wal_in (tin_2 (List.mem_of_getElem? (i := 148) (by decide +kernel))) rfl
theorem k_389 : (Cond.fieldLink "java/lang/Throwable" 198 "java/lang/Throwable" "backtrace" "Ljava/lang/Object;") ∈ wal := wal_in (tin_2 (List.mem_of_getElem? (i := 149) (by decide +kernel))) rfl
theorem k_390 : (Cond.superclass "java/lang/Throwable" "java/lang/Object") ∈ wal := wal_in (tin_2 (List.mem_of_getElem? (i := 150) (by decide +kernel))) rfl
theorem k_391 : (Cond.instanceMethod ⟨"java/lang/Throwable", "<init>", "()V"⟩) ∈ wal := wal_in (tin_2 (List.mem_of_getElem? (i := 151) (by decide +kernel))) rfl
theorem k_392 : (Cond.code ⟨"java/lang/Throwable", "<init>", "()V"⟩ prog_17_method_1_code 1 none) ∈ wal := wal_in (tin_2 (List.mem_of_getElem? (i := 152) rfl)) rfl
theorem k_393 : (Cond.methodLink "java/lang/Throwable" 1 ⟨"java/lang/Object", "<init>", "()V"⟩) ∈ wal := wal_in (tin_2 (List.mem_of_getElem? (i := 153) (by decide +kernel))) rfl
theorem k_394 : (Cond.fieldLink "java/lang/Throwable" 13 "java/lang/Throwable" "UNASSIGNED_STACK" "[Ljava/lang/StackTraceElement;") ∈ wal := wal_in (tin_2 (List.mem_of_getElem? (i := 154) (by decide +kernel))) rfl
theorem k_395 : (Cond.laysStatic "java/lang/Throwable" "UNASSIGNED_STACK" "[Ljava/lang/StackTraceElement;") ∈ lw_tbl := tin_2 (List.mem_of_getElem? (i := 155) (by decide +kernel))
theorem k_396 : (Cond.fieldLink "java/lang/Throwable" 20 "java/lang/Throwable" "SUPPRESSED_SENTINEL" "Ljava/util/List;") ∈ wal := wal_in (tin_2 (List.mem_of_getElem? (i := 156) (by decide +kernel))) rfl
theorem k_397 : (Cond.laysStatic "java/lang/Throwable" "SUPPRESSED_SENTINEL" "Ljava/util/List;") ∈ lw_tbl := tin_2 (List.mem_of_getElem? (i := 157) (by decide +kernel))
theorem k_398 : (Cond.methodLink "java/lang/Throwable" 27 ⟨"java/lang/Throwable", "fillInStackTrace", "()Ljava/lang/Throwable;"⟩) ∈ wal := wal_in (tin_2 (List.mem_of_getElem? (i := 158) (by decide +kernel))) rfl
theorem k_399 : (Cond.instanceMethod ⟨"java/lang/Throwable", "fillInStackTrace", "()Ljava/lang/Throwable;"⟩) ∈ wal := wal_in (tin_2 (List.mem_of_getElem? (i := 159) (by decide +kernel))) rfl
theorem k_400 : (Cond.sameMethod "java/lang/Throwable" "java/lang/Throwable" "fillInStackTrace" "()Ljava/lang/Throwable;") ∈ lw_tbl := tin_2 (List.mem_of_getElem? (i := 160) (by decide +kernel))
theorem k_401 : (Cond.selects "java/lang/IllegalStateException" ⟨"java/lang/Throwable", "fillInStackTrace", "()Ljava/lang/Throwable;"⟩ ⟨"java/lang/Throwable", "fillInStackTrace", "()Ljava/lang/Throwable;"⟩) ∈ wal := wal_in (tin_2 (List.mem_of_getElem? (i := 161) (by decide +kernel))) rfl
theorem k_402 : (Cond.selects "java/lang/UnsupportedOperationException" ⟨"java/lang/Throwable", "fillInStackTrace", "()Ljava/lang/Throwable;"⟩ ⟨"java/lang/Throwable", "fillInStackTrace", "()Ljava/lang/Throwable;"⟩) ∈ wal := wal_in (tin_2 (List.mem_of_getElem? (i := 162) (by decide +kernel))) rfl
theorem k_403 : (Cond.codeSync ⟨"java/lang/Throwable", "fillInStackTrace", "()Ljava/lang/Throwable;"⟩ prog_17_method_18_code 1 (some (FieldType.object "java/lang/Throwable"))) ∈ lw_tbl := tin_2 (List.mem_of_getElem? (i := 163) rfl)
theorem k_404 : (Cond.methodLink "java/lang/Throwable" 202 ⟨"java/lang/Throwable", "fillInStackTrace", "(I)Ljava/lang/Throwable;"⟩) ∈ wal := wal_in (tin_2 (List.mem_of_getElem? (i := 164) (by decide +kernel))) rfl
theorem k_405 : (Cond.privateMethod ⟨"java/lang/Throwable", "fillInStackTrace", "(I)Ljava/lang/Throwable;"⟩) ∈ lw_tbl := tin_2 (List.mem_of_getElem? (i := 165) (by decide +kernel))
theorem k_406 : (Cond.instanceMethod ⟨"java/lang/Throwable", "fillInStackTrace", "(I)Ljava/lang/Throwable;"⟩) ∈ wal := wal_in (tin_2 (List.mem_of_getElem? (i := 166) (by decide +kernel))) rfl
theorem k_407 : (Cond.instantiable "java/lang/Throwable" 6) ∈ wal := wal_in (tin_2 (List.mem_of_getElem? (i := 167) (by decide +kernel))) rfl
theorem k_408 : (Cond.native ⟨"java/lang/Throwable", "fillInStackTrace", "(I)Ljava/lang/Throwable;"⟩) ∈ lw_tbl := tin_2 (List.mem_of_getElem? (i := 168) (by decide +kernel))
theorem k_409 : (Cond.stringRef rc_F 43 "the draft is no rule") ∈ lw_tbl := tin_2 (List.mem_of_getElem? (i := 169) (by decide +kernel))
theorem k_410 : (Cond.methodLink rc_F 45 ⟨"java/lang/IllegalArgumentException", "<init>", "(Ljava/lang/String;)V"⟩) ∈ wal := wal_in (tin_2 (List.mem_of_getElem? (i := 170) (by decide +kernel))) rfl
theorem k_411 : (Cond.instanceMethod ⟨"java/lang/IllegalArgumentException", "<init>", "(Ljava/lang/String;)V"⟩) ∈ wal := wal_in (tin_2 (List.mem_of_getElem? (i := 171) (by decide +kernel))) rfl
theorem k_412 : (Cond.code ⟨"java/lang/IllegalArgumentException", "<init>", "(Ljava/lang/String;)V"⟩ prog_12_method_2_code 2 none) ∈ wal := wal_in (tin_2 (List.mem_of_getElem? (i := 172) rfl)) rfl
theorem k_413 : (Cond.methodLink "java/lang/IllegalArgumentException" 7 ⟨"java/lang/RuntimeException", "<init>", "(Ljava/lang/String;)V"⟩) ∈ wal := wal_in (tin_2 (List.mem_of_getElem? (i := 173) (by decide +kernel))) rfl
theorem k_414 : (Cond.instanceMethod ⟨"java/lang/RuntimeException", "<init>", "(Ljava/lang/String;)V"⟩) ∈ wal := wal_in (tin_2 (List.mem_of_getElem? (i := 174) (by decide +kernel))) rfl
theorem k_415 : (Cond.code ⟨"java/lang/RuntimeException", "<init>", "(Ljava/lang/String;)V"⟩ prog_15_method_2_code 2 none) ∈ wal := wal_in (tin_2 (List.mem_of_getElem? (i := 175) rfl)) rfl
theorem k_416 : (Cond.methodLink "java/lang/RuntimeException" 7 ⟨"java/lang/Exception", "<init>", "(Ljava/lang/String;)V"⟩) ∈ wal := wal_in (tin_2 (List.mem_of_getElem? (i := 176) (by decide +kernel))) rfl
theorem k_417 : (Cond.instanceMethod ⟨"java/lang/Exception", "<init>", "(Ljava/lang/String;)V"⟩) ∈ wal := wal_in (tin_2 (List.mem_of_getElem? (i := 177) (by decide +kernel))) rfl
theorem k_418 : (Cond.code ⟨"java/lang/Exception", "<init>", "(Ljava/lang/String;)V"⟩ prog_11_method_2_code 2 none) ∈ wal := wal_in (tin_2 (List.mem_of_getElem? (i := 178) rfl)) rfl
theorem k_419 : (Cond.methodLink "java/lang/Exception" 7 ⟨"java/lang/Throwable", "<init>", "(Ljava/lang/String;)V"⟩) ∈ wal := wal_in (tin_2 (List.mem_of_getElem? (i := 179) (by decide +kernel))) rfl
theorem k_420 : (Cond.instanceMethod ⟨"java/lang/Throwable", "<init>", "(Ljava/lang/String;)V"⟩) ∈ wal := wal_in (tin_2 (List.mem_of_getElem? (i := 180) (by decide +kernel))) rfl
theorem k_421 : (Cond.code ⟨"java/lang/Throwable", "<init>", "(Ljava/lang/String;)V"⟩ prog_17_method_2_code 2 none) ∈ wal := wal_in (tin_2 (List.mem_of_getElem? (i := 181) rfl)) rfl
theorem k_422 : (Cond.fieldLink "java/lang/Throwable" 198 "java/lang/Throwable" "backtrace" "Ljava/lang/Object;") ∈ wal := wal_in (tin_2 (List.mem_of_getElem? (i := 182) (by decide +kernel))) rfl
theorem k_423 : (Cond.fieldLink "java/lang/Throwable" 31 "java/lang/Throwable" "detailMessage" "Ljava/lang/String;") ∈ wal := wal_in (tin_2 (List.mem_of_getElem? (i := 183) (by decide +kernel))) rfl
theorem k_424 : (Cond.fieldLink "java/lang/Throwable" 7 "java/lang/Throwable" "cause" "Ljava/lang/Throwable;") ∈ wal := wal_in (tin_2 (List.mem_of_getElem? (i := 184) (by decide +kernel))) rfl
theorem k_425 : (Cond.fieldLink "java/lang/Throwable" 17 "java/lang/Throwable" "stackTrace" "[Ljava/lang/StackTraceElement;") ∈ wal := wal_in (tin_2 (List.mem_of_getElem? (i := 185) (by decide +kernel))) rfl
theorem k_426 : (Cond.fieldLink "java/lang/Throwable" 24 "java/lang/Throwable" "suppressedExceptions" "Ljava/util/List;") ∈ wal := wal_in (tin_2 (List.mem_of_getElem? (i := 186) (by decide +kernel))) rfl
theorem k_427 : (Cond.soleField "java/lang/Throwable" "backtrace") ∈ wal := wal_in (tin_2 (List.mem_of_getElem? (i := 187) (by decide +kernel))) rfl
theorem k_428 : (Cond.soleField "java/lang/Throwable" "detailMessage") ∈ wal := wal_in (tin_2 (List.mem_of_getElem? (i := 188) (by decide +kernel))) rfl
theorem k_429 : (Cond.soleField "java/lang/Throwable" "cause") ∈ wal := wal_in (tin_2 (List.mem_of_getElem? (i := 189) (by decide +kernel))) rfl
theorem k_430 : (Cond.soleField "java/lang/Throwable" "stackTrace") ∈ wal := wal_in (tin_2 (List.mem_of_getElem? (i := 190) (by decide +kernel))) rfl
theorem k_431 : (Cond.lays "java/lang/IllegalArgumentException" "java/lang/Throwable" "depth" "I") ∈ wal := wal_in (tin_2 (List.mem_of_getElem? (i := 191) (by decide +kernel))) rfl
theorem k_432 : (Cond.soleField "java/lang/Throwable" "depth") ∈ wal := wal_in (tin_2 (List.mem_of_getElem? (i := 192) (by decide +kernel))) rfl
theorem k_433 : (Cond.soleField "java/lang/Throwable" "suppressedExceptions") ∈ wal := wal_in (tin_2 (List.mem_of_getElem? (i := 193) (by decide +kernel))) rfl
theorem k_434 : (Cond.superclass "java/lang/IllegalArgumentException" "java/lang/RuntimeException") ∈ wal := wal_in (tin_2 (List.mem_of_getElem? (i := 194) (by decide +kernel))) rfl
theorem k_435 : (Cond.arrayClass FieldType.byte) ∈ wal := wal_in (tin_2 (List.mem_of_getElem? (i := 195) (by decide +kernel))) rfl
theorem k_436 : (Cond.methodLink rc_F 48 y_B_isFull) ∈ wal := wal_in (tin_2 (List.mem_of_getElem? (i := 196) (by decide +kernel))) rfl
theorem k_437 : (Cond.instanceMethod y_B_isFull) ∈ wal := wal_in (tin_2 (List.mem_of_getElem? (i := 197) (by decide +kernel))) rfl
theorem k_438 : (Cond.selects rc_B y_B_isFull y_B_isFull) ∈ wal := wal_in (tin_2 (List.mem_of_getElem? (i := 198) (by decide +kernel))) rfl
theorem k_439 : (Cond.code y_B_isFull prog_7_method_3_code 1 (some FieldType.boolean)) ∈ wal := wal_in (tin_2 (List.mem_of_getElem? (i := 199) rfl)) rfl
theorem k_440 : (Cond.classLink rc_F 52 "java/lang/UnsupportedOperationException") ∈ wal := wal_in (tin_2 (List.mem_of_getElem? (i := 200) (by decide +kernel))) rfl
theorem k_441 : (Cond.instantiable "java/lang/UnsupportedOperationException" 6) ∈ wal := wal_in (tin_2 (List.mem_of_getElem? (i := 201) (by decide +kernel))) rfl
theorem k_442 : (Cond.castable "java/lang/UnsupportedOperationException" "java/lang/UnsupportedOperationException") ∈ lw_tbl := tin_2 (List.mem_of_getElem? (i := 202) (by decide +kernel))
theorem k_443 : (Cond.selects "java/lang/UnsupportedOperationException" ⟨"java/lang/Throwable", "fillInStackTrace", "(I)Ljava/lang/Throwable;"⟩ ⟨"java/lang/Throwable", "fillInStackTrace", "(I)Ljava/lang/Throwable;"⟩) ∈ wal := wal_in (tin_2 (List.mem_of_getElem? (i := 203) (by decide +kernel))) rfl
theorem k_444 : (Cond.lays "java/lang/UnsupportedOperationException" "java/lang/Throwable" "cause" "Ljava/lang/Throwable;") ∈ wal := wal_in (tin_2 (List.mem_of_getElem? (i := 204) (by decide +kernel))) rfl
theorem k_445 : (Cond.lays "java/lang/UnsupportedOperationException" "java/lang/Throwable" "stackTrace" "[Ljava/lang/StackTraceElement;") ∈ wal := wal_in (tin_2 (List.mem_of_getElem? (i := 205) (by decide +kernel))) rfl
theorem k_446 : (Cond.lays "java/lang/UnsupportedOperationException" "java/lang/Throwable" "suppressedExceptions" "Ljava/util/List;") ∈ wal := wal_in (tin_2 (List.mem_of_getElem? (i := 206) (by decide +kernel))) rfl
theorem k_447 : (Cond.lays "java/lang/UnsupportedOperationException" "java/lang/Throwable" "detailMessage" "Ljava/lang/String;") ∈ wal := wal_in (tin_2 (List.mem_of_getElem? (i := 207) (by decide +kernel))) rfl
theorem k_448 : (Cond.lays "java/lang/UnsupportedOperationException" "java/lang/Throwable" "backtrace" "Ljava/lang/Object;") ∈ wal := wal_in (tin_2 (List.mem_of_getElem? (i := 208) (by decide +kernel))) rfl
theorem k_449 : (Cond.stringRef rc_F 54 "there are 12 rules") ∈ lw_tbl := tin_2 (List.mem_of_getElem? (i := 209) (by decide +kernel))
theorem k_450 : (Cond.methodLink rc_F 56 ⟨"java/lang/UnsupportedOperationException", "<init>", "(Ljava/lang/String;)V"⟩) ∈ wal := wal_in (tin_2 (List.mem_of_getElem? (i := 210) (by decide +kernel))) rfl
theorem k_451 : (Cond.instanceMethod ⟨"java/lang/UnsupportedOperationException", "<init>", "(Ljava/lang/String;)V"⟩) ∈ wal := wal_in (tin_2 (List.mem_of_getElem? (i := 211) (by decide +kernel))) rfl
theorem k_452 : (Cond.code ⟨"java/lang/UnsupportedOperationException", "<init>", "(Ljava/lang/String;)V"⟩ prog_18_method_2_code 2 none) ∈ wal := wal_in (tin_2 (List.mem_of_getElem? (i := 212) rfl)) rfl
theorem k_453 : (Cond.methodLink "java/lang/UnsupportedOperationException" 7 ⟨"java/lang/RuntimeException", "<init>", "(Ljava/lang/String;)V"⟩) ∈ wal := wal_in (tin_2 (List.mem_of_getElem? (i := 213) (by decide +kernel))) rfl
theorem k_454 : (Cond.lays "java/lang/UnsupportedOperationException" "java/lang/Throwable" "depth" "I") ∈ wal := wal_in (tin_2 (List.mem_of_getElem? (i := 214) (by decide +kernel))) rfl
theorem k_455 : (Cond.superclass "java/lang/UnsupportedOperationException" "java/lang/RuntimeException") ∈ wal := wal_in (tin_2 (List.mem_of_getElem? (i := 215) (by decide +kernel))) rfl
theorem k_456 : (Cond.methodLink rc_F 57 y_B_keep) ∈ wal := wal_in (tin_2 (List.mem_of_getElem? (i := 216) (by decide +kernel))) rfl
theorem k_457 : (Cond.instanceMethod y_B_keep) ∈ wal := wal_in (tin_2 (List.mem_of_getElem? (i := 217) (by decide +kernel))) rfl
theorem k_458 : (Cond.selects rc_B y_B_keep y_B_keep) ∈ wal := wal_in (tin_2 (List.mem_of_getElem? (i := 218) (by decide +kernel))) rfl
theorem k_459 : (Cond.code y_B_keep prog_7_method_5_code 4 (some FieldType.int)) ∈ wal := wal_in (tin_2 (List.mem_of_getElem? (i := 219) rfl)) rfl
theorem k_460 : (Cond.methodLink rc_L 50 y_L_expand) ∈ wal := wal_in (tin_2 (List.mem_of_getElem? (i := 220) (by decide +kernel))) rfl
theorem k_461 : (Cond.static y_L_expand) ∈ wal := wal_in (tin_2 (List.mem_of_getElem? (i := 221) (by decide +kernel))) rfl
theorem k_462 : (Cond.codeWith y_L_expand method_4_code 4 (some FieldType.int) [(0, 9, 12, 13), (0, 9, 15, 21), (0, 9, 18, 15)]) ∈ wal := wal_in (tin_2 (List.mem_of_getElem? (i := 222) rfl)) rfl
theorem k_463 : (Cond.classLink rc_L 21 "java/lang/IllegalStateException") ∈ wal := wal_in (tin_2 (List.mem_of_getElem? (i := 223) (by decide +kernel))) rfl
theorem k_464 : (Cond.methodLink rc_L 17 y_F_expand) ∈ wal := wal_in (tin_2 (List.mem_of_getElem? (i := 224) (by decide +kernel))) rfl
theorem k_465 : (Cond.instanceMethod y_F_expand) ∈ wal := wal_in (tin_2 (List.mem_of_getElem? (i := 225) (by decide +kernel))) rfl
theorem k_466 : (Cond.selects rc_F y_F_expand y_F_expand) ∈ wal := wal_in (tin_2 (List.mem_of_getElem? (i := 226) (by decide +kernel))) rfl
theorem k_467 : (Cond.code y_F_expand prog_1_method_6_code 3 (some FieldType.int)) ∈ wal := wal_in (tin_2 (List.mem_of_getElem? (i := 227) rfl)) rfl
theorem k_468 : (Cond.methodLink rc_F 68 y_E_read) ∈ wal := wal_in (tin_2 (List.mem_of_getElem? (i := 228) (by decide +kernel))) rfl
theorem k_469 : (Cond.instanceMethod y_E_read) ∈ wal := wal_in (tin_2 (List.mem_of_getElem? (i := 229) (by decide +kernel))) rfl
theorem k_470 : (Cond.selects rc_E y_E_read y_E_read) ∈ wal := wal_in (tin_2 (List.mem_of_getElem? (i := 230) (by decide +kernel))) rfl
theorem k_471 : (Cond.code y_E_read prog_3_method_4_code 2 (some FieldType.boolean)) ∈ wal := wal_in (tin_2 (List.mem_of_getElem? (i := 231) rfl)) rfl
theorem k_472 : (Cond.methodLink rc_E 46 y_T_clear) ∈ wal := wal_in (tin_2 (List.mem_of_getElem? (i := 232) (by decide +kernel))) rfl
theorem k_473 : (Cond.methodLink rc_E 49 y_D_length) ∈ wal := wal_in (tin_2 (List.mem_of_getElem? (i := 233) (by decide +kernel))) rfl
theorem k_474 : (Cond.methodLink rc_E 55 y_T_read) ∈ wal := wal_in (tin_2 (List.mem_of_getElem? (i := 234) (by decide +kernel))) rfl
theorem k_475 : (Cond.stringRef rc_F 69 "the draft is no term, or the fuel is not 0 .. 12") ∈ lw_tbl := tin_2 (List.mem_of_getElem? (i := 235) (by decide +kernel))
theorem k_476 : (Cond.methodLink rc_F 71 y_E_run) ∈ wal := wal_in (tin_2 (List.mem_of_getElem? (i := 236) (by decide +kernel))) rfl
theorem k_477 : (Cond.instanceMethod y_E_run) ∈ wal := wal_in (tin_2 (List.mem_of_getElem? (i := 237) (by decide +kernel))) rfl
theorem k_478 : (Cond.selects rc_E y_E_run y_E_run) ∈ wal := wal_in (tin_2 (List.mem_of_getElem? (i := 238) (by decide +kernel))) rfl
theorem k_479 : (Cond.code y_E_run prog_3_method_5_code 3 (some FieldType.int)) ∈ wal := wal_in (tin_2 (List.mem_of_getElem? (i := 239) rfl)) rfl
theorem k_480 : (Cond.methodLink rc_E 69 y_S_clear) ∈ wal := wal_in (tin_3 (List.mem_of_getElem? (i := 0) (by decide +kernel))) rfl
theorem k_481 : (Cond.instanceMethod y_S_clear) ∈ wal := wal_in (tin_3 (List.mem_of_getElem? (i := 1) (by decide +kernel))) rfl
theorem k_482 : (Cond.selects rc_S y_S_clear y_S_clear) ∈ wal := wal_in (tin_3 (List.mem_of_getElem? (i := 2) (by decide +kernel))) rfl
theorem k_483 : (Cond.code y_S_clear prog_5_method_2_code 1 none) ∈ wal := wal_in (tin_3 (List.mem_of_getElem? (i := 3) rfl)) rfl
theorem k_484 : (Cond.methodLink rc_E 70 y_E_expression) ∈ wal := wal_in (tin_3 (List.mem_of_getElem? (i := 4) (by decide +kernel))) rfl

theorem d_O_rule_195 : decode b_O_rule 195 = .ok (.aload_n 0, 1) := by decide +kernel
theorem d_O_rule_196 : decode b_O_rule 196 = .ok (.getfield 29, 3) := by decide +kernel
theorem d_O_rule_199 : decode b_O_rule 199 = .ok (.bipush 64, 2) := by decide +kernel
theorem d_O_rule_201 : decode b_O_rule 201 = .ok (.aload_n 0, 1) := by decide +kernel
theorem d_O_rule_202 : decode b_O_rule 202 = .ok (.getfield 150, 3) := by decide +kernel
theorem d_O_rule_205 : decode b_O_rule 205 = .ok (.imul, 1) := by decide +kernel
theorem d_O_rule_206 : decode b_O_rule 206 = .ok (.aload_n 0, 1) := by decide +kernel
theorem d_O_rule_207 : decode b_O_rule 207 = .ok (.getfield 79, 3) := by decide +kernel
theorem d_O_rule_210 : decode b_O_rule 210 = .ok (.iadd, 1) := by decide +kernel
theorem d_O_rule_211 : decode b_O_rule 211 = .ok (.iload_n 2, 1) := by decide +kernel
theorem d_O_rule_212 : decode b_O_rule 212 = .ok (.isub, 1) := by decide +kernel
theorem d_O_rule_213 : decode b_O_rule 213 = .ok (.iconst 1, 1) := by decide +kernel
theorem d_O_rule_214 : decode b_O_rule 214 = .ok (.isub, 1) := by decide +kernel
theorem d_O_rule_215 : decode b_O_rule 215 = .ok (.iconst 0, 1) := by decide +kernel
theorem d_O_rule_216 : decode b_O_rule 216 = .ok (.iastore, 1) := by decide +kernel
theorem d_O_rule_217 : decode b_O_rule 217 = .ok (.aload_n 0, 1) := by decide +kernel
theorem d_O_rule_218 : decode b_O_rule 218 = .ok (.getfield 32, 3) := by decide +kernel
theorem d_O_rule_221 : decode b_O_rule 221 = .ok (.aload_n 0, 1) := by decide +kernel
theorem d_O_rule_222 : decode b_O_rule 222 = .ok (.getfield 150, 3) := by decide +kernel
theorem d_O_rule_225 : decode b_O_rule 225 = .ok (.aload_n 0, 1) := by decide +kernel
theorem d_O_rule_226 : decode b_O_rule 226 = .ok (.getfield 110, 3) := by decide +kernel
theorem d_O_rule_229 : decode b_O_rule 229 = .ok (.iastore, 1) := by decide +kernel
theorem d_O_rule_230 : decode b_O_rule 230 = .ok (.aload_n 0, 1) := by decide +kernel
theorem d_O_rule_231 : decode b_O_rule 231 = .ok (.getfield 35, 3) := by decide +kernel
theorem d_O_rule_234 : decode b_O_rule 234 = .ok (.aload_n 0, 1) := by decide +kernel
theorem d_O_rule_235 : decode b_O_rule 235 = .ok (.getfield 150, 3) := by decide +kernel
theorem d_O_rule_238 : decode b_O_rule 238 = .ok (.aload_n 0, 1) := by decide +kernel
theorem d_O_rule_239 : decode b_O_rule 239 = .ok (.getfield 117, 3) := by decide +kernel
theorem d_O_rule_242 : decode b_O_rule 242 = .ok (.iastore, 1) := by decide +kernel
theorem d_O_rule_243 : decode b_O_rule 243 = .ok (.aload_n 0, 1) := by decide +kernel
theorem d_O_rule_244 : decode b_O_rule 244 = .ok (.dup, 1) := by decide +kernel
theorem d_O_rule_245 : decode b_O_rule 245 = .ok (.getfield 150, 3) := by decide +kernel
theorem d_O_rule_248 : decode b_O_rule 248 = .ok (.iconst 1, 1) := by decide +kernel
theorem d_O_rule_249 : decode b_O_rule 249 = .ok (.iadd, 1) := by decide +kernel
theorem d_O_rule_250 : decode b_O_rule 250 = .ok (.putfield 150, 3) := by decide +kernel
theorem d_O_rule_253 : decode b_O_rule 253 = .ok (.aload_n 0, 1) := by decide +kernel
theorem d_O_rule_254 : decode b_O_rule 254 = .ok (.aload_n 0, 1) := by decide +kernel
theorem d_O_rule_255 : decode b_O_rule 255 = .ok (.getfield 17, 3) := by decide +kernel
theorem d_O_rule_258 : decode b_O_rule 258 = .ok (.aload_n 0, 1) := by decide +kernel
theorem d_O_rule_259 : decode b_O_rule 259 = .ok (.getfield 150, 3) := by decide +kernel
theorem d_O_rule_262 : decode b_O_rule 262 = .ok (.iconst 1, 1) := by decide +kernel
theorem d_O_rule_263 : decode b_O_rule 263 = .ok (.isub, 1) := by decide +kernel
theorem d_O_rule_264 : decode b_O_rule 264 = .ok (.iaload, 1) := by decide +kernel
theorem d_O_rule_265 : decode b_O_rule 265 = .ok (.invokevirtual 166, 3) := by decide +kernel
theorem d_O_rule_268 : decode b_O_rule 268 = .ok (.ireturn, 1) := by decide +kernel
theorem d_O_takeDraft_0 : decode b_O_takeDraft 0 = .ok (.aload_n 0, 1) := by decide +kernel
theorem d_O_takeDraft_1 : decode b_O_takeDraft 1 = .ok (.iconst 0, 1) := by decide +kernel
theorem d_O_takeDraft_2 : decode b_O_takeDraft 2 = .ok (.putfield 79, 3) := by decide +kernel
theorem d_O_takeDraft_5 : decode b_O_takeDraft 5 = .ok (.iconst 1, 1) := by decide +kernel
theorem d_O_takeDraft_6 : decode b_O_takeDraft 6 = .ok (.istore_n 1, 1) := by decide +kernel
theorem d_O_takeDraft_7 : decode b_O_takeDraft 7 = .ok (.iconst 0, 1) := by decide +kernel
theorem d_O_takeDraft_8 : decode b_O_takeDraft 8 = .ok (.istore_n 2, 1) := by decide +kernel
theorem d_O_takeDraft_9 : decode b_O_takeDraft 9 = .ok (.iload_n 2, 1) := by decide +kernel
theorem d_O_takeDraft_10 : decode b_O_takeDraft 10 = .ok (.aload_n 0, 1) := by decide +kernel
theorem d_O_takeDraft_11 : decode b_O_takeDraft 11 = .ok (.getfield 76, 3) := by decide +kernel
theorem d_O_takeDraft_14 : decode b_O_takeDraft 14 = .ok (.if_icmp .ge 67, 3) := by decide +kernel
theorem d_O_takeDraft_17 : decode b_O_takeDraft 17 = .ok (.aload_n 0, 1) := by decide +kernel
theorem d_O_takeDraft_18 : decode b_O_takeDraft 18 = .ok (.getfield 7, 3) := by decide +kernel
theorem d_O_takeDraft_21 : decode b_O_takeDraft 21 = .ok (.iload_n 2, 1) := by decide +kernel
theorem d_O_takeDraft_22 : decode b_O_takeDraft 22 = .ok (.caload, 1) := by decide +kernel
theorem d_O_takeDraft_23 : decode b_O_takeDraft 23 = .ok (.bipush 32, 2) := by decide +kernel
theorem d_O_takeDraft_25 : decode b_O_takeDraft 25 = .ok (.if_icmp .ne 6, 3) := by decide +kernel
theorem d_O_takeDraft_28 : decode b_O_takeDraft 28 = .ok (.goto 47, 3) := by decide +kernel
theorem d_O_takeDraft_31 : decode b_O_takeDraft 31 = .ok (.aload_n 0, 1) := by decide +kernel
theorem d_O_takeDraft_32 : decode b_O_takeDraft 32 = .ok (.getfield 7, 3) := by decide +kernel
theorem d_O_takeDraft_35 : decode b_O_takeDraft 35 = .ok (.iload_n 2, 1) := by decide +kernel
theorem d_O_takeDraft_36 : decode b_O_takeDraft 36 = .ok (.caload, 1) := by decide +kernel
theorem d_O_takeDraft_37 : decode b_O_takeDraft 37 = .ok (.invokestatic 82, 3) := by decide +kernel
theorem d_O_takeDraft_40 : decode b_O_takeDraft 40 = .ok (.istore_n 3, 1) := by decide +kernel
theorem d_O_takeDraft_41 : decode b_O_takeDraft 41 = .ok (.iload_n 1, 1) := by decide +kernel
theorem d_O_takeDraft_42 : decode b_O_takeDraft 42 = .ok (.ifCond .eq 11, 3) := by decide +kernel
theorem d_O_takeDraft_45 : decode b_O_takeDraft 45 = .ok (.iload_n 3, 1) := by decide +kernel
theorem d_O_takeDraft_46 : decode b_O_takeDraft 46 = .ok (.ifCond .eq 7, 3) := by decide +kernel
theorem d_O_takeDraft_49 : decode b_O_takeDraft 49 = .ok (.iconst 1, 1) := by decide +kernel
theorem d_O_takeDraft_50 : decode b_O_takeDraft 50 = .ok (.goto 4, 3) := by decide +kernel
theorem d_O_takeDraft_53 : decode b_O_takeDraft 53 = .ok (.iconst 0, 1) := by decide +kernel
theorem d_O_takeDraft_54 : decode b_O_takeDraft 54 = .ok (.istore_n 1, 1) := by decide +kernel
theorem d_O_takeDraft_55 : decode b_O_takeDraft 55 = .ok (.aload_n 0, 1) := by decide +kernel
theorem d_O_takeDraft_56 : decode b_O_takeDraft 56 = .ok (.getfield 13, 3) := by decide +kernel
theorem d_O_takeDraft_59 : decode b_O_takeDraft 59 = .ok (.aload_n 0, 1) := by decide +kernel
theorem d_O_takeDraft_60 : decode b_O_takeDraft 60 = .ok (.getfield 79, 3) := by decide +kernel
theorem d_O_takeDraft_63 : decode b_O_takeDraft 63 = .ok (.iload_n 3, 1) := by decide +kernel
theorem d_O_takeDraft_64 : decode b_O_takeDraft 64 = .ok (.iastore, 1) := by decide +kernel
theorem d_O_takeDraft_65 : decode b_O_takeDraft 65 = .ok (.aload_n 0, 1) := by decide +kernel
theorem d_O_takeDraft_66 : decode b_O_takeDraft 66 = .ok (.dup, 1) := by decide +kernel
theorem d_O_takeDraft_67 : decode b_O_takeDraft 67 = .ok (.getfield 79, 3) := by decide +kernel
theorem d_O_takeDraft_70 : decode b_O_takeDraft 70 = .ok (.iconst 1, 1) := by decide +kernel
theorem d_O_takeDraft_71 : decode b_O_takeDraft 71 = .ok (.iadd, 1) := by decide +kernel
theorem d_O_takeDraft_72 : decode b_O_takeDraft 72 = .ok (.putfield 79, 3) := by decide +kernel
theorem d_O_takeDraft_75 : decode b_O_takeDraft 75 = .ok (.iinc 2 1, 3) := by decide +kernel
theorem d_O_takeDraft_78 : decode b_O_takeDraft 78 = .ok (.goto (-69), 3) := by decide +kernel
theorem d_O_takeDraft_81 : decode b_O_takeDraft 81 = .ok (.aload_n 0, 1) := by decide +kernel
theorem d_O_takeDraft_82 : decode b_O_takeDraft 82 = .ok (.iconst 0, 1) := by decide +kernel
theorem d_O_takeDraft_83 : decode b_O_takeDraft 83 = .ok (.putfield 76, 3) := by decide +kernel
theorem d_O_takeDraft_86 : decode b_O_takeDraft 86 = .ok (.aload_n 0, 1) := by decide +kernel
theorem d_O_takeDraft_87 : decode b_O_takeDraft 87 = .ok (.getfield 13, 3) := by decide +kernel
theorem d_O_takeDraft_90 : decode b_O_takeDraft 90 = .ok (.aload_n 0, 1) := by decide +kernel
theorem d_O_takeDraft_91 : decode b_O_takeDraft 91 = .ok (.getfield 79, 3) := by decide +kernel
theorem d_O_takeDraft_94 : decode b_O_takeDraft 94 = .ok (.iconst 0, 1) := by decide +kernel
theorem d_O_takeDraft_95 : decode b_O_takeDraft 95 = .ok (.iastore, 1) := by decide +kernel
theorem d_O_takeDraft_96 : decode b_O_takeDraft 96 = .ok (.iload_n 1, 1) := by decide +kernel
theorem d_O_takeDraft_97 : decode b_O_takeDraft 97 = .ok (.ireturn, 1) := by decide +kernel
theorem d_O_patternEnd_0 : decode b_O_patternEnd 0 = .ok (.aload_n 0, 1) := by decide +kernel
theorem d_O_patternEnd_1 : decode b_O_patternEnd 1 = .ok (.iconst 0, 1) := by decide +kernel
theorem d_O_patternEnd_2 : decode b_O_patternEnd 2 = .ok (.putfield 110, 3) := by decide +kernel
theorem d_O_patternEnd_5 : decode b_O_patternEnd 5 = .ok (.aload_n 0, 1) := by decide +kernel
theorem d_O_patternEnd_6 : decode b_O_patternEnd 6 = .ok (.iconst 0, 1) := by decide +kernel
theorem d_O_patternEnd_7 : decode b_O_patternEnd 7 = .ok (.putfield 117, 3) := by decide +kernel
theorem d_O_patternEnd_10 : decode b_O_patternEnd 10 = .ok (.aload_n 0, 1) := by decide +kernel
theorem d_O_patternEnd_11 : decode b_O_patternEnd 11 = .ok (.invokevirtual 137, 3) := by decide +kernel
theorem d_O_patternEnd_14 : decode b_O_patternEnd 14 = .ok (.aload_n 0, 1) := by decide +kernel
theorem d_O_patternEnd_15 : decode b_O_patternEnd 15 = .ok (.getfield 79, 3) := by decide +kernel
theorem d_O_patternEnd_18 : decode b_O_patternEnd 18 = .ok (.iconst 2, 1) := by decide +kernel
theorem d_O_patternEnd_19 : decode b_O_patternEnd 19 = .ok (.if_icmp .lt 25, 3) := by decide +kernel
theorem d_O_patternEnd_22 : decode b_O_patternEnd 22 = .ok (.aload_n 0, 1) := by decide +kernel
theorem d_O_patternEnd_23 : decode b_O_patternEnd 23 = .ok (.getfield 13, 3) := by decide +kernel
theorem d_O_patternEnd_26 : decode b_O_patternEnd 26 = .ok (.iconst 0, 1) := by decide +kernel
theorem d_O_patternEnd_27 : decode b_O_patternEnd 27 = .ok (.iaload, 1) := by decide +kernel
theorem d_O_patternEnd_28 : decode b_O_patternEnd 28 = .ok (.iconst 1, 1) := by decide +kernel
theorem d_O_patternEnd_29 : decode b_O_patternEnd 29 = .ok (.if_icmp .ne 15, 3) := by decide +kernel
theorem d_O_patternEnd_32 : decode b_O_patternEnd 32 = .ok (.aload_n 0, 1) := by decide +kernel
theorem d_O_patternEnd_33 : decode b_O_patternEnd 33 = .ok (.getfield 13, 3) := by decide +kernel
theorem d_O_patternEnd_36 : decode b_O_patternEnd 36 = .ok (.iconst 1, 1) := by decide +kernel
theorem d_O_patternEnd_37 : decode b_O_patternEnd 37 = .ok (.iaload, 1) := by decide +kernel
theorem d_O_patternEnd_38 : decode b_O_patternEnd 38 = .ok (.invokestatic 86, 3) := by decide +kernel
theorem d_O_patternEnd_41 : decode b_O_patternEnd 41 = .ok (.ifCond .ne 5, 3) := by decide +kernel
theorem d_O_patternEnd_44 : decode b_O_patternEnd 44 = .ok (.iconst (-1), 1) := by decide +kernel
theorem d_O_patternEnd_45 : decode b_O_patternEnd 45 = .ok (.ireturn, 1) := by decide +kernel
theorem d_O_patternEnd_46 : decode b_O_patternEnd 46 = .ok (.aload_n 0, 1) := by decide +kernel
theorem d_O_patternEnd_47 : decode b_O_patternEnd 47 = .ok (.iconst 0, 1) := by decide +kernel
theorem d_O_patternEnd_48 : decode b_O_patternEnd 48 = .ok (.invokevirtual 120, 3) := by decide +kernel
theorem d_O_patternEnd_51 : decode b_O_patternEnd 51 = .ok (.pop, 1) := by decide +kernel
theorem d_O_patternEnd_52 : decode b_O_patternEnd 52 = .ok (.iconst 2, 1) := by decide +kernel
theorem d_O_patternEnd_53 : decode b_O_patternEnd 53 = .ok (.istore_n 1, 1) := by decide +kernel
theorem d_O_patternEnd_54 : decode b_O_patternEnd 54 = .ok (.aload_n 0, 1) := by decide +kernel
theorem d_O_patternEnd_55 : decode b_O_patternEnd 55 = .ok (.getfield 96, 3) := by decide +kernel
theorem d_O_patternEnd_58 : decode b_O_patternEnd 58 = .ok (.ifCond .le 27, 3) := by decide +kernel
theorem d_O_patternEnd_61 : decode b_O_patternEnd 61 = .ok (.iload_n 1, 1) := by decide +kernel
theorem d_O_patternEnd_62 : decode b_O_patternEnd 62 = .ok (.aload_n 0, 1) := by decide +kernel
theorem d_O_patternEnd_63 : decode b_O_patternEnd 63 = .ok (.getfield 79, 3) := by decide +kernel
theorem d_O_patternEnd_66 : decode b_O_patternEnd 66 = .ok (.if_icmp .ge 11, 3) := by decide +kernel
theorem d_O_patternEnd_69 : decode b_O_patternEnd 69 = .ok (.aload_n 0, 1) := by decide +kernel
theorem d_O_patternEnd_70 : decode b_O_patternEnd 70 = .ok (.iload_n 1, 1) := by decide +kernel
theorem d_O_patternEnd_71 : decode b_O_patternEnd 71 = .ok (.invokevirtual 140, 3) := by decide +kernel
theorem d_O_patternEnd_74 : decode b_O_patternEnd 74 = .ok (.ifCond .ne 5, 3) := by decide +kernel
theorem d_O_patternEnd_77 : decode b_O_patternEnd 77 = .ok (.iconst (-1), 1) := by decide +kernel
theorem d_O_patternEnd_78 : decode b_O_patternEnd 78 = .ok (.ireturn, 1) := by decide +kernel
theorem d_O_patternEnd_79 : decode b_O_patternEnd 79 = .ok (.iinc 1 1, 3) := by decide +kernel
theorem d_O_patternEnd_82 : decode b_O_patternEnd 82 = .ok (.goto (-28), 3) := by decide +kernel
theorem d_O_patternEnd_85 : decode b_O_patternEnd 85 = .ok (.aload_n 0, 1) := by decide +kernel
theorem d_O_patternEnd_86 : decode b_O_patternEnd 86 = .ok (.dup, 1) := by decide +kernel
theorem d_O_patternEnd_87 : decode b_O_patternEnd 87 = .ok (.getfield 110, 3) := by decide +kernel
theorem d_O_patternEnd_90 : decode b_O_patternEnd 90 = .ok (.aload_n 0, 1) := by decide +kernel
theorem d_O_patternEnd_91 : decode b_O_patternEnd 91 = .ok (.getfield 117, 3) := by decide +kernel
theorem d_O_patternEnd_94 : decode b_O_patternEnd 94 = .ok (.iconst (-1), 1) := by decide +kernel
theorem d_O_patternEnd_95 : decode b_O_patternEnd 95 = .ok (.ixor, 1) := by decide +kernel
theorem d_O_patternEnd_96 : decode b_O_patternEnd 96 = .ok (.iand, 1) := by decide +kernel
theorem d_O_patternEnd_97 : decode b_O_patternEnd 97 = .ok (.putfield 110, 3) := by decide +kernel
theorem d_O_patternEnd_100 : decode b_O_patternEnd 100 = .ok (.iload_n 1, 1) := by decide +kernel
theorem d_O_patternEnd_101 : decode b_O_patternEnd 101 = .ok (.ireturn, 1) := by decide +kernel
theorem d_O_beginLists_0 : decode b_O_beginLists 0 = .ok (.aload_n 0, 1) := by decide +kernel
theorem d_O_beginLists_1 : decode b_O_beginLists 1 = .ok (.iconst 0, 1) := by decide +kernel
theorem d_O_beginLists_2 : decode b_O_beginLists 2 = .ok (.putfield 96, 3) := by decide +kernel
theorem d_O_beginLists_5 : decode b_O_beginLists 5 = .ok (.aload_n 0, 1) := by decide +kernel
theorem d_O_beginLists_6 : decode b_O_beginLists 6 = .ok (.iconst (-1), 1) := by decide +kernel
theorem d_O_beginLists_7 : decode b_O_beginLists 7 = .ok (.putfield 99, 3) := by decide +kernel
theorem d_O_beginLists_10 : decode b_O_beginLists 10 = .ok (.aload_n 0, 1) := by decide +kernel
theorem d_O_beginLists_11 : decode b_O_beginLists 11 = .ok (.iconst 0, 1) := by decide +kernel
theorem d_O_beginLists_12 : decode b_O_beginLists 12 = .ok (.putfield 102, 3) := by decide +kernel
theorem d_O_beginLists_15 : decode b_O_beginLists 15 = .ok (.return_, 1) := by decide +kernel
theorem d_O_isName_0 : decode b_O_isName 0 = .ok (.iload_n 0, 1) := by decide +kernel
theorem d_O_isName_1 : decode b_O_isName 1 = .ok (.bipush 100, 2) := by decide +kernel
theorem d_O_isName_3 : decode b_O_isName 3 = .ok (.if_icmp .lt 7, 3) := by decide +kernel
theorem d_O_isName_6 : decode b_O_isName 6 = .ok (.iconst 1, 1) := by decide +kernel
theorem d_O_isName_7 : decode b_O_isName 7 = .ok (.goto 4, 3) := by decide +kernel
theorem d_O_isName_10 : decode b_O_isName 10 = .ok (.iconst 0, 1) := by decide +kernel
theorem d_O_isName_11 : decode b_O_isName 11 = .ok (.ireturn, 1) := by decide +kernel
theorem d_O_isNumeral_0 : decode b_O_isNumeral 0 = .ok (.iload_n 0, 1) := by decide +kernel
theorem d_O_isNumeral_1 : decode b_O_isNumeral 1 = .ok (.bipush 10, 2) := by decide +kernel
theorem d_O_isNumeral_3 : decode b_O_isNumeral 3 = .ok (.if_icmp .lt 13, 3) := by decide +kernel
theorem d_O_isNumeral_6 : decode b_O_isNumeral 6 = .ok (.iload_n 0, 1) := by decide +kernel
theorem d_O_isNumeral_7 : decode b_O_isNumeral 7 = .ok (.bipush 100, 2) := by decide +kernel
theorem d_O_isNumeral_9 : decode b_O_isNumeral 9 = .ok (.if_icmp .ge 7, 3) := by decide +kernel
theorem d_O_isNumeral_12 : decode b_O_isNumeral 12 = .ok (.iconst 1, 1) := by decide +kernel
theorem d_O_isNumeral_13 : decode b_O_isNumeral 13 = .ok (.goto 4, 3) := by decide +kernel
theorem d_O_isNumeral_16 : decode b_O_isNumeral 16 = .ok (.iconst 0, 1) := by decide +kernel
theorem d_O_isNumeral_17 : decode b_O_isNumeral 17 = .ok (.ireturn, 1) := by decide +kernel
theorem d_O_isKeyword_0 : decode b_O_isKeyword 0 = .ok (.iload_n 0, 1) := by decide +kernel
theorem d_O_isKeyword_1 : decode b_O_isKeyword 1 = .ok (.iconst 3, 1) := by decide +kernel
theorem d_O_isKeyword_2 : decode b_O_isKeyword 2 = .ok (.if_icmp .lt 12, 3) := by decide +kernel
theorem d_O_isKeyword_5 : decode b_O_isKeyword 5 = .ok (.iload_n 0, 1) := by decide +kernel
theorem d_O_isKeyword_6 : decode b_O_isKeyword 6 = .ok (.iconst 5, 1) := by decide +kernel
theorem d_O_isKeyword_7 : decode b_O_isKeyword 7 = .ok (.if_icmp .gt 7, 3) := by decide +kernel
theorem d_O_isKeyword_10 : decode b_O_isKeyword 10 = .ok (.iconst 1, 1) := by decide +kernel
theorem d_O_isKeyword_11 : decode b_O_isKeyword 11 = .ok (.goto 4, 3) := by decide +kernel
theorem d_O_isKeyword_14 : decode b_O_isKeyword 14 = .ok (.iconst 0, 1) := by decide +kernel
theorem d_O_isKeyword_15 : decode b_O_isKeyword 15 = .ok (.ireturn, 1) := by decide +kernel
theorem d_O_fail_0 : decode b_O_fail 0 = .ok (.aload_n 0, 1) := by decide +kernel
theorem d_O_fail_1 : decode b_O_fail 1 = .ok (.iload_n 1, 1) := by decide +kernel
theorem d_O_fail_2 : decode b_O_fail 2 = .ok (.putfield 72, 3) := by decide +kernel
theorem d_O_fail_5 : decode b_O_fail 5 = .ok (.iconst 0, 1) := by decide +kernel
theorem d_O_fail_6 : decode b_O_fail 6 = .ok (.ireturn, 1) := by decide +kernel
theorem d_O_forget_0 : decode b_O_forget 0 = .ok (.aload_n 0, 1) := by decide +kernel
theorem d_O_forget_1 : decode b_O_forget 1 = .ok (.iconst 0, 1) := by decide +kernel
theorem d_O_forget_2 : decode b_O_forget 2 = .ok (.putfield 72, 3) := by decide +kernel
theorem d_O_forget_5 : decode b_O_forget 5 = .ok (.iconst 0, 1) := by decide +kernel
theorem d_O_forget_6 : decode b_O_forget 6 = .ok (.istore_n 2, 1) := by decide +kernel
theorem d_O_forget_7 : decode b_O_forget 7 = .ok (.iconst 0, 1) := by decide +kernel
theorem d_O_forget_8 : decode b_O_forget 8 = .ok (.istore_n 3, 1) := by decide +kernel
theorem d_O_forget_9 : decode b_O_forget 9 = .ok (.iload_n 3, 1) := by decide +kernel
theorem d_O_forget_10 : decode b_O_forget 10 = .ok (.aload_n 0, 1) := by decide +kernel
theorem d_O_forget_11 : decode b_O_forget 11 = .ok (.getfield 150, 3) := by decide +kernel
theorem d_O_forget_14 : decode b_O_forget 14 = .ok (.if_icmp .ge 34, 3) := by decide +kernel
theorem d_O_forget_17 : decode b_O_forget 17 = .ok (.aload_n 0, 1) := by decide +kernel
theorem d_O_forget_18 : decode b_O_forget 18 = .ok (.getfield 17, 3) := by decide +kernel
theorem d_O_forget_21 : decode b_O_forget 21 = .ok (.iload_n 3, 1) := by decide +kernel
theorem d_O_forget_22 : decode b_O_forget 22 = .ok (.iaload, 1) := by decide +kernel
theorem d_O_forget_23 : decode b_O_forget 23 = .ok (.iload_n 1, 1) := by decide +kernel
theorem d_O_forget_24 : decode b_O_forget 24 = .ok (.bipush 97, 2) := by decide +kernel
theorem d_O_forget_26 : decode b_O_forget 26 = .ok (.isub, 1) := by decide +kernel
theorem d_O_forget_27 : decode b_O_forget 27 = .ok (.if_icmp .ne 6, 3) := by decide +kernel
theorem d_O_forget_30 : decode b_O_forget 30 = .ok (.goto 12, 3) := by decide +kernel
theorem d_O_forget_33 : decode b_O_forget 33 = .ok (.aload_n 0, 1) := by decide +kernel
theorem d_O_forget_34 : decode b_O_forget 34 = .ok (.iload_n 2, 1) := by decide +kernel
theorem d_O_forget_35 : decode b_O_forget 35 = .ok (.iload_n 3, 1) := by decide +kernel
theorem d_O_forget_36 : decode b_O_forget 36 = .ok (.invokevirtual 169, 3) := by decide +kernel
theorem d_O_forget_39 : decode b_O_forget 39 = .ok (.iinc 2 1, 3) := by decide +kernel
theorem d_O_forget_42 : decode b_O_forget 42 = .ok (.iinc 3 1, 3) := by decide +kernel
theorem d_O_forget_45 : decode b_O_forget 45 = .ok (.goto (-36), 3) := by decide +kernel
theorem d_O_forget_48 : decode b_O_forget 48 = .ok (.aload_n 0, 1) := by decide +kernel
theorem d_O_forget_49 : decode b_O_forget 49 = .ok (.getfield 150, 3) := by decide +kernel
theorem d_O_forget_52 : decode b_O_forget 52 = .ok (.iload_n 2, 1) := by decide +kernel
theorem d_O_forget_53 : decode b_O_forget 53 = .ok (.isub, 1) := by decide +kernel
theorem d_O_forget_54 : decode b_O_forget 54 = .ok (.istore_n 3, 1) := by decide +kernel
theorem d_O_forget_55 : decode b_O_forget 55 = .ok (.aload_n 0, 1) := by decide +kernel
theorem d_O_forget_56 : decode b_O_forget 56 = .ok (.iload_n 2, 1) := by decide +kernel
theorem d_O_forget_57 : decode b_O_forget 57 = .ok (.putfield 150, 3) := by decide +kernel
theorem d_O_forget_60 : decode b_O_forget 60 = .ok (.iload_n 3, 1) := by decide +kernel
theorem d_O_forget_61 : decode b_O_forget 61 = .ok (.ireturn, 1) := by decide +kernel
theorem d_O_rules_0 : decode b_O_rules 0 = .ok (.aload_n 0, 1) := by decide +kernel
theorem d_O_rules_1 : decode b_O_rules 1 = .ok (.iconst 0, 1) := by decide +kernel
theorem d_O_rules_2 : decode b_O_rules 2 = .ok (.putfield 72, 3) := by decide +kernel
theorem d_O_rules_5 : decode b_O_rules 5 = .ok (.aload_n 0, 1) := by decide +kernel
theorem d_O_rules_6 : decode b_O_rules 6 = .ok (.getfield 150, 3) := by decide +kernel
theorem d_O_rules_9 : decode b_O_rules 9 = .ok (.ireturn, 1) := by decide +kernel
theorem d_O_expand_0 : decode b_O_expand 0 = .ok (.aload_n 0, 1) := by decide +kernel
theorem d_O_expand_1 : decode b_O_expand 1 = .ok (.iconst 0, 1) := by decide +kernel
theorem d_O_expand_2 : decode b_O_expand 2 = .ok (.putfield 72, 3) := by decide +kernel
theorem d_O_expand_5 : decode b_O_expand 5 = .ok (.aload_n 0, 1) := by decide +kernel
theorem d_O_expand_6 : decode b_O_expand 6 = .ok (.invokevirtual 153, 3) := by decide +kernel
theorem d_O_expand_9 : decode b_O_expand 9 = .ok (.istore_n 2, 1) := by decide +kernel
theorem d_O_expand_10 : decode b_O_expand 10 = .ok (.iload_n 2, 1) := by decide +kernel
theorem d_O_expand_11 : decode b_O_expand 11 = .ok (.ifCond .eq 25, 3) := by decide +kernel
theorem d_O_expand_14 : decode b_O_expand 14 = .ok (.aload_n 0, 1) := by decide +kernel
theorem d_O_expand_15 : decode b_O_expand 15 = .ok (.iconst 0, 1) := by decide +kernel
theorem d_O_expand_16 : decode b_O_expand 16 = .ok (.invokevirtual 270, 3) := by decide +kernel
theorem d_O_expand_19 : decode b_O_expand 19 = .ok (.aload_n 0, 1) := by decide +kernel
theorem d_O_expand_20 : decode b_O_expand 20 = .ok (.getfield 79, 3) := by decide +kernel
theorem d_O_expand_23 : decode b_O_expand 23 = .ok (.if_icmp .ne 13, 3) := by decide +kernel
theorem d_O_expand_26 : decode b_O_expand 26 = .ok (.iload_n 1, 1) := by decide +kernel
theorem d_O_expand_27 : decode b_O_expand 27 = .ok (.ifCond .lt 9, 3) := by decide +kernel
theorem d_O_expand_30 : decode b_O_expand 30 = .ok (.iload_n 1, 1) := by decide +kernel
theorem d_O_expand_31 : decode b_O_expand 31 = .ok (.bipush 12, 2) := by decide +kernel
theorem d_O_expand_33 : decode b_O_expand 33 = .ok (.if_icmp .le 9, 3) := by decide +kernel
theorem d_O_expand_36 : decode b_O_expand 36 = .ok (.aload_n 0, 1) := by decide +kernel
theorem d_O_expand_37 : decode b_O_expand 37 = .ok (.iconst 1, 1) := by decide +kernel
theorem d_O_expand_38 : decode b_O_expand 38 = .ok (.invokevirtual 160, 3) := by decide +kernel
theorem d_O_expand_41 : decode b_O_expand 41 = .ok (.ireturn, 1) := by decide +kernel
theorem d_O_expand_42 : decode b_O_expand 42 = .ok (.iconst 0, 1) := by decide +kernel
theorem d_O_expand_43 : decode b_O_expand 43 = .ok (.istore_n 3, 1) := by decide +kernel
theorem d_O_expand_44 : decode b_O_expand 44 = .ok (.iload_n 3, 1) := by decide +kernel
theorem d_O_expand_45 : decode b_O_expand 45 = .ok (.aload_n 0, 1) := by decide +kernel
theorem d_O_expand_46 : decode b_O_expand 46 = .ok (.getfield 79, 3) := by decide +kernel
theorem d_O_expand_49 : decode b_O_expand 49 = .ok (.if_icmp .ge 21, 3) := by decide +kernel
theorem d_O_expand_52 : decode b_O_expand 52 = .ok (.aload_n 0, 1) := by decide +kernel
theorem d_O_expand_53 : decode b_O_expand 53 = .ok (.getfield 48, 3) := by decide +kernel
theorem d_O_expand_56 : decode b_O_expand 56 = .ok (.iload_n 3, 1) := by decide +kernel
theorem d_O_expand_57 : decode b_O_expand 57 = .ok (.aload_n 0, 1) := by decide +kernel
theorem d_O_expand_58 : decode b_O_expand 58 = .ok (.getfield 13, 3) := by decide +kernel
theorem d_O_expand_61 : decode b_O_expand 61 = .ok (.iload_n 3, 1) := by decide +kernel
theorem d_O_expand_62 : decode b_O_expand 62 = .ok (.iaload, 1) := by decide +kernel
theorem d_O_expand_63 : decode b_O_expand 63 = .ok (.iastore, 1) := by decide +kernel
theorem d_O_expand_64 : decode b_O_expand 64 = .ok (.iinc 3 1, 3) := by decide +kernel
theorem d_O_expand_67 : decode b_O_expand 67 = .ok (.goto (-23), 3) := by decide +kernel
theorem d_O_expand_70 : decode b_O_expand 70 = .ok (.aload_n 0, 1) := by decide +kernel
theorem d_O_expand_71 : decode b_O_expand 71 = .ok (.aload_n 0, 1) := by decide +kernel
theorem d_O_expand_72 : decode b_O_expand 72 = .ok (.getfield 79, 3) := by decide +kernel
theorem d_O_expand_75 : decode b_O_expand 75 = .ok (.putfield 233, 3) := by decide +kernel
theorem d_O_expand_78 : decode b_O_expand 78 = .ok (.aload_n 0, 1) := by decide +kernel
theorem d_O_expand_79 : decode b_O_expand 79 = .ok (.iconst 0, 1) := by decide +kernel
theorem d_O_expand_80 : decode b_O_expand 80 = .ok (.putfield 182, 3) := by decide +kernel
theorem d_O_expand_83 : decode b_O_expand 83 = .ok (.aload_n 0, 1) := by decide +kernel
theorem d_O_expand_84 : decode b_O_expand 84 = .ok (.iconst 0, 1) := by decide +kernel
theorem d_O_expand_85 : decode b_O_expand 85 = .ok (.putfield 248, 3) := by decide +kernel
theorem d_O_expand_88 : decode b_O_expand 88 = .ok (.aload_n 0, 1) := by decide +kernel
theorem d_O_expand_89 : decode b_O_expand 89 = .ok (.iconst 0, 1) := by decide +kernel
theorem d_O_expand_90 : decode b_O_expand 90 = .ok (.putfield 239, 3) := by decide +kernel
theorem d_O_expand_93 : decode b_O_expand 93 = .ok (.aload_n 0, 1) := by decide +kernel
theorem d_O_expand_94 : decode b_O_expand 94 = .ok (.iconst 0, 1) := by decide +kernel
theorem d_O_expand_95 : decode b_O_expand 95 = .ok (.putfield 214, 3) := by decide +kernel
theorem d_O_expand_98 : decode b_O_expand 98 = .ok (.aload_n 0, 1) := by decide +kernel
theorem d_O_expand_99 : decode b_O_expand 99 = .ok (.iconst 0, 1) := by decide +kernel
theorem d_O_expand_100 : decode b_O_expand 100 = .ok (.putfield 236, 3) := by decide +kernel
theorem d_O_expand_103 : decode b_O_expand 103 = .ok (.aload_n 0, 1) := by decide +kernel
theorem d_O_expand_104 : decode b_O_expand 104 = .ok (.iconst 0, 1) := by decide +kernel
theorem d_O_expand_105 : decode b_O_expand 105 = .ok (.putfield 223, 3) := by decide +kernel
theorem d_O_expand_108 : decode b_O_expand 108 = .ok (.aload_n 0, 1) := by decide +kernel
theorem d_O_expand_109 : decode b_O_expand 109 = .ok (.iload_n 1, 1) := by decide +kernel
theorem d_O_expand_110 : decode b_O_expand 110 = .ok (.invokevirtual 273, 3) := by decide +kernel
theorem d_O_expand_113 : decode b_O_expand 113 = .ok (.aload_n 0, 1) := by decide +kernel
theorem d_O_expand_114 : decode b_O_expand 114 = .ok (.getfield 223, 3) := by decide +kernel
theorem d_O_expand_117 : decode b_O_expand 117 = .ok (.ifCond .ne 8, 3) := by decide +kernel
theorem d_O_expand_120 : decode b_O_expand 120 = .ok (.aload_n 0, 1) := by decide +kernel
theorem d_O_expand_121 : decode b_O_expand 121 = .ok (.getfield 236, 3) := by decide +kernel
theorem d_O_expand_124 : decode b_O_expand 124 = .ok (.ireturn, 1) := by decide +kernel
theorem d_O_expand_125 : decode b_O_expand 125 = .ok (.aload_n 0, 1) := by decide +kernel
theorem d_O_expand_126 : decode b_O_expand 126 = .ok (.iconst 0, 1) := by decide +kernel
theorem d_O_expand_127 : decode b_O_expand 127 = .ok (.putfield 236, 3) := by decide +kernel
theorem d_O_expand_130 : decode b_O_expand 130 = .ok (.aload_n 0, 1) := by decide +kernel
theorem d_O_expand_131 : decode b_O_expand 131 = .ok (.aload_n 0, 1) := by decide +kernel
theorem d_O_expand_132 : decode b_O_expand 132 = .ok (.getfield 223, 3) := by decide +kernel
theorem d_O_expand_135 : decode b_O_expand 135 = .ok (.invokevirtual 160, 3) := by decide +kernel
theorem d_O_expand_138 : decode b_O_expand 138 = .ok (.ireturn, 1) := by decide +kernel
theorem d_O_termEnd_0 : decode b_O_termEnd 0 = .ok (.iload_n 1, 1) := by decide +kernel
theorem d_O_termEnd_1 : decode b_O_termEnd 1 = .ok (.istore_n 2, 1) := by decide +kernel
theorem d_O_termEnd_2 : decode b_O_termEnd 2 = .ok (.iconst 0, 1) := by decide +kernel
theorem d_O_termEnd_3 : decode b_O_termEnd 3 = .ok (.istore_n 3, 1) := by decide +kernel
theorem d_O_termEnd_4 : decode b_O_termEnd 4 = .ok (.iconst 1, 1) := by decide +kernel
theorem d_O_termEnd_5 : decode b_O_termEnd 5 = .ok (.istore 4, 2) := by decide +kernel
theorem d_O_termEnd_7 : decode b_O_termEnd 7 = .ok (.iload 4, 2) := by decide +kernel
theorem d_O_termEnd_9 : decode b_O_termEnd 9 = .ok (.ifCond .eq 102, 3) := by decide +kernel
theorem d_O_termEnd_12 : decode b_O_termEnd 12 = .ok (.iload_n 2, 1) := by decide +kernel
theorem d_O_termEnd_13 : decode b_O_termEnd 13 = .ok (.aload_n 0, 1) := by decide +kernel
theorem d_O_termEnd_14 : decode b_O_termEnd 14 = .ok (.getfield 79, 3) := by decide +kernel
theorem d_O_termEnd_17 : decode b_O_termEnd 17 = .ok (.if_icmp .ge 12, 3) := by decide +kernel
theorem d_O_termEnd_20 : decode b_O_termEnd 20 = .ok (.aload_n 0, 1) := by decide +kernel
theorem d_O_termEnd_21 : decode b_O_termEnd 21 = .ok (.getfield 13, 3) := by decide +kernel
theorem d_O_termEnd_24 : decode b_O_termEnd 24 = .ok (.iload_n 2, 1) := by decide +kernel
theorem d_O_termEnd_25 : decode b_O_termEnd 25 = .ok (.iaload, 1) := by decide +kernel
theorem d_O_termEnd_26 : decode b_O_termEnd 26 = .ok (.goto 4, 3) := by decide +kernel
theorem d_O_termEnd_29 : decode b_O_termEnd 29 = .ok (.iconst 0, 1) := by decide +kernel
theorem d_O_termEnd_30 : decode b_O_termEnd 30 = .ok (.istore 5, 2) := by decide +kernel
theorem d_O_termEnd_32 : decode b_O_termEnd 32 = .ok (.iload 5, 2) := by decide +kernel
theorem d_O_termEnd_34 : decode b_O_termEnd 34 = .ok (.iconst 1, 1) := by decide +kernel
theorem d_O_termEnd_35 : decode b_O_termEnd 35 = .ok (.if_icmp .ne 9, 3) := by decide +kernel
theorem d_O_termEnd_38 : decode b_O_termEnd 38 = .ok (.iinc 3 1, 3) := by decide +kernel
theorem d_O_termEnd_41 : decode b_O_termEnd 41 = .ok (.goto 41, 3) := by decide +kernel
theorem d_O_termEnd_44 : decode b_O_termEnd 44 = .ok (.iload 5, 2) := by decide +kernel
theorem d_O_termEnd_46 : decode b_O_termEnd 46 = .ok (.iconst 2, 1) := by decide +kernel
theorem d_O_termEnd_47 : decode b_O_termEnd 47 = .ok (.if_icmp .ne 9, 3) := by decide +kernel
theorem d_O_termEnd_50 : decode b_O_termEnd 50 = .ok (.iinc 3 (-1), 3) := by decide +kernel
theorem d_O_termEnd_53 : decode b_O_termEnd 53 = .ok (.goto 29, 3) := by decide +kernel
theorem d_O_termEnd_56 : decode b_O_termEnd 56 = .ok (.iload 5, 2) := by decide +kernel
theorem d_O_termEnd_58 : decode b_O_termEnd 58 = .ok (.invokestatic 86, 3) := by decide +kernel
theorem d_O_termEnd_61 : decode b_O_termEnd 61 = .ok (.ifCond .ne 21, 3) := by decide +kernel
theorem d_O_termEnd_64 : decode b_O_termEnd 64 = .ok (.iload 5, 2) := by decide +kernel
theorem d_O_termEnd_66 : decode b_O_termEnd 66 = .ok (.invokestatic 90, 3) := by decide +kernel
theorem d_O_termEnd_69 : decode b_O_termEnd 69 = .ok (.ifCond .ne 13, 3) := by decide +kernel
theorem d_O_termEnd_72 : decode b_O_termEnd 72 = .ok (.iload 5, 2) := by decide +kernel
theorem d_O_termEnd_74 : decode b_O_termEnd 74 = .ok (.invokestatic 93, 3) := by decide +kernel
theorem d_O_termEnd_77 : decode b_O_termEnd 77 = .ok (.ifCond .ne 5, 3) := by decide +kernel
theorem d_O_termEnd_80 : decode b_O_termEnd 80 = .ok (.iconst (-1), 1) := by decide +kernel
theorem d_O_termEnd_81 : decode b_O_termEnd 81 = .ok (.ireturn, 1) := by decide +kernel
theorem d_O_termEnd_82 : decode b_O_termEnd 82 = .ok (.iload_n 3, 1) := by decide +kernel
theorem d_O_termEnd_83 : decode b_O_termEnd 83 = .ok (.ifCond .lt 9, 3) := by decide +kernel
theorem d_O_termEnd_86 : decode b_O_termEnd 86 = .ok (.iload_n 3, 1) := by decide +kernel
theorem d_O_termEnd_87 : decode b_O_termEnd 87 = .ok (.bipush 8, 2) := by decide +kernel
theorem d_O_termEnd_89 : decode b_O_termEnd 89 = .ok (.if_icmp .le 5, 3) := by decide +kernel
theorem d_O_termEnd_92 : decode b_O_termEnd 92 = .ok (.iconst (-1), 1) := by decide +kernel
theorem d_O_termEnd_93 : decode b_O_termEnd 93 = .ok (.ireturn, 1) := by decide +kernel
theorem d_O_termEnd_94 : decode b_O_termEnd 94 = .ok (.iinc 2 1, 3) := by decide +kernel
theorem d_O_termEnd_97 : decode b_O_termEnd 97 = .ok (.iload_n 3, 1) := by decide +kernel
theorem d_O_termEnd_98 : decode b_O_termEnd 98 = .ok (.ifCond .le 7, 3) := by decide +kernel
theorem d_O_termEnd_101 : decode b_O_termEnd 101 = .ok (.iconst 1, 1) := by decide +kernel
theorem d_O_termEnd_102 : decode b_O_termEnd 102 = .ok (.goto 4, 3) := by decide +kernel
theorem d_O_termEnd_105 : decode b_O_termEnd 105 = .ok (.iconst 0, 1) := by decide +kernel
theorem d_O_termEnd_106 : decode b_O_termEnd 106 = .ok (.istore 4, 2) := by decide +kernel
theorem d_O_termEnd_108 : decode b_O_termEnd 108 = .ok (.goto (-101), 3) := by decide +kernel
theorem d_O_termEnd_111 : decode b_O_termEnd 111 = .ok (.iload_n 2, 1) := by decide +kernel
theorem d_O_termEnd_112 : decode b_O_termEnd 112 = .ok (.ireturn, 1) := by decide +kernel
theorem d_O_replaced_0 : decode b_O_replaced 0 = .ok (.aload_n 0, 1) := by decide +kernel
theorem d_O_replaced_1 : decode b_O_replaced 1 = .ok (.iconst 0, 1) := by decide +kernel
theorem d_O_replaced_2 : decode b_O_replaced 2 = .ok (.putfield 72, 3) := by decide +kernel
theorem d_O_replaced_5 : decode b_O_replaced 5 = .ok (.aload_n 0, 1) := by decide +kernel
theorem d_O_replaced_6 : decode b_O_replaced 6 = .ok (.getfield 214, 3) := by decide +kernel
theorem d_O_replaced_9 : decode b_O_replaced 9 = .ok (.ireturn, 1) := by decide +kernel
theorem d_O_mark_0 : decode b_O_mark 0 = .ok (.aload_n 0, 1) := by decide +kernel
theorem d_O_mark_1 : decode b_O_mark 1 = .ok (.iconst 0, 1) := by decide +kernel
theorem d_O_mark_2 : decode b_O_mark 2 = .ok (.putfield 72, 3) := by decide +kernel
theorem d_O_mark_5 : decode b_O_mark 5 = .ok (.iload_n 1, 1) := by decide +kernel
theorem d_O_mark_6 : decode b_O_mark 6 = .ok (.ifCond .lt 11, 3) := by decide +kernel
theorem d_O_mark_9 : decode b_O_mark 9 = .ok (.iload_n 1, 1) := by decide +kernel
theorem d_O_mark_10 : decode b_O_mark 10 = .ok (.aload_n 0, 1) := by decide +kernel
theorem d_O_mark_11 : decode b_O_mark 11 = .ok (.getfield 236, 3) := by decide +kernel
theorem d_O_mark_14 : decode b_O_mark 14 = .ok (.if_icmp .lt 8, 3) := by decide +kernel
theorem d_O_mark_17 : decode b_O_mark 17 = .ok (.bipush (-99), 2) := by decide +kernel
theorem d_O_mark_19 : decode b_O_mark 19 = .ok (.goto 9, 3) := by decide +kernel
theorem d_O_mark_22 : decode b_O_mark 22 = .ok (.aload_n 0, 1) := by decide +kernel
theorem d_O_mark_23 : decode b_O_mark 23 = .ok (.getfield 69, 3) := by decide +kernel
theorem d_O_mark_26 : decode b_O_mark 26 = .ok (.iload_n 1, 1) := by decide +kernel
theorem d_O_mark_27 : decode b_O_mark 27 = .ok (.iaload, 1) := by decide +kernel
theorem d_O_mark_28 : decode b_O_mark 28 = .ok (.ireturn, 1) := by decide +kernel
theorem d_O_depth_0 : decode b_O_depth 0 = .ok (.aload_n 0, 1) := by decide +kernel
theorem d_O_depth_1 : decode b_O_depth 1 = .ok (.iconst 0, 1) := by decide +kernel
theorem d_O_depth_2 : decode b_O_depth 2 = .ok (.putfield 72, 3) := by decide +kernel
theorem d_O_depth_5 : decode b_O_depth 5 = .ok (.iconst 0, 1) := by decide +kernel
theorem d_O_depth_6 : decode b_O_depth 6 = .ok (.istore_n 1, 1) := by decide +kernel
theorem d_O_depth_7 : decode b_O_depth 7 = .ok (.iconst 0, 1) := by decide +kernel
theorem d_O_depth_8 : decode b_O_depth 8 = .ok (.istore_n 2, 1) := by decide +kernel
theorem d_O_depth_9 : decode b_O_depth 9 = .ok (.iconst 0, 1) := by decide +kernel
theorem d_O_depth_10 : decode b_O_depth 10 = .ok (.istore_n 3, 1) := by decide +kernel
theorem d_O_depth_11 : decode b_O_depth 11 = .ok (.iload_n 3, 1) := by decide +kernel
theorem d_O_depth_12 : decode b_O_depth 12 = .ok (.aload_n 0, 1) := by decide +kernel
theorem d_O_depth_13 : decode b_O_depth 13 = .ok (.getfield 236, 3) := by decide +kernel
theorem d_O_depth_16 : decode b_O_depth 16 = .ok (.if_icmp .ge 54, 3) := by decide +kernel
theorem d_O_depth_19 : decode b_O_depth 19 = .ok (.aload_n 0, 1) := by decide +kernel
theorem d_O_depth_20 : decode b_O_depth 20 = .ok (.getfield 69, 3) := by decide +kernel
theorem d_O_depth_23 : decode b_O_depth 23 = .ok (.iload_n 3, 1) := by decide +kernel
theorem d_O_depth_24 : decode b_O_depth 24 = .ok (.iaload, 1) := by decide +kernel
theorem d_O_depth_25 : decode b_O_depth 25 = .ok (.iconst 1, 1) := by decide +kernel
theorem d_O_depth_26 : decode b_O_depth 26 = .ok (.if_icmp .ne 9, 3) := by decide +kernel
theorem d_O_depth_29 : decode b_O_depth 29 = .ok (.iload_n 1, 1) := by decide +kernel
theorem d_O_depth_30 : decode b_O_depth 30 = .ok (.iconst 1, 1) := by decide +kernel
theorem d_O_depth_31 : decode b_O_depth 31 = .ok (.iadd, 1) := by decide +kernel
theorem d_O_depth_32 : decode b_O_depth 32 = .ok (.goto 20, 3) := by decide +kernel
theorem d_O_depth_35 : decode b_O_depth 35 = .ok (.aload_n 0, 1) := by decide +kernel
theorem d_O_depth_36 : decode b_O_depth 36 = .ok (.getfield 69, 3) := by decide +kernel
theorem d_O_depth_39 : decode b_O_depth 39 = .ok (.iload_n 3, 1) := by decide +kernel
theorem d_O_depth_40 : decode b_O_depth 40 = .ok (.iaload, 1) := by decide +kernel
theorem d_O_depth_41 : decode b_O_depth 41 = .ok (.iconst 2, 1) := by decide +kernel
theorem d_O_depth_42 : decode b_O_depth 42 = .ok (.if_icmp .ne 9, 3) := by decide +kernel
theorem d_O_depth_45 : decode b_O_depth 45 = .ok (.iload_n 1, 1) := by decide +kernel
theorem d_O_depth_46 : decode b_O_depth 46 = .ok (.iconst 1, 1) := by decide +kernel
theorem d_O_depth_47 : decode b_O_depth 47 = .ok (.isub, 1) := by decide +kernel
theorem d_O_depth_48 : decode b_O_depth 48 = .ok (.goto 4, 3) := by decide +kernel
theorem d_O_depth_51 : decode b_O_depth 51 = .ok (.iload_n 1, 1) := by decide +kernel
theorem d_O_depth_52 : decode b_O_depth 52 = .ok (.istore_n 1, 1) := by decide +kernel
theorem d_O_depth_53 : decode b_O_depth 53 = .ok (.iload_n 1, 1) := by decide +kernel
theorem d_O_depth_54 : decode b_O_depth 54 = .ok (.iload_n 2, 1) := by decide +kernel
theorem d_O_depth_55 : decode b_O_depth 55 = .ok (.if_icmp .le 7, 3) := by decide +kernel
theorem d_O_depth_58 : decode b_O_depth 58 = .ok (.iload_n 1, 1) := by decide +kernel
theorem d_O_depth_59 : decode b_O_depth 59 = .ok (.goto 4, 3) := by decide +kernel
theorem d_O_depth_62 : decode b_O_depth 62 = .ok (.iload_n 2, 1) := by decide +kernel
theorem d_O_depth_63 : decode b_O_depth 63 = .ok (.istore_n 2, 1) := by decide +kernel
theorem d_O_depth_64 : decode b_O_depth 64 = .ok (.iinc 3 1, 3) := by decide +kernel
theorem d_O_depth_67 : decode b_O_depth 67 = .ok (.goto (-56), 3) := by decide +kernel
theorem d_O_depth_70 : decode b_O_depth 70 = .ok (.iload_n 2, 1) := by decide +kernel
theorem d_O_depth_71 : decode b_O_depth 71 = .ok (.ireturn, 1) := by decide +kernel
theorem d_L_law_0 : decode b_L_law 0 = .ok (.new 8, 3) := by decide +kernel
theorem d_L_law_3 : decode b_L_law 3 = .ok (.dup, 1) := by decide +kernel
theorem d_L_law_4 : decode b_L_law 4 = .ok (.invokespecial 23, 3) := by decide +kernel
theorem d_L_law_7 : decode b_L_law 7 = .ok (.astore_n 1, 1) := by decide +kernel
theorem d_L_law_8 : decode b_L_law 8 = .ok (.new 24, 3) := by decide +kernel
theorem d_L_law_11 : decode b_L_law 11 = .ok (.dup, 1) := by decide +kernel
theorem d_L_law_12 : decode b_L_law 12 = .ok (.invokespecial 26, 3) := by decide +kernel
theorem d_L_law_15 : decode b_L_law 15 = .ok (.astore_n 2, 1) := by decide +kernel
theorem d_L_law_16 : decode b_L_law 16 = .ok (.iconst 1, 1) := by decide +kernel
theorem d_L_law_17 : decode b_L_law 17 = .ok (.newarray .long, 2) := by decide +kernel
theorem d_L_law_19 : decode b_L_law 19 = .ok (.astore_n 3, 1) := by decide +kernel
theorem d_L_law_20 : decode b_L_law 20 = .ok (.iconst 0, 1) := by decide +kernel
theorem d_L_law_21 : decode b_L_law 21 = .ok (.istore 4, 2) := by decide +kernel
theorem d_L_law_23 : decode b_L_law 23 = .ok (.iload 4, 2) := by decide +kernel
theorem d_L_law_25 : decode b_L_law 25 = .ok (.aload_n 0, 1) := by decide +kernel
theorem d_L_law_26 : decode b_L_law 26 = .ok (.arraylength, 1) := by decide +kernel
theorem d_L_law_27 : decode b_L_law 27 = .ok (.iconst 2, 1) := by decide +kernel
theorem d_L_law_28 : decode b_L_law 28 = .ok (.isub, 1) := by decide +kernel
theorem d_L_law_29 : decode b_L_law 29 = .ok (.if_icmp .gt 279, 3) := by decide +kernel
theorem d_L_law_32 : decode b_L_law 32 = .ok (.aload_n 0, 1) := by decide +kernel
theorem d_L_law_33 : decode b_L_law 33 = .ok (.iload 4, 2) := by decide +kernel
theorem d_L_law_35 : decode b_L_law 35 = .ok (.iaload, 1) := by decide +kernel
theorem d_L_law_36 : decode b_L_law 36 = .ok (.bipush 7, 2) := by decide +kernel
theorem d_L_law_38 : decode b_L_law 38 = .ok (.iand, 1) := by decide +kernel
theorem d_L_law_39 : decode b_L_law 39 = .ok (.tableswitch 263 0 7 #[45, 72, 116, 143, 156, 212, 225, 250], 45) := by decide +kernel
theorem d_L_law_84 : decode b_L_law 84 = .ok (.aload_n 1, 1) := by decide +kernel
theorem d_L_law_85 : decode b_L_law 85 = .ok (.aload_n 0, 1) := by decide +kernel
theorem d_L_law_86 : decode b_L_law 86 = .ok (.iload 4, 2) := by decide +kernel
theorem d_L_law_88 : decode b_L_law 88 = .ok (.iconst 1, 1) := by decide +kernel
theorem d_L_law_89 : decode b_L_law 89 = .ok (.iadd, 1) := by decide +kernel
theorem d_L_law_90 : decode b_L_law 90 = .ok (.iaload, 1) := by decide +kernel
theorem d_L_law_91 : decode b_L_law 91 = .ok (.i2c, 1) := by decide +kernel
theorem d_L_law_92 : decode b_L_law 92 = .ok (.invokevirtual 27, 3) := by decide +kernel
theorem d_L_law_95 : decode b_L_law 95 = .ok (.aload_n 2, 1) := by decide +kernel
theorem d_L_law_96 : decode b_L_law 96 = .ok (.aload_n 0, 1) := by decide +kernel
theorem d_L_law_97 : decode b_L_law 97 = .ok (.iload 4, 2) := by decide +kernel
theorem d_L_law_99 : decode b_L_law 99 = .ok (.iconst 1, 1) := by decide +kernel
theorem d_L_law_100 : decode b_L_law 100 = .ok (.iadd, 1) := by decide +kernel
theorem d_L_law_101 : decode b_L_law 101 = .ok (.iaload, 1) := by decide +kernel
theorem d_L_law_102 : decode b_L_law 102 = .ok (.i2c, 1) := by decide +kernel
theorem d_L_law_103 : decode b_L_law 103 = .ok (.invokevirtual 31, 3) := by decide +kernel
theorem d_L_law_106 : decode b_L_law 106 = .ok (.if_icmp .eq 196, 3) := by decide +kernel
theorem d_L_law_109 : decode b_L_law 109 = .ok (.iconst 0, 1) := by decide +kernel
theorem d_L_law_110 : decode b_L_law 110 = .ok (.ireturn, 1) := by decide +kernel
theorem d_L_law_111 : decode b_L_law 111 = .ok (.aload_n 1, 1) := by decide +kernel
theorem d_L_law_112 : decode b_L_law 112 = .ok (.aload_n 3, 1) := by decide +kernel
theorem d_L_law_113 : decode b_L_law 113 = .ok (.invokestatic 32, 3) := by decide +kernel
theorem d_L_law_116 : decode b_L_law 116 = .ok (.istore 5, 2) := by decide +kernel
theorem d_L_law_118 : decode b_L_law 118 = .ok (.aload_n 2, 1) := by decide +kernel
theorem d_L_law_119 : decode b_L_law 119 = .ok (.invokevirtual 37, 3) := by decide +kernel
theorem d_L_law_122 : decode b_L_law 122 = .ok (.istore 6, 2) := by decide +kernel
theorem d_L_law_124 : decode b_L_law 124 = .ok (.aload_n 2, 1) := by decide +kernel
theorem d_L_law_125 : decode b_L_law 125 = .ok (.invokevirtual 38, 3) := by decide +kernel
theorem d_L_law_128 : decode b_L_law 128 = .ok (.iload 5, 2) := by decide +kernel
theorem d_L_law_130 : decode b_L_law 130 = .ok (.if_icmp .eq 5, 3) := by decide +kernel
theorem d_L_law_133 : decode b_L_law 133 = .ok (.iconst 0, 1) := by decide +kernel
theorem d_L_law_134 : decode b_L_law 134 = .ok (.ireturn, 1) := by decide +kernel
theorem d_L_law_135 : decode b_L_law 135 = .ok (.iload 5, 2) := by decide +kernel
theorem d_L_law_137 : decode b_L_law 137 = .ok (.ifCond .ne 15, 3) := by decide +kernel
theorem d_L_law_140 : decode b_L_law 140 = .ok (.aload_n 3, 1) := by decide +kernel
theorem d_L_law_141 : decode b_L_law 141 = .ok (.iconst 0, 1) := by decide +kernel
theorem d_L_law_142 : decode b_L_law 142 = .ok (.laload, 1) := by decide +kernel
theorem d_L_law_143 : decode b_L_law 143 = .ok (.iload 6, 2) := by decide +kernel
theorem d_L_law_145 : decode b_L_law 145 = .ok (.i2l, 1) := by decide +kernel
theorem d_L_law_146 : decode b_L_law 146 = .ok (.lcmp, 1) := by decide +kernel
theorem d_L_law_147 : decode b_L_law 147 = .ok (.ifCond .eq 5, 3) := by decide +kernel
theorem d_L_law_150 : decode b_L_law 150 = .ok (.iconst 0, 1) := by decide +kernel
theorem d_L_law_151 : decode b_L_law 151 = .ok (.ireturn, 1) := by decide +kernel
theorem d_L_law_152 : decode b_L_law 152 = .ok (.goto 150, 3) := by decide +kernel
theorem d_L_law_155 : decode b_L_law 155 = .ok (.aload_n 1, 1) := by decide +kernel
theorem d_L_law_156 : decode b_L_law 156 = .ok (.aload_n 0, 1) := by decide +kernel
theorem d_L_law_157 : decode b_L_law 157 = .ok (.iload 4, 2) := by decide +kernel
theorem d_L_law_159 : decode b_L_law 159 = .ok (.iconst 1, 1) := by decide +kernel
theorem d_L_law_160 : decode b_L_law 160 = .ok (.iadd, 1) := by decide +kernel
theorem d_L_law_161 : decode b_L_law 161 = .ok (.iaload, 1) := by decide +kernel
theorem d_L_law_162 : decode b_L_law 162 = .ok (.i2c, 1) := by decide +kernel
theorem d_L_law_163 : decode b_L_law 163 = .ok (.invokevirtual 41, 3) := by decide +kernel
theorem d_L_law_166 : decode b_L_law 166 = .ok (.aload_n 2, 1) := by decide +kernel
theorem d_L_law_167 : decode b_L_law 167 = .ok (.aload_n 0, 1) := by decide +kernel
theorem d_L_law_168 : decode b_L_law 168 = .ok (.iload 4, 2) := by decide +kernel
theorem d_L_law_170 : decode b_L_law 170 = .ok (.iconst 1, 1) := by decide +kernel
theorem d_L_law_171 : decode b_L_law 171 = .ok (.iadd, 1) := by decide +kernel
theorem d_L_law_172 : decode b_L_law 172 = .ok (.iaload, 1) := by decide +kernel
theorem d_L_law_173 : decode b_L_law 173 = .ok (.i2c, 1) := by decide +kernel
theorem d_L_law_174 : decode b_L_law 174 = .ok (.invokevirtual 45, 3) := by decide +kernel
theorem d_L_law_177 : decode b_L_law 177 = .ok (.if_icmp .eq 125, 3) := by decide +kernel
theorem d_L_law_180 : decode b_L_law 180 = .ok (.iconst 0, 1) := by decide +kernel
theorem d_L_law_181 : decode b_L_law 181 = .ok (.ireturn, 1) := by decide +kernel
theorem d_L_law_182 : decode b_L_law 182 = .ok (.aload_n 1, 1) := by decide +kernel
theorem d_L_law_183 : decode b_L_law 183 = .ok (.invokevirtual 46, 3) := by decide +kernel
theorem d_L_law_186 : decode b_L_law 186 = .ok (.aload_n 2, 1) := by decide +kernel
theorem d_L_law_187 : decode b_L_law 187 = .ok (.invokevirtual 49, 3) := by decide +kernel
theorem d_L_law_190 : decode b_L_law 190 = .ok (.if_icmp .eq 112, 3) := by decide +kernel
theorem d_L_law_193 : decode b_L_law 193 = .ok (.iconst 0, 1) := by decide +kernel
theorem d_L_law_194 : decode b_L_law 194 = .ok (.ireturn, 1) := by decide +kernel
theorem d_L_law_195 : decode b_L_law 195 = .ok (.aload_n 1, 1) := by decide +kernel
theorem d_L_law_196 : decode b_L_law 196 = .ok (.aload_n 0, 1) := by decide +kernel
theorem d_L_law_197 : decode b_L_law 197 = .ok (.iload 4, 2) := by decide +kernel
theorem d_L_law_199 : decode b_L_law 199 = .ok (.iconst 1, 1) := by decide +kernel
theorem d_L_law_200 : decode b_L_law 200 = .ok (.iadd, 1) := by decide +kernel
theorem d_L_law_201 : decode b_L_law 201 = .ok (.iaload, 1) := by decide +kernel
theorem d_L_law_202 : decode b_L_law 202 = .ok (.aload_n 3, 1) := by decide +kernel
theorem d_L_law_203 : decode b_L_law 203 = .ok (.invokestatic 50, 3) := by decide +kernel
theorem d_L_law_206 : decode b_L_law 206 = .ok (.istore 5, 2) := by decide +kernel
theorem d_L_law_208 : decode b_L_law 208 = .ok (.aload_n 2, 1) := by decide +kernel
theorem d_L_law_209 : decode b_L_law 209 = .ok (.aload_n 0, 1) := by decide +kernel
theorem d_L_law_210 : decode b_L_law 210 = .ok (.iload 4, 2) := by decide +kernel
theorem d_L_law_212 : decode b_L_law 212 = .ok (.iconst 1, 1) := by decide +kernel
theorem d_L_law_213 : decode b_L_law 213 = .ok (.iadd, 1) := by decide +kernel
theorem d_L_law_214 : decode b_L_law 214 = .ok (.iaload, 1) := by decide +kernel
theorem d_L_law_215 : decode b_L_law 215 = .ok (.invokevirtual 53, 3) := by decide +kernel
theorem d_L_law_218 : decode b_L_law 218 = .ok (.istore 6, 2) := by decide +kernel
theorem d_L_law_220 : decode b_L_law 220 = .ok (.aload_n 2, 1) := by decide +kernel
theorem d_L_law_221 : decode b_L_law 221 = .ok (.invokevirtual 38, 3) := by decide +kernel
theorem d_L_law_224 : decode b_L_law 224 = .ok (.iload 5, 2) := by decide +kernel
theorem d_L_law_226 : decode b_L_law 226 = .ok (.if_icmp .eq 5, 3) := by decide +kernel
theorem d_L_law_229 : decode b_L_law 229 = .ok (.iconst 0, 1) := by decide +kernel
theorem d_L_law_230 : decode b_L_law 230 = .ok (.ireturn, 1) := by decide +kernel
theorem d_L_law_231 : decode b_L_law 231 = .ok (.iload 5, 2) := by decide +kernel
theorem d_L_law_233 : decode b_L_law 233 = .ok (.ifCond .ne 15, 3) := by decide +kernel
theorem d_L_law_236 : decode b_L_law 236 = .ok (.aload_n 3, 1) := by decide +kernel
theorem d_L_law_237 : decode b_L_law 237 = .ok (.iconst 0, 1) := by decide +kernel
theorem d_L_law_238 : decode b_L_law 238 = .ok (.laload, 1) := by decide +kernel
theorem d_L_law_239 : decode b_L_law 239 = .ok (.iload 6, 2) := by decide +kernel
theorem d_L_law_241 : decode b_L_law 241 = .ok (.i2l, 1) := by decide +kernel
theorem d_L_law_242 : decode b_L_law 242 = .ok (.lcmp, 1) := by decide +kernel
theorem d_L_law_243 : decode b_L_law 243 = .ok (.ifCond .eq 5, 3) := by decide +kernel
theorem d_L_law_246 : decode b_L_law 246 = .ok (.iconst 0, 1) := by decide +kernel
theorem d_L_law_247 : decode b_L_law 247 = .ok (.ireturn, 1) := by decide +kernel
theorem d_L_law_248 : decode b_L_law 248 = .ok (.goto 54, 3) := by decide +kernel
theorem d_L_law_251 : decode b_L_law 251 = .ok (.aload_n 1, 1) := by decide +kernel
theorem d_L_law_252 : decode b_L_law 252 = .ok (.invokevirtual 54, 3) := by decide +kernel
theorem d_L_law_255 : decode b_L_law 255 = .ok (.aload_n 2, 1) := by decide +kernel
theorem d_L_law_256 : decode b_L_law 256 = .ok (.invokevirtual 57, 3) := by decide +kernel
theorem d_L_law_259 : decode b_L_law 259 = .ok (.if_icmp .eq 43, 3) := by decide +kernel
theorem d_L_law_262 : decode b_L_law 262 = .ok (.iconst 0, 1) := by decide +kernel
theorem d_L_law_263 : decode b_L_law 263 = .ok (.ireturn, 1) := by decide +kernel
theorem d_L_law_264 : decode b_L_law 264 = .ok (.aload_n 1, 1) := by decide +kernel
theorem d_L_law_265 : decode b_L_law 265 = .ok (.aload_n 0, 1) := by decide +kernel
theorem d_L_law_266 : decode b_L_law 266 = .ok (.iload 4, 2) := by decide +kernel
theorem d_L_law_268 : decode b_L_law 268 = .ok (.iconst 1, 1) := by decide +kernel
theorem d_L_law_269 : decode b_L_law 269 = .ok (.iadd, 1) := by decide +kernel
theorem d_L_law_270 : decode b_L_law 270 = .ok (.iaload, 1) := by decide +kernel
theorem d_L_law_271 : decode b_L_law 271 = .ok (.invokevirtual 58, 3) := by decide +kernel
theorem d_L_law_274 : decode b_L_law 274 = .ok (.aload_n 2, 1) := by decide +kernel
theorem d_L_law_275 : decode b_L_law 275 = .ok (.aload_n 0, 1) := by decide +kernel
theorem d_L_law_276 : decode b_L_law 276 = .ok (.iload 4, 2) := by decide +kernel
theorem d_L_law_278 : decode b_L_law 278 = .ok (.iconst 1, 1) := by decide +kernel
theorem d_L_law_279 : decode b_L_law 279 = .ok (.iadd, 1) := by decide +kernel
theorem d_L_law_280 : decode b_L_law 280 = .ok (.iaload, 1) := by decide +kernel
theorem d_L_law_281 : decode b_L_law 281 = .ok (.invokevirtual 61, 3) := by decide +kernel
theorem d_L_law_284 : decode b_L_law 284 = .ok (.if_icmp .eq 18, 3) := by decide +kernel
theorem d_L_law_287 : decode b_L_law 287 = .ok (.iconst 0, 1) := by decide +kernel
theorem d_L_law_288 : decode b_L_law 288 = .ok (.ireturn, 1) := by decide +kernel
theorem d_L_law_289 : decode b_L_law 289 = .ok (.aload_n 1, 1) := by decide +kernel
theorem d_L_law_290 : decode b_L_law 290 = .ok (.invokevirtual 62, 3) := by decide +kernel
theorem d_L_law_293 : decode b_L_law 293 = .ok (.aload_n 2, 1) := by decide +kernel
theorem d_L_law_294 : decode b_L_law 294 = .ok (.invokevirtual 65, 3) := by decide +kernel
theorem d_L_law_297 : decode b_L_law 297 = .ok (.if_icmp .eq 5, 3) := by decide +kernel
theorem d_L_law_300 : decode b_L_law 300 = .ok (.iconst 0, 1) := by decide +kernel
theorem d_L_law_301 : decode b_L_law 301 = .ok (.ireturn, 1) := by decide +kernel
theorem d_L_law_302 : decode b_L_law 302 = .ok (.iinc 4 2, 3) := by decide +kernel
theorem d_L_law_305 : decode b_L_law 305 = .ok (.goto (-282), 3) := by decide +kernel
theorem d_L_law_308 : decode b_L_law 308 = .ok (.iconst 1, 1) := by decide +kernel
theorem d_L_law_309 : decode b_L_law 309 = .ok (.ireturn, 1) := by decide +kernel

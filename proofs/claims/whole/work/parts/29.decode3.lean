theorem d_O_tokenOf_135 : decode b_O_tokenOf 135 = .ok (.iconst 0, 1) := by decide +kernel
theorem d_O_tokenOf_136 : decode b_O_tokenOf 136 = .ok (.ireturn, 1) := by decide +kernel
theorem d_O_openList_0 : decode b_O_openList 0 = .ok (.aload_n 0, 1) := by decide +kernel
theorem d_O_openList_1 : decode b_O_openList 1 = .ok (.dup, 1) := by decide +kernel
theorem d_O_openList_2 : decode b_O_openList 2 = .ok (.getfield 96, 3) := by decide +kernel
theorem d_O_openList_5 : decode b_O_openList 5 = .ok (.iconst 1, 1) := by decide +kernel
theorem d_O_openList_6 : decode b_O_openList 6 = .ok (.iadd, 1) := by decide +kernel
theorem d_O_openList_7 : decode b_O_openList 7 = .ok (.putfield 96, 3) := by decide +kernel
theorem d_O_openList_10 : decode b_O_openList 10 = .ok (.aload_n 0, 1) := by decide +kernel
theorem d_O_openList_11 : decode b_O_openList 11 = .ok (.getfield 96, 3) := by decide +kernel
theorem d_O_openList_14 : decode b_O_openList 14 = .ok (.bipush 8, 2) := by decide +kernel
theorem d_O_openList_16 : decode b_O_openList 16 = .ok (.if_icmp .le 5, 3) := by decide +kernel
theorem d_O_openList_19 : decode b_O_openList 19 = .ok (.iconst 0, 1) := by decide +kernel
theorem d_O_openList_20 : decode b_O_openList 20 = .ok (.ireturn, 1) := by decide +kernel
theorem d_O_openList_21 : decode b_O_openList 21 = .ok (.aload_n 0, 1) := by decide +kernel
theorem d_O_openList_22 : decode b_O_openList 22 = .ok (.getfield 38, 3) := by decide +kernel
theorem d_O_openList_25 : decode b_O_openList 25 = .ok (.aload_n 0, 1) := by decide +kernel
theorem d_O_openList_26 : decode b_O_openList 26 = .ok (.getfield 96, 3) := by decide +kernel
theorem d_O_openList_29 : decode b_O_openList 29 = .ok (.iload_n 1, 1) := by decide +kernel
theorem d_O_openList_30 : decode b_O_openList 30 = .ok (.iastore, 1) := by decide +kernel
theorem d_O_openList_31 : decode b_O_openList 31 = .ok (.aload_n 0, 1) := by decide +kernel
theorem d_O_openList_32 : decode b_O_openList 32 = .ok (.getfield 41, 3) := by decide +kernel
theorem d_O_openList_35 : decode b_O_openList 35 = .ok (.aload_n 0, 1) := by decide +kernel
theorem d_O_openList_36 : decode b_O_openList 36 = .ok (.getfield 96, 3) := by decide +kernel
theorem d_O_openList_39 : decode b_O_openList 39 = .ok (.iconst 0, 1) := by decide +kernel
theorem d_O_openList_40 : decode b_O_openList 40 = .ok (.bastore, 1) := by decide +kernel
theorem d_O_openList_41 : decode b_O_openList 41 = .ok (.aload_n 0, 1) := by decide +kernel
theorem d_O_openList_42 : decode b_O_openList 42 = .ok (.iconst (-1), 1) := by decide +kernel
theorem d_O_openList_43 : decode b_O_openList 43 = .ok (.putfield 99, 3) := by decide +kernel
theorem d_O_openList_46 : decode b_O_openList 46 = .ok (.iconst 1, 1) := by decide +kernel
theorem d_O_openList_47 : decode b_O_openList 47 = .ok (.ireturn, 1) := by decide +kernel
theorem d_O_patternToken_0 : decode b_O_patternToken 0 = .ok (.aload_n 0, 1) := by decide +kernel
theorem d_O_patternToken_1 : decode b_O_patternToken 1 = .ok (.getfield 13, 3) := by decide +kernel
theorem d_O_patternToken_4 : decode b_O_patternToken 4 = .ok (.iload_n 1, 1) := by decide +kernel
theorem d_O_patternToken_5 : decode b_O_patternToken 5 = .ok (.iaload, 1) := by decide +kernel
theorem d_O_patternToken_6 : decode b_O_patternToken 6 = .ok (.istore_n 2, 1) := by decide +kernel
theorem d_O_patternToken_7 : decode b_O_patternToken 7 = .ok (.iload_n 2, 1) := by decide +kernel
theorem d_O_patternToken_8 : decode b_O_patternToken 8 = .ok (.iconst 1, 1) := by decide +kernel
theorem d_O_patternToken_9 : decode b_O_patternToken 9 = .ok (.if_icmp .ne 9, 3) := by decide +kernel
theorem d_O_patternToken_12 : decode b_O_patternToken 12 = .ok (.aload_n 0, 1) := by decide +kernel
theorem d_O_patternToken_13 : decode b_O_patternToken 13 = .ok (.iload_n 1, 1) := by decide +kernel
theorem d_O_patternToken_14 : decode b_O_patternToken 14 = .ok (.invokevirtual 120, 3) := by decide +kernel
theorem d_O_patternToken_17 : decode b_O_patternToken 17 = .ok (.ireturn, 1) := by decide +kernel
theorem d_O_patternToken_18 : decode b_O_patternToken 18 = .ok (.iload_n 2, 1) := by decide +kernel
theorem d_O_patternToken_19 : decode b_O_patternToken 19 = .ok (.iconst 2, 1) := by decide +kernel
theorem d_O_patternToken_20 : decode b_O_patternToken 20 = .ok (.if_icmp .ne 9, 3) := by decide +kernel
theorem d_O_patternToken_23 : decode b_O_patternToken 23 = .ok (.aload_n 0, 1) := by decide +kernel
theorem d_O_patternToken_24 : decode b_O_patternToken 24 = .ok (.invokevirtual 123, 3) := by decide +kernel
theorem d_O_patternToken_27 : decode b_O_patternToken 27 = .ok (.iconst 1, 1) := by decide +kernel
theorem d_O_patternToken_28 : decode b_O_patternToken 28 = .ok (.ireturn, 1) := by decide +kernel
theorem d_O_patternToken_29 : decode b_O_patternToken 29 = .ok (.iload_n 2, 1) := by decide +kernel
theorem d_O_patternToken_30 : decode b_O_patternToken 30 = .ok (.invokestatic 86, 3) := by decide +kernel
theorem d_O_patternToken_33 : decode b_O_patternToken 33 = .ok (.ifCond .eq 9, 3) := by decide +kernel
theorem d_O_patternToken_36 : decode b_O_patternToken 36 = .ok (.aload_n 0, 1) := by decide +kernel
theorem d_O_patternToken_37 : decode b_O_patternToken 37 = .ok (.iload_n 1, 1) := by decide +kernel
theorem d_O_patternToken_38 : decode b_O_patternToken 38 = .ok (.invokevirtual 126, 3) := by decide +kernel
theorem d_O_patternToken_41 : decode b_O_patternToken 41 = .ok (.ireturn, 1) := by decide +kernel
theorem d_O_patternToken_42 : decode b_O_patternToken 42 = .ok (.iload_n 2, 1) := by decide +kernel
theorem d_O_patternToken_43 : decode b_O_patternToken 43 = .ok (.bipush 7, 2) := by decide +kernel
theorem d_O_patternToken_45 : decode b_O_patternToken 45 = .ok (.if_icmp .ne 40, 3) := by decide +kernel
theorem d_O_patternToken_48 : decode b_O_patternToken 48 = .ok (.aload_n 0, 1) := by decide +kernel
theorem d_O_patternToken_49 : decode b_O_patternToken 49 = .ok (.invokevirtual 129, 3) := by decide +kernel
theorem d_O_patternToken_52 : decode b_O_patternToken 52 = .ok (.ifCond .eq 15, 3) := by decide +kernel
theorem d_O_patternToken_55 : decode b_O_patternToken 55 = .ok (.aload_n 0, 1) := by decide +kernel
theorem d_O_patternToken_56 : decode b_O_patternToken 56 = .ok (.getfield 13, 3) := by decide +kernel
theorem d_O_patternToken_59 : decode b_O_patternToken 59 = .ok (.iload_n 1, 1) := by decide +kernel
theorem d_O_patternToken_60 : decode b_O_patternToken 60 = .ok (.iconst 1, 1) := by decide +kernel
theorem d_O_patternToken_61 : decode b_O_patternToken 61 = .ok (.iadd, 1) := by decide +kernel
theorem d_O_patternToken_62 : decode b_O_patternToken 62 = .ok (.iaload, 1) := by decide +kernel
theorem d_O_patternToken_63 : decode b_O_patternToken 63 = .ok (.iconst 2, 1) := by decide +kernel
theorem d_O_patternToken_64 : decode b_O_patternToken 64 = .ok (.if_icmp .eq 5, 3) := by decide +kernel
theorem d_O_patternToken_67 : decode b_O_patternToken 67 = .ok (.iconst 0, 1) := by decide +kernel
theorem d_O_patternToken_68 : decode b_O_patternToken 68 = .ok (.ireturn, 1) := by decide +kernel
theorem d_O_patternToken_69 : decode b_O_patternToken 69 = .ok (.aload_n 0, 1) := by decide +kernel
theorem d_O_patternToken_70 : decode b_O_patternToken 70 = .ok (.aload_n 0, 1) := by decide +kernel
theorem d_O_patternToken_71 : decode b_O_patternToken 71 = .ok (.getfield 99, 3) := by decide +kernel
theorem d_O_patternToken_74 : decode b_O_patternToken 74 = .ok (.iload_n 1, 1) := by decide +kernel
theorem d_O_patternToken_75 : decode b_O_patternToken 75 = .ok (.invokevirtual 133, 3) := by decide +kernel
theorem d_O_patternToken_78 : decode b_O_patternToken 78 = .ok (.aload_n 0, 1) := by decide +kernel
theorem d_O_patternToken_79 : decode b_O_patternToken 79 = .ok (.iconst (-1), 1) := by decide +kernel
theorem d_O_patternToken_80 : decode b_O_patternToken 80 = .ok (.putfield 99, 3) := by decide +kernel
theorem d_O_patternToken_83 : decode b_O_patternToken 83 = .ok (.iconst 1, 1) := by decide +kernel
theorem d_O_patternToken_84 : decode b_O_patternToken 84 = .ok (.ireturn, 1) := by decide +kernel
theorem d_O_patternToken_85 : decode b_O_patternToken 85 = .ok (.iload_n 2, 1) := by decide +kernel
theorem d_O_patternToken_86 : decode b_O_patternToken 86 = .ok (.bipush 6, 2) := by decide +kernel
theorem d_O_patternToken_88 : decode b_O_patternToken 88 = .ok (.if_icmp .eq 19, 3) := by decide +kernel
theorem d_O_patternToken_91 : decode b_O_patternToken 91 = .ok (.iload_n 2, 1) := by decide +kernel
theorem d_O_patternToken_92 : decode b_O_patternToken 92 = .ok (.invokestatic 93, 3) := by decide +kernel
theorem d_O_patternToken_95 : decode b_O_patternToken 95 = .ok (.ifCond .ne 12, 3) := by decide +kernel
theorem d_O_patternToken_98 : decode b_O_patternToken 98 = .ok (.iload_n 2, 1) := by decide +kernel
theorem d_O_patternToken_99 : decode b_O_patternToken 99 = .ok (.invokestatic 90, 3) := by decide +kernel
theorem d_O_patternToken_102 : decode b_O_patternToken 102 = .ok (.ifCond .ne 5, 3) := by decide +kernel
theorem d_O_patternToken_105 : decode b_O_patternToken 105 = .ok (.iconst 0, 1) := by decide +kernel
theorem d_O_patternToken_106 : decode b_O_patternToken 106 = .ok (.ireturn, 1) := by decide +kernel
theorem d_O_patternToken_107 : decode b_O_patternToken 107 = .ok (.aload_n 0, 1) := by decide +kernel
theorem d_O_patternToken_108 : decode b_O_patternToken 108 = .ok (.iload_n 1, 1) := by decide +kernel
theorem d_O_patternToken_109 : decode b_O_patternToken 109 = .ok (.invokevirtual 113, 3) := by decide +kernel
theorem d_O_patternToken_112 : decode b_O_patternToken 112 = .ok (.iconst 1, 1) := by decide +kernel
theorem d_O_patternToken_113 : decode b_O_patternToken 113 = .ok (.ireturn, 1) := by decide +kernel
theorem d_O_closeList_0 : decode b_O_closeList 0 = .ok (.aload_n 0, 1) := by decide +kernel
theorem d_O_closeList_1 : decode b_O_closeList 1 = .ok (.aload_n 0, 1) := by decide +kernel
theorem d_O_closeList_2 : decode b_O_closeList 2 = .ok (.getfield 38, 3) := by decide +kernel
theorem d_O_closeList_5 : decode b_O_closeList 5 = .ok (.aload_n 0, 1) := by decide +kernel
theorem d_O_closeList_6 : decode b_O_closeList 6 = .ok (.getfield 96, 3) := by decide +kernel
theorem d_O_closeList_9 : decode b_O_closeList 9 = .ok (.iaload, 1) := by decide +kernel
theorem d_O_closeList_10 : decode b_O_closeList 10 = .ok (.putfield 99, 3) := by decide +kernel
theorem d_O_closeList_13 : decode b_O_closeList 13 = .ok (.aload_n 0, 1) := by decide +kernel
theorem d_O_closeList_14 : decode b_O_closeList 14 = .ok (.aload_n 0, 1) := by decide +kernel
theorem d_O_closeList_15 : decode b_O_closeList 15 = .ok (.getfield 41, 3) := by decide +kernel
theorem d_O_closeList_18 : decode b_O_closeList 18 = .ok (.aload_n 0, 1) := by decide +kernel
theorem d_O_closeList_19 : decode b_O_closeList 19 = .ok (.getfield 96, 3) := by decide +kernel
theorem d_O_closeList_22 : decode b_O_closeList 22 = .ok (.baload, 1) := by decide +kernel
theorem d_O_closeList_23 : decode b_O_closeList 23 = .ok (.putfield 102, 3) := by decide +kernel
theorem d_O_closeList_26 : decode b_O_closeList 26 = .ok (.aload_n 0, 1) := by decide +kernel
theorem d_O_closeList_27 : decode b_O_closeList 27 = .ok (.dup, 1) := by decide +kernel
theorem d_O_closeList_28 : decode b_O_closeList 28 = .ok (.getfield 96, 3) := by decide +kernel
theorem d_O_closeList_31 : decode b_O_closeList 31 = .ok (.iconst 1, 1) := by decide +kernel
theorem d_O_closeList_32 : decode b_O_closeList 32 = .ok (.isub, 1) := by decide +kernel
theorem d_O_closeList_33 : decode b_O_closeList 33 = .ok (.putfield 96, 3) := by decide +kernel
theorem d_O_closeList_36 : decode b_O_closeList 36 = .ok (.aload_n 0, 1) := by decide +kernel
theorem d_O_closeList_37 : decode b_O_closeList 37 = .ok (.getfield 96, 3) := by decide +kernel
theorem d_O_closeList_40 : decode b_O_closeList 40 = .ok (.ifCond .le 36, 3) := by decide +kernel
theorem d_O_closeList_43 : decode b_O_closeList 43 = .ok (.aload_n 0, 1) := by decide +kernel
theorem d_O_closeList_44 : decode b_O_closeList 44 = .ok (.getfield 41, 3) := by decide +kernel
theorem d_O_closeList_47 : decode b_O_closeList 47 = .ok (.aload_n 0, 1) := by decide +kernel
theorem d_O_closeList_48 : decode b_O_closeList 48 = .ok (.getfield 96, 3) := by decide +kernel
theorem d_O_closeList_51 : decode b_O_closeList 51 = .ok (.aload_n 0, 1) := by decide +kernel
theorem d_O_closeList_52 : decode b_O_closeList 52 = .ok (.getfield 41, 3) := by decide +kernel
theorem d_O_closeList_55 : decode b_O_closeList 55 = .ok (.aload_n 0, 1) := by decide +kernel
theorem d_O_closeList_56 : decode b_O_closeList 56 = .ok (.getfield 96, 3) := by decide +kernel
theorem d_O_closeList_59 : decode b_O_closeList 59 = .ok (.baload, 1) := by decide +kernel
theorem d_O_closeList_60 : decode b_O_closeList 60 = .ok (.ifCond .ne 10, 3) := by decide +kernel
theorem d_O_closeList_63 : decode b_O_closeList 63 = .ok (.aload_n 0, 1) := by decide +kernel
theorem d_O_closeList_64 : decode b_O_closeList 64 = .ok (.getfield 102, 3) := by decide +kernel
theorem d_O_closeList_67 : decode b_O_closeList 67 = .ok (.ifCond .eq 7, 3) := by decide +kernel
theorem d_O_closeList_70 : decode b_O_closeList 70 = .ok (.iconst 1, 1) := by decide +kernel
theorem d_O_closeList_71 : decode b_O_closeList 71 = .ok (.goto 4, 3) := by decide +kernel
theorem d_O_closeList_74 : decode b_O_closeList 74 = .ok (.iconst 0, 1) := by decide +kernel
theorem d_O_closeList_75 : decode b_O_closeList 75 = .ok (.bastore, 1) := by decide +kernel
theorem d_O_closeList_76 : decode b_O_closeList 76 = .ok (.return_, 1) := by decide +kernel
theorem d_O_addVariable_0 : decode b_O_addVariable 0 = .ok (.iconst 1, 1) := by decide +kernel
theorem d_O_addVariable_1 : decode b_O_addVariable 1 = .ok (.aload_n 0, 1) := by decide +kernel
theorem d_O_addVariable_2 : decode b_O_addVariable 2 = .ok (.getfield 13, 3) := by decide +kernel
theorem d_O_addVariable_5 : decode b_O_addVariable 5 = .ok (.iload_n 1, 1) := by decide +kernel
theorem d_O_addVariable_6 : decode b_O_addVariable 6 = .ok (.iaload, 1) := by decide +kernel
theorem d_O_addVariable_7 : decode b_O_addVariable 7 = .ok (.invokestatic 106, 3) := by decide +kernel
theorem d_O_addVariable_10 : decode b_O_addVariable 10 = .ok (.ishl, 1) := by decide +kernel
theorem d_O_addVariable_11 : decode b_O_addVariable 11 = .ok (.istore_n 2, 1) := by decide +kernel
theorem d_O_addVariable_12 : decode b_O_addVariable 12 = .ok (.aload_n 0, 1) := by decide +kernel
theorem d_O_addVariable_13 : decode b_O_addVariable 13 = .ok (.getfield 110, 3) := by decide +kernel
theorem d_O_addVariable_16 : decode b_O_addVariable 16 = .ok (.iload_n 2, 1) := by decide +kernel
theorem d_O_addVariable_17 : decode b_O_addVariable 17 = .ok (.iand, 1) := by decide +kernel
theorem d_O_addVariable_18 : decode b_O_addVariable 18 = .ok (.ifCond .eq 5, 3) := by decide +kernel
theorem d_O_addVariable_21 : decode b_O_addVariable 21 = .ok (.iconst 0, 1) := by decide +kernel
theorem d_O_addVariable_22 : decode b_O_addVariable 22 = .ok (.ireturn, 1) := by decide +kernel
theorem d_O_addVariable_23 : decode b_O_addVariable 23 = .ok (.aload_n 0, 1) := by decide +kernel
theorem d_O_addVariable_24 : decode b_O_addVariable 24 = .ok (.dup, 1) := by decide +kernel
theorem d_O_addVariable_25 : decode b_O_addVariable 25 = .ok (.getfield 110, 3) := by decide +kernel
theorem d_O_addVariable_28 : decode b_O_addVariable 28 = .ok (.iload_n 2, 1) := by decide +kernel
theorem d_O_addVariable_29 : decode b_O_addVariable 29 = .ok (.ior, 1) := by decide +kernel
theorem d_O_addVariable_30 : decode b_O_addVariable 30 = .ok (.putfield 110, 3) := by decide +kernel
theorem d_O_addVariable_33 : decode b_O_addVariable 33 = .ok (.aload_n 0, 1) := by decide +kernel
theorem d_O_addVariable_34 : decode b_O_addVariable 34 = .ok (.iload_n 1, 1) := by decide +kernel
theorem d_O_addVariable_35 : decode b_O_addVariable 35 = .ok (.invokevirtual 113, 3) := by decide +kernel
theorem d_O_addVariable_38 : decode b_O_addVariable 38 = .ok (.iconst 1, 1) := by decide +kernel
theorem d_O_addVariable_39 : decode b_O_addVariable 39 = .ok (.ireturn, 1) := by decide +kernel
theorem d_O_letterOf_0 : decode b_O_letterOf 0 = .ok (.iload_n 0, 1) := by decide +kernel
theorem d_O_letterOf_1 : decode b_O_letterOf 1 = .ok (.bipush 100, 2) := by decide +kernel
theorem d_O_letterOf_3 : decode b_O_letterOf 3 = .ok (.isub, 1) := by decide +kernel
theorem d_O_letterOf_4 : decode b_O_letterOf 4 = .ok (.bipush 31, 2) := by decide +kernel
theorem d_O_letterOf_6 : decode b_O_letterOf 6 = .ok (.iand, 1) := by decide +kernel
theorem d_O_letterOf_7 : decode b_O_letterOf 7 = .ok (.ireturn, 1) := by decide +kernel
theorem d_O_setItem_0 : decode b_O_setItem 0 = .ok (.aload_n 0, 1) := by decide +kernel
theorem d_O_setItem_1 : decode b_O_setItem 1 = .ok (.iload_n 1, 1) := by decide +kernel
theorem d_O_setItem_2 : decode b_O_setItem 2 = .ok (.putfield 99, 3) := by decide +kernel
theorem d_O_setItem_5 : decode b_O_setItem 5 = .ok (.aload_n 0, 1) := by decide +kernel
theorem d_O_setItem_6 : decode b_O_setItem 6 = .ok (.iconst 0, 1) := by decide +kernel
theorem d_O_setItem_7 : decode b_O_setItem 7 = .ok (.putfield 102, 3) := by decide +kernel
theorem d_O_setItem_10 : decode b_O_setItem 10 = .ok (.return_, 1) := by decide +kernel
theorem d_O_tilde_0 : decode b_O_tilde 0 = .ok (.aload_n 0, 1) := by decide +kernel
theorem d_O_tilde_1 : decode b_O_tilde 1 = .ok (.getfield 99, 3) := by decide +kernel
theorem d_O_tilde_4 : decode b_O_tilde 4 = .ok (.ifCond .lt 10, 3) := by decide +kernel
theorem d_O_tilde_7 : decode b_O_tilde 7 = .ok (.aload_n 0, 1) := by decide +kernel
theorem d_O_tilde_8 : decode b_O_tilde 8 = .ok (.getfield 102, 3) := by decide +kernel
theorem d_O_tilde_11 : decode b_O_tilde 11 = .ok (.ifCond .eq 5, 3) := by decide +kernel
theorem d_O_tilde_14 : decode b_O_tilde 14 = .ok (.iconst 0, 1) := by decide +kernel
theorem d_O_tilde_15 : decode b_O_tilde 15 = .ok (.ireturn, 1) := by decide +kernel
theorem d_O_tilde_16 : decode b_O_tilde 16 = .ok (.aload_n 0, 1) := by decide +kernel
theorem d_O_tilde_17 : decode b_O_tilde 17 = .ok (.getfield 41, 3) := by decide +kernel
theorem d_O_tilde_20 : decode b_O_tilde 20 = .ok (.aload_n 0, 1) := by decide +kernel
theorem d_O_tilde_21 : decode b_O_tilde 21 = .ok (.getfield 96, 3) := by decide +kernel
theorem d_O_tilde_24 : decode b_O_tilde 24 = .ok (.iconst 1, 1) := by decide +kernel
theorem d_O_tilde_25 : decode b_O_tilde 25 = .ok (.bastore, 1) := by decide +kernel
theorem d_O_tilde_26 : decode b_O_tilde 26 = .ok (.iconst 1, 1) := by decide +kernel
theorem d_O_tilde_27 : decode b_O_tilde 27 = .ok (.ireturn, 1) := by decide +kernel
theorem d_O_makeMany_0 : decode b_O_makeMany 0 = .ok (.iload_n 1, 1) := by decide +kernel
theorem d_O_makeMany_1 : decode b_O_makeMany 1 = .ok (.istore_n 3, 1) := by decide +kernel
theorem d_O_makeMany_2 : decode b_O_makeMany 2 = .ok (.iload_n 3, 1) := by decide +kernel
theorem d_O_makeMany_3 : decode b_O_makeMany 3 = .ok (.iload_n 2, 1) := by decide +kernel
theorem d_O_makeMany_4 : decode b_O_makeMany 4 = .ok (.if_icmp .ge 41, 3) := by decide +kernel
theorem d_O_makeMany_7 : decode b_O_makeMany 7 = .ok (.aload_n 0, 1) := by decide +kernel
theorem d_O_makeMany_8 : decode b_O_makeMany 8 = .ok (.getfield 13, 3) := by decide +kernel
theorem d_O_makeMany_11 : decode b_O_makeMany 11 = .ok (.iload_n 3, 1) := by decide +kernel
theorem d_O_makeMany_12 : decode b_O_makeMany 12 = .ok (.iaload, 1) := by decide +kernel
theorem d_O_makeMany_13 : decode b_O_makeMany 13 = .ok (.invokestatic 86, 3) := by decide +kernel
theorem d_O_makeMany_16 : decode b_O_makeMany 16 = .ok (.ifCond .eq 23, 3) := by decide +kernel
theorem d_O_makeMany_19 : decode b_O_makeMany 19 = .ok (.aload_n 0, 1) := by decide +kernel
theorem d_O_makeMany_20 : decode b_O_makeMany 20 = .ok (.dup, 1) := by decide +kernel
theorem d_O_makeMany_21 : decode b_O_makeMany 21 = .ok (.getfield 117, 3) := by decide +kernel
theorem d_O_makeMany_24 : decode b_O_makeMany 24 = .ok (.iconst 1, 1) := by decide +kernel
theorem d_O_makeMany_25 : decode b_O_makeMany 25 = .ok (.aload_n 0, 1) := by decide +kernel
theorem d_O_makeMany_26 : decode b_O_makeMany 26 = .ok (.getfield 13, 3) := by decide +kernel
theorem d_O_makeMany_29 : decode b_O_makeMany 29 = .ok (.iload_n 3, 1) := by decide +kernel
theorem d_O_makeMany_30 : decode b_O_makeMany 30 = .ok (.iaload, 1) := by decide +kernel
theorem d_O_makeMany_31 : decode b_O_makeMany 31 = .ok (.invokestatic 106, 3) := by decide +kernel
theorem d_O_makeMany_34 : decode b_O_makeMany 34 = .ok (.ishl, 1) := by decide +kernel
theorem d_O_makeMany_35 : decode b_O_makeMany 35 = .ok (.ior, 1) := by decide +kernel
theorem d_O_makeMany_36 : decode b_O_makeMany 36 = .ok (.putfield 117, 3) := by decide +kernel
theorem d_O_makeMany_39 : decode b_O_makeMany 39 = .ok (.iinc 3 1, 3) := by decide +kernel
theorem d_O_makeMany_42 : decode b_O_makeMany 42 = .ok (.goto (-40), 3) := by decide +kernel
theorem d_O_makeMany_45 : decode b_O_makeMany 45 = .ok (.return_, 1) := by decide +kernel
theorem d_O_isTemplate_0 : decode b_O_isTemplate 0 = .ok (.aload_n 0, 1) := by decide +kernel
theorem d_O_isTemplate_1 : decode b_O_isTemplate 1 = .ok (.invokevirtual 137, 3) := by decide +kernel
theorem d_O_isTemplate_4 : decode b_O_isTemplate 4 = .ok (.iconst 0, 1) := by decide +kernel
theorem d_O_isTemplate_5 : decode b_O_isTemplate 5 = .ok (.istore_n 2, 1) := by decide +kernel
theorem d_O_isTemplate_6 : decode b_O_isTemplate 6 = .ok (.iload_n 2, 1) := by decide +kernel
theorem d_O_isTemplate_7 : decode b_O_isTemplate 7 = .ok (.bipush 60, 2) := by decide +kernel
theorem d_O_isTemplate_9 : decode b_O_isTemplate 9 = .ok (.if_icmp .gt 16, 3) := by decide +kernel
theorem d_O_isTemplate_12 : decode b_O_isTemplate 12 = .ok (.aload_n 0, 1) := by decide +kernel
theorem d_O_isTemplate_13 : decode b_O_isTemplate 13 = .ok (.getfield 45, 3) := by decide +kernel
theorem d_O_isTemplate_16 : decode b_O_isTemplate 16 = .ok (.iload_n 2, 1) := by decide +kernel
theorem d_O_isTemplate_17 : decode b_O_isTemplate 17 = .ok (.iconst 0, 1) := by decide +kernel
theorem d_O_isTemplate_18 : decode b_O_isTemplate 18 = .ok (.bastore, 1) := by decide +kernel
theorem d_O_isTemplate_19 : decode b_O_isTemplate 19 = .ok (.iinc 2 1, 3) := by decide +kernel
theorem d_O_isTemplate_22 : decode b_O_isTemplate 22 = .ok (.goto (-16), 3) := by decide +kernel
theorem d_O_isTemplate_25 : decode b_O_isTemplate 25 = .ok (.iload_n 1, 1) := by decide +kernel
theorem d_O_isTemplate_26 : decode b_O_isTemplate 26 = .ok (.istore_n 2, 1) := by decide +kernel
theorem d_O_isTemplate_27 : decode b_O_isTemplate 27 = .ok (.iconst 1, 1) := by decide +kernel
theorem d_O_isTemplate_28 : decode b_O_isTemplate 28 = .ok (.istore_n 3, 1) := by decide +kernel
theorem d_O_isTemplate_29 : decode b_O_isTemplate 29 = .ok (.iload_n 3, 1) := by decide +kernel
theorem d_O_isTemplate_30 : decode b_O_isTemplate 30 = .ok (.ifCond .eq 40, 3) := by decide +kernel
theorem d_O_isTemplate_33 : decode b_O_isTemplate 33 = .ok (.iload_n 2, 1) := by decide +kernel
theorem d_O_isTemplate_34 : decode b_O_isTemplate 34 = .ok (.aload_n 0, 1) := by decide +kernel
theorem d_O_isTemplate_35 : decode b_O_isTemplate 35 = .ok (.getfield 79, 3) := by decide +kernel
theorem d_O_isTemplate_38 : decode b_O_isTemplate 38 = .ok (.if_icmp .ge 11, 3) := by decide +kernel
theorem d_O_isTemplate_41 : decode b_O_isTemplate 41 = .ok (.aload_n 0, 1) := by decide +kernel
theorem d_O_isTemplate_42 : decode b_O_isTemplate 42 = .ok (.iload_n 2, 1) := by decide +kernel
theorem d_O_isTemplate_43 : decode b_O_isTemplate 43 = .ok (.invokevirtual 147, 3) := by decide +kernel
theorem d_O_isTemplate_46 : decode b_O_isTemplate 46 = .ok (.ifCond .ne 5, 3) := by decide +kernel
theorem d_O_isTemplate_49 : decode b_O_isTemplate 49 = .ok (.iconst 0, 1) := by decide +kernel
theorem d_O_isTemplate_50 : decode b_O_isTemplate 50 = .ok (.ireturn, 1) := by decide +kernel
theorem d_O_isTemplate_51 : decode b_O_isTemplate 51 = .ok (.iinc 2 1, 3) := by decide +kernel
theorem d_O_isTemplate_54 : decode b_O_isTemplate 54 = .ok (.aload_n 0, 1) := by decide +kernel
theorem d_O_isTemplate_55 : decode b_O_isTemplate 55 = .ok (.getfield 96, 3) := by decide +kernel
theorem d_O_isTemplate_58 : decode b_O_isTemplate 58 = .ok (.ifCond .le 7, 3) := by decide +kernel
theorem d_O_isTemplate_61 : decode b_O_isTemplate 61 = .ok (.iconst 1, 1) := by decide +kernel
theorem d_O_isTemplate_62 : decode b_O_isTemplate 62 = .ok (.goto 4, 3) := by decide +kernel
theorem d_O_isTemplate_65 : decode b_O_isTemplate 65 = .ok (.iconst 0, 1) := by decide +kernel
theorem d_O_isTemplate_66 : decode b_O_isTemplate 66 = .ok (.istore_n 3, 1) := by decide +kernel
theorem d_O_isTemplate_67 : decode b_O_isTemplate 67 = .ok (.goto (-38), 3) := by decide +kernel
theorem d_O_isTemplate_70 : decode b_O_isTemplate 70 = .ok (.iload_n 2, 1) := by decide +kernel
theorem d_O_isTemplate_71 : decode b_O_isTemplate 71 = .ok (.aload_n 0, 1) := by decide +kernel
theorem d_O_isTemplate_72 : decode b_O_isTemplate 72 = .ok (.getfield 79, 3) := by decide +kernel
theorem d_O_isTemplate_75 : decode b_O_isTemplate 75 = .ok (.if_icmp .eq 5, 3) := by decide +kernel
theorem d_O_isTemplate_78 : decode b_O_isTemplate 78 = .ok (.iconst 0, 1) := by decide +kernel
theorem d_O_isTemplate_79 : decode b_O_isTemplate 79 = .ok (.ireturn, 1) := by decide +kernel
theorem d_O_isTemplate_80 : decode b_O_isTemplate 80 = .ok (.iconst 1, 1) := by decide +kernel
theorem d_O_isTemplate_81 : decode b_O_isTemplate 81 = .ok (.istore 4, 2) := by decide +kernel
theorem d_O_isTemplate_83 : decode b_O_isTemplate 83 = .ok (.iload_n 1, 1) := by decide +kernel
theorem d_O_isTemplate_84 : decode b_O_isTemplate 84 = .ok (.istore 5, 2) := by decide +kernel
theorem d_O_isTemplate_86 : decode b_O_isTemplate 86 = .ok (.iload 5, 2) := by decide +kernel
theorem d_O_isTemplate_88 : decode b_O_isTemplate 88 = .ok (.aload_n 0, 1) := by decide +kernel
theorem d_O_isTemplate_89 : decode b_O_isTemplate 89 = .ok (.getfield 79, 3) := by decide +kernel
theorem d_O_isTemplate_92 : decode b_O_isTemplate 92 = .ok (.if_icmp .ge 64, 3) := by decide +kernel
theorem d_O_isTemplate_95 : decode b_O_isTemplate 95 = .ok (.iload 4, 2) := by decide +kernel
theorem d_O_isTemplate_97 : decode b_O_isTemplate 97 = .ok (.ifCond .eq 50, 3) := by decide +kernel
theorem d_O_isTemplate_100 : decode b_O_isTemplate 100 = .ok (.aload_n 0, 1) := by decide +kernel
theorem d_O_isTemplate_101 : decode b_O_isTemplate 101 = .ok (.getfield 45, 3) := by decide +kernel
theorem d_O_isTemplate_104 : decode b_O_isTemplate 104 = .ok (.iload 5, 2) := by decide +kernel
theorem d_O_isTemplate_106 : decode b_O_isTemplate 106 = .ok (.baload, 1) := by decide +kernel
theorem d_O_isTemplate_107 : decode b_O_isTemplate 107 = .ok (.ifCond .ne 36, 3) := by decide +kernel
theorem d_O_isTemplate_110 : decode b_O_isTemplate 110 = .ok (.aload_n 0, 1) := by decide +kernel
theorem d_O_isTemplate_111 : decode b_O_isTemplate 111 = .ok (.getfield 13, 3) := by decide +kernel
theorem d_O_isTemplate_114 : decode b_O_isTemplate 114 = .ok (.iload 5, 2) := by decide +kernel
theorem d_O_isTemplate_116 : decode b_O_isTemplate 116 = .ok (.iaload, 1) := by decide +kernel
theorem d_O_isTemplate_117 : decode b_O_isTemplate 117 = .ok (.invokestatic 86, 3) := by decide +kernel
theorem d_O_isTemplate_120 : decode b_O_isTemplate 120 = .ok (.ifCond .eq 23, 3) := by decide +kernel
theorem d_O_isTemplate_123 : decode b_O_isTemplate 123 = .ok (.aload_n 0, 1) := by decide +kernel
theorem d_O_isTemplate_124 : decode b_O_isTemplate 124 = .ok (.getfield 117, 3) := by decide +kernel
theorem d_O_isTemplate_127 : decode b_O_isTemplate 127 = .ok (.aload_n 0, 1) := by decide +kernel
theorem d_O_isTemplate_128 : decode b_O_isTemplate 128 = .ok (.getfield 13, 3) := by decide +kernel
theorem d_O_isTemplate_131 : decode b_O_isTemplate 131 = .ok (.iload 5, 2) := by decide +kernel
theorem d_O_isTemplate_133 : decode b_O_isTemplate 133 = .ok (.iaload, 1) := by decide +kernel
theorem d_O_isTemplate_134 : decode b_O_isTemplate 134 = .ok (.invokestatic 106, 3) := by decide +kernel
theorem d_O_isTemplate_137 : decode b_O_isTemplate 137 = .ok (.ishr, 1) := by decide +kernel
theorem d_O_isTemplate_138 : decode b_O_isTemplate 138 = .ok (.iconst 1, 1) := by decide +kernel
theorem d_O_isTemplate_139 : decode b_O_isTemplate 139 = .ok (.iand, 1) := by decide +kernel
theorem d_O_isTemplate_140 : decode b_O_isTemplate 140 = .ok (.ifCond .ne 7, 3) := by decide +kernel
theorem d_O_isTemplate_143 : decode b_O_isTemplate 143 = .ok (.iconst 1, 1) := by decide +kernel
theorem d_O_isTemplate_144 : decode b_O_isTemplate 144 = .ok (.goto 4, 3) := by decide +kernel
theorem d_O_isTemplate_147 : decode b_O_isTemplate 147 = .ok (.iconst 0, 1) := by decide +kernel
theorem d_O_isTemplate_148 : decode b_O_isTemplate 148 = .ok (.istore 4, 2) := by decide +kernel
theorem d_O_isTemplate_150 : decode b_O_isTemplate 150 = .ok (.iinc 5 1, 3) := by decide +kernel
theorem d_O_isTemplate_153 : decode b_O_isTemplate 153 = .ok (.goto (-67), 3) := by decide +kernel
theorem d_O_isTemplate_156 : decode b_O_isTemplate 156 = .ok (.iload 4, 2) := by decide +kernel
theorem d_O_isTemplate_158 : decode b_O_isTemplate 158 = .ok (.ireturn, 1) := by decide +kernel
theorem d_O_templateToken_0 : decode b_O_templateToken 0 = .ok (.aload_n 0, 1) := by decide +kernel
theorem d_O_templateToken_1 : decode b_O_templateToken 1 = .ok (.getfield 13, 3) := by decide +kernel
theorem d_O_templateToken_4 : decode b_O_templateToken 4 = .ok (.iload_n 1, 1) := by decide +kernel
theorem d_O_templateToken_5 : decode b_O_templateToken 5 = .ok (.iaload, 1) := by decide +kernel
theorem d_O_templateToken_6 : decode b_O_templateToken 6 = .ok (.istore_n 2, 1) := by decide +kernel
theorem d_O_templateToken_7 : decode b_O_templateToken 7 = .ok (.iload_n 2, 1) := by decide +kernel
theorem d_O_templateToken_8 : decode b_O_templateToken 8 = .ok (.iconst 1, 1) := by decide +kernel
theorem d_O_templateToken_9 : decode b_O_templateToken 9 = .ok (.if_icmp .ne 9, 3) := by decide +kernel
theorem d_O_templateToken_12 : decode b_O_templateToken 12 = .ok (.aload_n 0, 1) := by decide +kernel
theorem d_O_templateToken_13 : decode b_O_templateToken 13 = .ok (.iload_n 1, 1) := by decide +kernel
theorem d_O_templateToken_14 : decode b_O_templateToken 14 = .ok (.invokevirtual 120, 3) := by decide +kernel
theorem d_O_templateToken_17 : decode b_O_templateToken 17 = .ok (.ireturn, 1) := by decide +kernel
theorem d_O_templateToken_18 : decode b_O_templateToken 18 = .ok (.iload_n 2, 1) := by decide +kernel
theorem d_O_templateToken_19 : decode b_O_templateToken 19 = .ok (.iconst 2, 1) := by decide +kernel
theorem d_O_templateToken_20 : decode b_O_templateToken 20 = .ok (.if_icmp .ne 18, 3) := by decide +kernel
theorem d_O_templateToken_23 : decode b_O_templateToken 23 = .ok (.aload_n 0, 1) := by decide +kernel
theorem d_O_templateToken_24 : decode b_O_templateToken 24 = .ok (.getfield 96, 3) := by decide +kernel
theorem d_O_templateToken_27 : decode b_O_templateToken 27 = .ok (.ifCond .ne 5, 3) := by decide +kernel
theorem d_O_templateToken_30 : decode b_O_templateToken 30 = .ok (.iconst 0, 1) := by decide +kernel
theorem d_O_templateToken_31 : decode b_O_templateToken 31 = .ok (.ireturn, 1) := by decide +kernel
theorem d_O_templateToken_32 : decode b_O_templateToken 32 = .ok (.aload_n 0, 1) := by decide +kernel
theorem d_O_templateToken_33 : decode b_O_templateToken 33 = .ok (.invokevirtual 123, 3) := by decide +kernel
theorem d_O_templateToken_36 : decode b_O_templateToken 36 = .ok (.iconst 1, 1) := by decide +kernel
theorem d_O_templateToken_37 : decode b_O_templateToken 37 = .ok (.ireturn, 1) := by decide +kernel
theorem d_O_templateToken_38 : decode b_O_templateToken 38 = .ok (.iload_n 2, 1) := by decide +kernel
theorem d_O_templateToken_39 : decode b_O_templateToken 39 = .ok (.bipush 7, 2) := by decide +kernel
theorem d_O_templateToken_41 : decode b_O_templateToken 41 = .ok (.if_icmp .ne 61, 3) := by decide +kernel
theorem d_O_templateToken_44 : decode b_O_templateToken 44 = .ok (.aload_n 0, 1) := by decide +kernel
theorem d_O_templateToken_45 : decode b_O_templateToken 45 = .ok (.getfield 96, 3) := by decide +kernel
theorem d_O_templateToken_48 : decode b_O_templateToken 48 = .ok (.ifCond .eq 22, 3) := by decide +kernel
theorem d_O_templateToken_51 : decode b_O_templateToken 51 = .ok (.aload_n 0, 1) := by decide +kernel
theorem d_O_templateToken_52 : decode b_O_templateToken 52 = .ok (.invokevirtual 129, 3) := by decide +kernel
theorem d_O_templateToken_55 : decode b_O_templateToken 55 = .ok (.ifCond .eq 15, 3) := by decide +kernel
theorem d_O_templateToken_58 : decode b_O_templateToken 58 = .ok (.aload_n 0, 1) := by decide +kernel
theorem d_O_templateToken_59 : decode b_O_templateToken 59 = .ok (.aload_n 0, 1) := by decide +kernel
theorem d_O_templateToken_60 : decode b_O_templateToken 60 = .ok (.getfield 99, 3) := by decide +kernel
theorem d_O_templateToken_63 : decode b_O_templateToken 63 = .ok (.iload_n 1, 1) := by decide +kernel
theorem d_O_templateToken_64 : decode b_O_templateToken 64 = .ok (.invokevirtual 143, 3) := by decide +kernel
theorem d_O_templateToken_67 : decode b_O_templateToken 67 = .ok (.ifCond .ne 5, 3) := by decide +kernel
theorem d_O_templateToken_70 : decode b_O_templateToken 70 = .ok (.iconst 0, 1) := by decide +kernel
theorem d_O_templateToken_71 : decode b_O_templateToken 71 = .ok (.ireturn, 1) := by decide +kernel
theorem d_O_templateToken_72 : decode b_O_templateToken 72 = .ok (.aload_n 0, 1) := by decide +kernel
theorem d_O_templateToken_73 : decode b_O_templateToken 73 = .ok (.getfield 99, 3) := by decide +kernel
theorem d_O_templateToken_76 : decode b_O_templateToken 76 = .ok (.istore_n 3, 1) := by decide +kernel
theorem d_O_templateToken_77 : decode b_O_templateToken 77 = .ok (.iload_n 3, 1) := by decide +kernel
theorem d_O_templateToken_78 : decode b_O_templateToken 78 = .ok (.iload_n 1, 1) := by decide +kernel
theorem d_O_templateToken_79 : decode b_O_templateToken 79 = .ok (.if_icmp .ge 16, 3) := by decide +kernel
theorem d_O_templateToken_82 : decode b_O_templateToken 82 = .ok (.aload_n 0, 1) := by decide +kernel
theorem d_O_templateToken_83 : decode b_O_templateToken 83 = .ok (.getfield 45, 3) := by decide +kernel
theorem d_O_templateToken_86 : decode b_O_templateToken 86 = .ok (.iload_n 3, 1) := by decide +kernel
theorem d_O_templateToken_87 : decode b_O_templateToken 87 = .ok (.iconst 1, 1) := by decide +kernel
theorem d_O_templateToken_88 : decode b_O_templateToken 88 = .ok (.bastore, 1) := by decide +kernel
theorem d_O_templateToken_89 : decode b_O_templateToken 89 = .ok (.iinc 3 1, 3) := by decide +kernel
theorem d_O_templateToken_92 : decode b_O_templateToken 92 = .ok (.goto (-15), 3) := by decide +kernel
theorem d_O_templateToken_95 : decode b_O_templateToken 95 = .ok (.aload_n 0, 1) := by decide +kernel
theorem d_O_templateToken_96 : decode b_O_templateToken 96 = .ok (.iconst (-1), 1) := by decide +kernel
theorem d_O_templateToken_97 : decode b_O_templateToken 97 = .ok (.putfield 99, 3) := by decide +kernel
theorem d_O_templateToken_100 : decode b_O_templateToken 100 = .ok (.iconst 1, 1) := by decide +kernel
theorem d_O_templateToken_101 : decode b_O_templateToken 101 = .ok (.ireturn, 1) := by decide +kernel
theorem d_O_templateToken_102 : decode b_O_templateToken 102 = .ok (.iload_n 2, 1) := by decide +kernel
theorem d_O_templateToken_103 : decode b_O_templateToken 103 = .ok (.invokestatic 86, 3) := by decide +kernel
theorem d_O_templateToken_106 : decode b_O_templateToken 106 = .ok (.ifCond .ne 19, 3) := by decide +kernel
theorem d_O_templateToken_109 : decode b_O_templateToken 109 = .ok (.iload_n 2, 1) := by decide +kernel
theorem d_O_templateToken_110 : decode b_O_templateToken 110 = .ok (.invokestatic 93, 3) := by decide +kernel
theorem d_O_templateToken_113 : decode b_O_templateToken 113 = .ok (.ifCond .ne 12, 3) := by decide +kernel
theorem d_O_templateToken_116 : decode b_O_templateToken 116 = .ok (.iload_n 2, 1) := by decide +kernel
theorem d_O_templateToken_117 : decode b_O_templateToken 117 = .ok (.invokestatic 90, 3) := by decide +kernel
theorem d_O_templateToken_120 : decode b_O_templateToken 120 = .ok (.ifCond .ne 5, 3) := by decide +kernel
theorem d_O_templateToken_123 : decode b_O_templateToken 123 = .ok (.iconst 0, 1) := by decide +kernel
theorem d_O_templateToken_124 : decode b_O_templateToken 124 = .ok (.ireturn, 1) := by decide +kernel
theorem d_O_templateToken_125 : decode b_O_templateToken 125 = .ok (.aload_n 0, 1) := by decide +kernel
theorem d_O_templateToken_126 : decode b_O_templateToken 126 = .ok (.iload_n 1, 1) := by decide +kernel
theorem d_O_templateToken_127 : decode b_O_templateToken 127 = .ok (.invokevirtual 113, 3) := by decide +kernel
theorem d_O_templateToken_130 : decode b_O_templateToken 130 = .ok (.iconst 1, 1) := by decide +kernel
theorem d_O_templateToken_131 : decode b_O_templateToken 131 = .ok (.ireturn, 1) := by decide +kernel
theorem d_O_hasMany_0 : decode b_O_hasMany 0 = .ok (.iconst 0, 1) := by decide +kernel
theorem d_O_hasMany_1 : decode b_O_hasMany 1 = .ok (.istore_n 3, 1) := by decide +kernel
theorem d_O_hasMany_2 : decode b_O_hasMany 2 = .ok (.iload_n 1, 1) := by decide +kernel
theorem d_O_hasMany_3 : decode b_O_hasMany 3 = .ok (.istore 4, 2) := by decide +kernel
theorem d_O_hasMany_5 : decode b_O_hasMany 5 = .ok (.iload 4, 2) := by decide +kernel
theorem d_O_hasMany_7 : decode b_O_hasMany 7 = .ok (.iload_n 2, 1) := by decide +kernel
theorem d_O_hasMany_8 : decode b_O_hasMany 8 = .ok (.if_icmp .ge 53, 3) := by decide +kernel
theorem d_O_hasMany_11 : decode b_O_hasMany 11 = .ok (.iload_n 3, 1) := by decide +kernel
theorem d_O_hasMany_12 : decode b_O_hasMany 12 = .ok (.ifCond .ne 37, 3) := by decide +kernel
theorem d_O_hasMany_15 : decode b_O_hasMany 15 = .ok (.aload_n 0, 1) := by decide +kernel
theorem d_O_hasMany_16 : decode b_O_hasMany 16 = .ok (.getfield 13, 3) := by decide +kernel
theorem d_O_hasMany_19 : decode b_O_hasMany 19 = .ok (.iload 4, 2) := by decide +kernel
theorem d_O_hasMany_21 : decode b_O_hasMany 21 = .ok (.iaload, 1) := by decide +kernel
theorem d_O_hasMany_22 : decode b_O_hasMany 22 = .ok (.invokestatic 86, 3) := by decide +kernel
theorem d_O_hasMany_25 : decode b_O_hasMany 25 = .ok (.ifCond .eq 28, 3) := by decide +kernel
theorem d_O_hasMany_28 : decode b_O_hasMany 28 = .ok (.aload_n 0, 1) := by decide +kernel
theorem d_O_hasMany_29 : decode b_O_hasMany 29 = .ok (.getfield 117, 3) := by decide +kernel
theorem d_O_hasMany_32 : decode b_O_hasMany 32 = .ok (.aload_n 0, 1) := by decide +kernel
theorem d_O_hasMany_33 : decode b_O_hasMany 33 = .ok (.getfield 13, 3) := by decide +kernel
theorem d_O_hasMany_36 : decode b_O_hasMany 36 = .ok (.iload 4, 2) := by decide +kernel
theorem d_O_hasMany_38 : decode b_O_hasMany 38 = .ok (.iaload, 1) := by decide +kernel
theorem d_O_hasMany_39 : decode b_O_hasMany 39 = .ok (.invokestatic 106, 3) := by decide +kernel
theorem d_O_hasMany_42 : decode b_O_hasMany 42 = .ok (.ishr, 1) := by decide +kernel
theorem d_O_hasMany_43 : decode b_O_hasMany 43 = .ok (.iconst 1, 1) := by decide +kernel
theorem d_O_hasMany_44 : decode b_O_hasMany 44 = .ok (.iand, 1) := by decide +kernel
theorem d_O_hasMany_45 : decode b_O_hasMany 45 = .ok (.iconst 1, 1) := by decide +kernel
theorem d_O_hasMany_46 : decode b_O_hasMany 46 = .ok (.if_icmp .ne 7, 3) := by decide +kernel
theorem d_O_hasMany_49 : decode b_O_hasMany 49 = .ok (.iconst 1, 1) := by decide +kernel
theorem d_O_hasMany_50 : decode b_O_hasMany 50 = .ok (.goto 4, 3) := by decide +kernel
theorem d_O_hasMany_53 : decode b_O_hasMany 53 = .ok (.iconst 0, 1) := by decide +kernel
theorem d_O_hasMany_54 : decode b_O_hasMany 54 = .ok (.istore_n 3, 1) := by decide +kernel
theorem d_O_hasMany_55 : decode b_O_hasMany 55 = .ok (.iinc 4 1, 3) := by decide +kernel
theorem d_O_hasMany_58 : decode b_O_hasMany 58 = .ok (.goto (-53), 3) := by decide +kernel
theorem d_O_hasMany_61 : decode b_O_hasMany 61 = .ok (.iload_n 3, 1) := by decide +kernel
theorem d_O_hasMany_62 : decode b_O_hasMany 62 = .ok (.ireturn, 1) := by decide +kernel
theorem d_O_countOf_0 : decode b_O_countOf 0 = .ok (.iconst 0, 1) := by decide +kernel
theorem d_O_countOf_1 : decode b_O_countOf 1 = .ok (.istore_n 2, 1) := by decide +kernel
theorem d_O_countOf_2 : decode b_O_countOf 2 = .ok (.iconst 0, 1) := by decide +kernel
theorem d_O_countOf_3 : decode b_O_countOf 3 = .ok (.istore_n 3, 1) := by decide +kernel
theorem d_O_countOf_4 : decode b_O_countOf 4 = .ok (.iload_n 3, 1) := by decide +kernel
theorem d_O_countOf_5 : decode b_O_countOf 5 = .ok (.aload_n 0, 1) := by decide +kernel
theorem d_O_countOf_6 : decode b_O_countOf 6 = .ok (.getfield 150, 3) := by decide +kernel
theorem d_O_countOf_9 : decode b_O_countOf 9 = .ok (.if_icmp .ge 22, 3) := by decide +kernel
theorem d_O_countOf_12 : decode b_O_countOf 12 = .ok (.aload_n 0, 1) := by decide +kernel
theorem d_O_countOf_13 : decode b_O_countOf 13 = .ok (.getfield 17, 3) := by decide +kernel
theorem d_O_countOf_16 : decode b_O_countOf 16 = .ok (.iload_n 3, 1) := by decide +kernel
theorem d_O_countOf_17 : decode b_O_countOf 17 = .ok (.iaload, 1) := by decide +kernel
theorem d_O_countOf_18 : decode b_O_countOf 18 = .ok (.iload_n 1, 1) := by decide +kernel
theorem d_O_countOf_19 : decode b_O_countOf 19 = .ok (.if_icmp .ne 6, 3) := by decide +kernel
theorem d_O_countOf_22 : decode b_O_countOf 22 = .ok (.iinc 2 1, 3) := by decide +kernel
theorem d_O_countOf_25 : decode b_O_countOf 25 = .ok (.iinc 3 1, 3) := by decide +kernel
theorem d_O_countOf_28 : decode b_O_countOf 28 = .ok (.goto (-24), 3) := by decide +kernel
theorem d_O_countOf_31 : decode b_O_countOf 31 = .ok (.iload_n 2, 1) := by decide +kernel
theorem d_O_countOf_32 : decode b_O_countOf 32 = .ok (.ireturn, 1) := by decide +kernel
theorem d_O_moveRule_0 : decode b_O_moveRule 0 = .ok (.aload_n 0, 1) := by decide +kernel
theorem d_O_moveRule_1 : decode b_O_moveRule 1 = .ok (.getfield 17, 3) := by decide +kernel
theorem d_O_moveRule_4 : decode b_O_moveRule 4 = .ok (.iload_n 1, 1) := by decide +kernel
theorem d_O_moveRule_5 : decode b_O_moveRule 5 = .ok (.aload_n 0, 1) := by decide +kernel
theorem d_O_moveRule_6 : decode b_O_moveRule 6 = .ok (.getfield 17, 3) := by decide +kernel
theorem d_O_moveRule_9 : decode b_O_moveRule 9 = .ok (.iload_n 2, 1) := by decide +kernel
theorem d_O_moveRule_10 : decode b_O_moveRule 10 = .ok (.iaload, 1) := by decide +kernel
theorem d_O_moveRule_11 : decode b_O_moveRule 11 = .ok (.iastore, 1) := by decide +kernel
theorem d_O_moveRule_12 : decode b_O_moveRule 12 = .ok (.aload_n 0, 1) := by decide +kernel
theorem d_O_moveRule_13 : decode b_O_moveRule 13 = .ok (.getfield 20, 3) := by decide +kernel
theorem d_O_moveRule_16 : decode b_O_moveRule 16 = .ok (.iload_n 1, 1) := by decide +kernel
theorem d_O_moveRule_17 : decode b_O_moveRule 17 = .ok (.aload_n 0, 1) := by decide +kernel
theorem d_O_moveRule_18 : decode b_O_moveRule 18 = .ok (.getfield 20, 3) := by decide +kernel
theorem d_O_moveRule_21 : decode b_O_moveRule 21 = .ok (.iload_n 2, 1) := by decide +kernel
theorem d_O_moveRule_22 : decode b_O_moveRule 22 = .ok (.iaload, 1) := by decide +kernel
theorem d_O_moveRule_23 : decode b_O_moveRule 23 = .ok (.iastore, 1) := by decide +kernel
theorem d_O_moveRule_24 : decode b_O_moveRule 24 = .ok (.aload_n 0, 1) := by decide +kernel
theorem d_O_moveRule_25 : decode b_O_moveRule 25 = .ok (.getfield 26, 3) := by decide +kernel
theorem d_O_moveRule_28 : decode b_O_moveRule 28 = .ok (.iload_n 1, 1) := by decide +kernel
theorem d_O_moveRule_29 : decode b_O_moveRule 29 = .ok (.aload_n 0, 1) := by decide +kernel
theorem d_O_moveRule_30 : decode b_O_moveRule 30 = .ok (.getfield 26, 3) := by decide +kernel
theorem d_O_moveRule_33 : decode b_O_moveRule 33 = .ok (.iload_n 2, 1) := by decide +kernel
theorem d_O_moveRule_34 : decode b_O_moveRule 34 = .ok (.iaload, 1) := by decide +kernel
theorem d_O_moveRule_35 : decode b_O_moveRule 35 = .ok (.iastore, 1) := by decide +kernel
theorem d_O_moveRule_36 : decode b_O_moveRule 36 = .ok (.aload_n 0, 1) := by decide +kernel
theorem d_O_moveRule_37 : decode b_O_moveRule 37 = .ok (.getfield 32, 3) := by decide +kernel
theorem d_O_moveRule_40 : decode b_O_moveRule 40 = .ok (.iload_n 1, 1) := by decide +kernel
theorem d_O_moveRule_41 : decode b_O_moveRule 41 = .ok (.aload_n 0, 1) := by decide +kernel
theorem d_O_moveRule_42 : decode b_O_moveRule 42 = .ok (.getfield 32, 3) := by decide +kernel
theorem d_O_moveRule_45 : decode b_O_moveRule 45 = .ok (.iload_n 2, 1) := by decide +kernel
theorem d_O_moveRule_46 : decode b_O_moveRule 46 = .ok (.iaload, 1) := by decide +kernel
theorem d_O_moveRule_47 : decode b_O_moveRule 47 = .ok (.iastore, 1) := by decide +kernel
theorem d_O_moveRule_48 : decode b_O_moveRule 48 = .ok (.aload_n 0, 1) := by decide +kernel
theorem d_O_moveRule_49 : decode b_O_moveRule 49 = .ok (.getfield 35, 3) := by decide +kernel
theorem d_O_moveRule_52 : decode b_O_moveRule 52 = .ok (.iload_n 1, 1) := by decide +kernel
theorem d_O_moveRule_53 : decode b_O_moveRule 53 = .ok (.aload_n 0, 1) := by decide +kernel
theorem d_O_moveRule_54 : decode b_O_moveRule 54 = .ok (.getfield 35, 3) := by decide +kernel
theorem d_O_moveRule_57 : decode b_O_moveRule 57 = .ok (.iload_n 2, 1) := by decide +kernel
theorem d_O_moveRule_58 : decode b_O_moveRule 58 = .ok (.iaload, 1) := by decide +kernel
theorem d_O_moveRule_59 : decode b_O_moveRule 59 = .ok (.iastore, 1) := by decide +kernel
theorem d_O_moveRule_60 : decode b_O_moveRule 60 = .ok (.iconst 0, 1) := by decide +kernel
theorem d_O_moveRule_61 : decode b_O_moveRule 61 = .ok (.istore_n 3, 1) := by decide +kernel
theorem d_O_moveRule_62 : decode b_O_moveRule 62 = .ok (.iload_n 3, 1) := by decide +kernel
theorem d_O_moveRule_63 : decode b_O_moveRule 63 = .ok (.bipush 64, 2) := by decide +kernel
theorem d_O_moveRule_65 : decode b_O_moveRule 65 = .ok (.if_icmp .ge 53, 3) := by decide +kernel
theorem d_O_moveRule_68 : decode b_O_moveRule 68 = .ok (.aload_n 0, 1) := by decide +kernel
theorem d_O_moveRule_69 : decode b_O_moveRule 69 = .ok (.getfield 23, 3) := by decide +kernel
theorem d_O_moveRule_72 : decode b_O_moveRule 72 = .ok (.bipush 64, 2) := by decide +kernel
theorem d_O_moveRule_74 : decode b_O_moveRule 74 = .ok (.iload_n 1, 1) := by decide +kernel
theorem d_O_moveRule_75 : decode b_O_moveRule 75 = .ok (.imul, 1) := by decide +kernel
theorem d_O_moveRule_76 : decode b_O_moveRule 76 = .ok (.iload_n 3, 1) := by decide +kernel
theorem d_O_moveRule_77 : decode b_O_moveRule 77 = .ok (.iadd, 1) := by decide +kernel
theorem d_O_moveRule_78 : decode b_O_moveRule 78 = .ok (.aload_n 0, 1) := by decide +kernel
theorem d_O_moveRule_79 : decode b_O_moveRule 79 = .ok (.getfield 23, 3) := by decide +kernel
theorem d_O_moveRule_82 : decode b_O_moveRule 82 = .ok (.bipush 64, 2) := by decide +kernel
theorem d_O_moveRule_84 : decode b_O_moveRule 84 = .ok (.iload_n 2, 1) := by decide +kernel
theorem d_O_moveRule_85 : decode b_O_moveRule 85 = .ok (.imul, 1) := by decide +kernel
theorem d_O_moveRule_86 : decode b_O_moveRule 86 = .ok (.iload_n 3, 1) := by decide +kernel
theorem d_O_moveRule_87 : decode b_O_moveRule 87 = .ok (.iadd, 1) := by decide +kernel
theorem d_O_moveRule_88 : decode b_O_moveRule 88 = .ok (.iaload, 1) := by decide +kernel
theorem d_O_moveRule_89 : decode b_O_moveRule 89 = .ok (.iastore, 1) := by decide +kernel
theorem d_O_moveRule_90 : decode b_O_moveRule 90 = .ok (.aload_n 0, 1) := by decide +kernel
theorem d_O_moveRule_91 : decode b_O_moveRule 91 = .ok (.getfield 29, 3) := by decide +kernel
theorem d_O_moveRule_94 : decode b_O_moveRule 94 = .ok (.bipush 64, 2) := by decide +kernel
theorem d_O_moveRule_96 : decode b_O_moveRule 96 = .ok (.iload_n 1, 1) := by decide +kernel
theorem d_O_moveRule_97 : decode b_O_moveRule 97 = .ok (.imul, 1) := by decide +kernel
theorem d_O_moveRule_98 : decode b_O_moveRule 98 = .ok (.iload_n 3, 1) := by decide +kernel
theorem d_O_moveRule_99 : decode b_O_moveRule 99 = .ok (.iadd, 1) := by decide +kernel
theorem d_O_moveRule_100 : decode b_O_moveRule 100 = .ok (.aload_n 0, 1) := by decide +kernel
theorem d_O_moveRule_101 : decode b_O_moveRule 101 = .ok (.getfield 29, 3) := by decide +kernel
theorem d_O_moveRule_104 : decode b_O_moveRule 104 = .ok (.bipush 64, 2) := by decide +kernel
theorem d_O_moveRule_106 : decode b_O_moveRule 106 = .ok (.iload_n 2, 1) := by decide +kernel
theorem d_O_moveRule_107 : decode b_O_moveRule 107 = .ok (.imul, 1) := by decide +kernel
theorem d_O_moveRule_108 : decode b_O_moveRule 108 = .ok (.iload_n 3, 1) := by decide +kernel
theorem d_O_moveRule_109 : decode b_O_moveRule 109 = .ok (.iadd, 1) := by decide +kernel
theorem d_O_moveRule_110 : decode b_O_moveRule 110 = .ok (.iaload, 1) := by decide +kernel
theorem d_O_moveRule_111 : decode b_O_moveRule 111 = .ok (.iastore, 1) := by decide +kernel
theorem d_O_moveRule_112 : decode b_O_moveRule 112 = .ok (.iinc 3 1, 3) := by decide +kernel
theorem d_O_moveRule_115 : decode b_O_moveRule 115 = .ok (.goto (-53), 3) := by decide +kernel
theorem d_O_moveRule_118 : decode b_O_moveRule 118 = .ok (.return_, 1) := by decide +kernel
theorem d_O_expandAll_0 : decode b_O_expandAll 0 = .ok (.aload_n 0, 1) := by decide +kernel
theorem d_O_expandAll_1 : decode b_O_expandAll 1 = .ok (.getfield 182, 3) := by decide +kernel
theorem d_O_expandAll_4 : decode b_O_expandAll 4 = .ok (.aload_n 0, 1) := by decide +kernel
theorem d_O_expandAll_5 : decode b_O_expandAll 5 = .ok (.getfield 233, 3) := by decide +kernel
theorem d_O_expandAll_8 : decode b_O_expandAll 8 = .ok (.if_icmp .ge 110, 3) := by decide +kernel
theorem d_O_expandAll_11 : decode b_O_expandAll 11 = .ok (.aload_n 0, 1) := by decide +kernel
theorem d_O_expandAll_12 : decode b_O_expandAll 12 = .ok (.getfield 223, 3) := by decide +kernel
theorem d_O_expandAll_15 : decode b_O_expandAll 15 = .ok (.ifCond .ne 103, 3) := by decide +kernel
theorem d_O_expandAll_18 : decode b_O_expandAll 18 = .ok (.aload_n 0, 1) := by decide +kernel
theorem d_O_expandAll_19 : decode b_O_expandAll 19 = .ok (.getfield 48, 3) := by decide +kernel
theorem d_O_expandAll_22 : decode b_O_expandAll 22 = .ok (.aload_n 0, 1) := by decide +kernel
theorem d_O_expandAll_23 : decode b_O_expandAll 23 = .ok (.getfield 182, 3) := by decide +kernel
theorem d_O_expandAll_26 : decode b_O_expandAll 26 = .ok (.iaload, 1) := by decide +kernel
theorem d_O_expandAll_27 : decode b_O_expandAll 27 = .ok (.istore_n 2, 1) := by decide +kernel
theorem d_O_expandAll_28 : decode b_O_expandAll 28 = .ok (.iload_n 2, 1) := by decide +kernel
theorem d_O_expandAll_29 : decode b_O_expandAll 29 = .ok (.iconst 2, 1) := by decide +kernel
theorem d_O_expandAll_30 : decode b_O_expandAll 30 = .ok (.if_icmp .ne 10, 3) := by decide +kernel
theorem d_O_expandAll_33 : decode b_O_expandAll 33 = .ok (.aload_n 0, 1) := by decide +kernel
theorem d_O_expandAll_34 : decode b_O_expandAll 34 = .ok (.invokevirtual 261, 3) := by decide +kernel
theorem d_O_expandAll_37 : decode b_O_expandAll 37 = .ok (.goto 78, 3) := by decide +kernel
theorem d_O_expandAll_40 : decode b_O_expandAll 40 = .ok (.aload_n 0, 1) := by decide +kernel
theorem d_O_expandAll_41 : decode b_O_expandAll 41 = .ok (.getfield 248, 3) := by decide +kernel
theorem d_O_expandAll_44 : decode b_O_expandAll 44 = .ok (.bipush 12, 2) := by decide +kernel
theorem d_O_expandAll_46 : decode b_O_expandAll 46 = .ok (.if_icmp .ne 11, 3) := by decide +kernel
theorem d_O_expandAll_49 : decode b_O_expandAll 49 = .ok (.aload_n 0, 1) := by decide +kernel
theorem d_O_expandAll_50 : decode b_O_expandAll 50 = .ok (.iconst 3, 1) := by decide +kernel
theorem d_O_expandAll_51 : decode b_O_expandAll 51 = .ok (.putfield 223, 3) := by decide +kernel
theorem d_O_expandAll_54 : decode b_O_expandAll 54 = .ok (.goto 61, 3) := by decide +kernel
theorem d_O_expandAll_57 : decode b_O_expandAll 57 = .ok (.iload_n 2, 1) := by decide +kernel
theorem d_O_expandAll_58 : decode b_O_expandAll 58 = .ok (.iconst 1, 1) := by decide +kernel
theorem d_O_expandAll_59 : decode b_O_expandAll 59 = .ok (.if_icmp .ne 11, 3) := by decide +kernel
theorem d_O_expandAll_62 : decode b_O_expandAll 62 = .ok (.aload_n 0, 1) := by decide +kernel
theorem d_O_expandAll_63 : decode b_O_expandAll 63 = .ok (.iload_n 1, 1) := by decide +kernel
theorem d_O_expandAll_64 : decode b_O_expandAll 64 = .ok (.invokevirtual 264, 3) := by decide +kernel
theorem d_O_expandAll_67 : decode b_O_expandAll 67 = .ok (.goto 48, 3) := by decide +kernel
theorem d_O_expandAll_70 : decode b_O_expandAll 70 = .ok (.iload_n 2, 1) := by decide +kernel
theorem d_O_expandAll_71 : decode b_O_expandAll 71 = .ok (.invokestatic 86, 3) := by decide +kernel
theorem d_O_expandAll_74 : decode b_O_expandAll 74 = .ok (.ifCond .eq 11, 3) := by decide +kernel
theorem d_O_expandAll_77 : decode b_O_expandAll 77 = .ok (.aload_n 0, 1) := by decide +kernel
theorem d_O_expandAll_78 : decode b_O_expandAll 78 = .ok (.iload_n 2, 1) := by decide +kernel
theorem d_O_expandAll_79 : decode b_O_expandAll 79 = .ok (.invokevirtual 267, 3) := by decide +kernel
theorem d_O_expandAll_82 : decode b_O_expandAll 82 = .ok (.goto 33, 3) := by decide +kernel
theorem d_O_expandAll_85 : decode b_O_expandAll 85 = .ok (.iload_n 2, 1) := by decide +kernel
theorem d_O_expandAll_86 : decode b_O_expandAll 86 = .ok (.invokestatic 90, 3) := by decide +kernel
theorem d_O_expandAll_89 : decode b_O_expandAll 89 = .ok (.ifCond .eq 11, 3) := by decide +kernel
theorem d_O_expandAll_92 : decode b_O_expandAll 92 = .ok (.aload_n 0, 1) := by decide +kernel
theorem d_O_expandAll_93 : decode b_O_expandAll 93 = .ok (.iconst 2, 1) := by decide +kernel
theorem d_O_expandAll_94 : decode b_O_expandAll 94 = .ok (.putfield 223, 3) := by decide +kernel
theorem d_O_expandAll_97 : decode b_O_expandAll 97 = .ok (.goto 18, 3) := by decide +kernel
theorem d_O_expandAll_100 : decode b_O_expandAll 100 = .ok (.aload_n 0, 1) := by decide +kernel
theorem d_O_expandAll_101 : decode b_O_expandAll 101 = .ok (.iload_n 2, 1) := by decide +kernel
theorem d_O_expandAll_102 : decode b_O_expandAll 102 = .ok (.invokevirtual 245, 3) := by decide +kernel
theorem d_O_expandAll_105 : decode b_O_expandAll 105 = .ok (.aload_n 0, 1) := by decide +kernel
theorem d_O_expandAll_106 : decode b_O_expandAll 106 = .ok (.dup, 1) := by decide +kernel
theorem d_O_expandAll_107 : decode b_O_expandAll 107 = .ok (.getfield 182, 3) := by decide +kernel
theorem d_O_expandAll_110 : decode b_O_expandAll 110 = .ok (.iconst 1, 1) := by decide +kernel
theorem d_O_expandAll_111 : decode b_O_expandAll 111 = .ok (.iadd, 1) := by decide +kernel
theorem d_O_expandAll_112 : decode b_O_expandAll 112 = .ok (.putfield 182, 3) := by decide +kernel
theorem d_O_expandAll_115 : decode b_O_expandAll 115 = .ok (.goto (-115), 3) := by decide +kernel
theorem d_O_expandAll_118 : decode b_O_expandAll 118 = .ok (.return_, 1) := by decide +kernel
theorem d_O_closeRow_0 : decode b_O_closeRow 0 = .ok (.aload_n 0, 1) := by decide +kernel
theorem d_O_closeRow_1 : decode b_O_closeRow 1 = .ok (.iconst 2, 1) := by decide +kernel
theorem d_O_closeRow_2 : decode b_O_closeRow 2 = .ok (.invokevirtual 245, 3) := by decide +kernel
theorem d_O_closeRow_5 : decode b_O_closeRow 5 = .ok (.aload_n 0, 1) := by decide +kernel
theorem d_O_closeRow_6 : decode b_O_closeRow 6 = .ok (.dup, 1) := by decide +kernel
theorem d_O_closeRow_7 : decode b_O_closeRow 7 = .ok (.getfield 248, 3) := by decide +kernel
theorem d_O_closeRow_10 : decode b_O_closeRow 10 = .ok (.iconst 1, 1) := by decide +kernel
theorem d_O_closeRow_11 : decode b_O_closeRow 11 = .ok (.isub, 1) := by decide +kernel
theorem d_O_closeRow_12 : decode b_O_closeRow 12 = .ok (.putfield 248, 3) := by decide +kernel
theorem d_O_closeRow_15 : decode b_O_closeRow 15 = .ok (.aload_n 0, 1) := by decide +kernel
theorem d_O_closeRow_16 : decode b_O_closeRow 16 = .ok (.getfield 63, 3) := by decide +kernel
theorem d_O_closeRow_19 : decode b_O_closeRow 19 = .ok (.aload_n 0, 1) := by decide +kernel
theorem d_O_closeRow_20 : decode b_O_closeRow 20 = .ok (.getfield 248, 3) := by decide +kernel
theorem d_O_closeRow_23 : decode b_O_closeRow 23 = .ok (.baload, 1) := by decide +kernel
theorem d_O_closeRow_24 : decode b_O_closeRow 24 = .ok (.ifCond .eq 13, 3) := by decide +kernel
theorem d_O_closeRow_27 : decode b_O_closeRow 27 = .ok (.aload_n 0, 1) := by decide +kernel
theorem d_O_closeRow_28 : decode b_O_closeRow 28 = .ok (.dup, 1) := by decide +kernel
theorem d_O_closeRow_29 : decode b_O_closeRow 29 = .ok (.getfield 239, 3) := by decide +kernel
theorem d_O_closeRow_32 : decode b_O_closeRow 32 = .ok (.iconst 1, 1) := by decide +kernel
theorem d_O_closeRow_33 : decode b_O_closeRow 33 = .ok (.isub, 1) := by decide +kernel
theorem d_O_closeRow_34 : decode b_O_closeRow 34 = .ok (.putfield 239, 3) := by decide +kernel
theorem d_O_closeRow_37 : decode b_O_closeRow 37 = .ok (.aload_n 0, 1) := by decide +kernel
theorem d_O_closeRow_38 : decode b_O_closeRow 38 = .ok (.dup, 1) := by decide +kernel
theorem d_O_closeRow_39 : decode b_O_closeRow 39 = .ok (.getfield 182, 3) := by decide +kernel
theorem d_O_closeRow_42 : decode b_O_closeRow 42 = .ok (.iconst 1, 1) := by decide +kernel
theorem d_O_closeRow_43 : decode b_O_closeRow 43 = .ok (.iadd, 1) := by decide +kernel
theorem d_O_closeRow_44 : decode b_O_closeRow 44 = .ok (.putfield 182, 3) := by decide +kernel
theorem d_O_closeRow_47 : decode b_O_closeRow 47 = .ok (.return_, 1) := by decide +kernel
theorem d_O_put_0 : decode b_O_put 0 = .ok (.aload_n 0, 1) := by decide +kernel
theorem d_O_put_1 : decode b_O_put 1 = .ok (.getfield 236, 3) := by decide +kernel
theorem d_O_put_4 : decode b_O_put 4 = .ok (.sipush 150, 3) := by decide +kernel
theorem d_O_put_7 : decode b_O_put 7 = .ok (.if_icmp .ne 8, 3) := by decide +kernel
theorem d_O_put_10 : decode b_O_put 10 = .ok (.aload_n 0, 1) := by decide +kernel
theorem d_O_put_11 : decode b_O_put 11 = .ok (.iconst 3, 1) := by decide +kernel
theorem d_O_put_12 : decode b_O_put 12 = .ok (.putfield 223, 3) := by decide +kernel
theorem d_O_put_15 : decode b_O_put 15 = .ok (.aload_n 0, 1) := by decide +kernel
theorem d_O_put_16 : decode b_O_put 16 = .ok (.getfield 223, 3) := by decide +kernel
theorem d_O_put_19 : decode b_O_put 19 = .ok (.ifCond .eq 4, 3) := by decide +kernel
theorem d_O_put_22 : decode b_O_put 22 = .ok (.return_, 1) := by decide +kernel
theorem d_O_put_23 : decode b_O_put 23 = .ok (.aload_n 0, 1) := by decide +kernel
theorem d_O_put_24 : decode b_O_put 24 = .ok (.getfield 69, 3) := by decide +kernel
theorem d_O_put_27 : decode b_O_put 27 = .ok (.aload_n 0, 1) := by decide +kernel
theorem d_O_put_28 : decode b_O_put 28 = .ok (.getfield 236, 3) := by decide +kernel
theorem d_O_put_31 : decode b_O_put 31 = .ok (.iload_n 1, 1) := by decide +kernel
theorem d_O_put_32 : decode b_O_put 32 = .ok (.iastore, 1) := by decide +kernel
theorem d_O_put_33 : decode b_O_put 33 = .ok (.aload_n 0, 1) := by decide +kernel
theorem d_O_put_34 : decode b_O_put 34 = .ok (.dup, 1) := by decide +kernel
theorem d_O_put_35 : decode b_O_put 35 = .ok (.getfield 236, 3) := by decide +kernel
theorem d_O_put_38 : decode b_O_put 38 = .ok (.iconst 1, 1) := by decide +kernel
theorem d_O_put_39 : decode b_O_put 39 = .ok (.iadd, 1) := by decide +kernel
theorem d_O_put_40 : decode b_O_put 40 = .ok (.putfield 236, 3) := by decide +kernel
theorem d_O_put_43 : decode b_O_put 43 = .ok (.return_, 1) := by decide +kernel
theorem d_O_expandList_0 : decode b_O_expandList 0 = .ok (.aload_n 0, 1) := by decide +kernel
theorem d_O_expandList_1 : decode b_O_expandList 1 = .ok (.getfield 48, 3) := by decide +kernel
theorem d_O_expandList_4 : decode b_O_expandList 4 = .ok (.aload_n 0, 1) := by decide +kernel
theorem d_O_expandList_5 : decode b_O_expandList 5 = .ok (.getfield 182, 3) := by decide +kernel
theorem d_O_expandList_8 : decode b_O_expandList 8 = .ok (.iconst 1, 1) := by decide +kernel
theorem d_O_expandList_9 : decode b_O_expandList 9 = .ok (.iadd, 1) := by decide +kernel
theorem d_O_expandList_10 : decode b_O_expandList 10 = .ok (.iaload, 1) := by decide +kernel
theorem d_O_expandList_11 : decode b_O_expandList 11 = .ok (.istore_n 2, 1) := by decide +kernel
theorem d_O_expandList_12 : decode b_O_expandList 12 = .ok (.iload_n 2, 1) := by decide +kernel
theorem d_O_expandList_13 : decode b_O_expandList 13 = .ok (.iconst 2, 1) := by decide +kernel
theorem d_O_expandList_14 : decode b_O_expandList 14 = .ok (.if_icmp .ne 11, 3) := by decide +kernel
theorem d_O_expandList_17 : decode b_O_expandList 17 = .ok (.aload_n 0, 1) := by decide +kernel
theorem d_O_expandList_18 : decode b_O_expandList 18 = .ok (.iconst 2, 1) := by decide +kernel
theorem d_O_expandList_19 : decode b_O_expandList 19 = .ok (.putfield 223, 3) := by decide +kernel
theorem d_O_expandList_22 : decode b_O_expandList 22 = .ok (.goto 71, 3) := by decide +kernel
theorem d_O_expandList_25 : decode b_O_expandList 25 = .ok (.iload_n 2, 1) := by decide +kernel
theorem d_O_expandList_26 : decode b_O_expandList 26 = .ok (.invokestatic 90, 3) := by decide +kernel
theorem d_O_expandList_29 : decode b_O_expandList 29 = .ok (.ifCond .eq 10, 3) := by decide +kernel
theorem d_O_expandList_32 : decode b_O_expandList 32 = .ok (.aload_n 0, 1) := by decide +kernel
theorem d_O_expandList_33 : decode b_O_expandList 33 = .ok (.invokevirtual 255, 3) := by decide +kernel
theorem d_O_expandList_36 : decode b_O_expandList 36 = .ok (.goto 57, 3) := by decide +kernel
theorem d_O_expandList_39 : decode b_O_expandList 39 = .ok (.iload_n 2, 1) := by decide +kernel
theorem d_O_expandList_40 : decode b_O_expandList 40 = .ok (.invokestatic 86, 3) := by decide +kernel
theorem d_O_expandList_43 : decode b_O_expandList 43 = .ok (.ifCond .eq 30, 3) := by decide +kernel
theorem d_O_expandList_46 : decode b_O_expandList 46 = .ok (.aload_n 0, 1) := by decide +kernel
theorem d_O_expandList_47 : decode b_O_expandList 47 = .ok (.iload_n 2, 1) := by decide +kernel
theorem d_O_expandList_48 : decode b_O_expandList 48 = .ok (.invokevirtual 242, 3) := by decide +kernel
theorem d_O_expandList_51 : decode b_O_expandList 51 = .ok (.ifCond .ge 22, 3) := by decide +kernel
theorem d_O_expandList_54 : decode b_O_expandList 54 = .ok (.aload_n 0, 1) := by decide +kernel
theorem d_O_expandList_55 : decode b_O_expandList 55 = .ok (.iload_n 2, 1) := by decide +kernel
theorem d_O_expandList_56 : decode b_O_expandList 56 = .ok (.invokestatic 106, 3) := by decide +kernel
theorem d_O_expandList_59 : decode b_O_expandList 59 = .ok (.invokevirtual 166, 3) := by decide +kernel
theorem d_O_expandList_62 : decode b_O_expandList 62 = .ok (.ifCond .le 11, 3) := by decide +kernel
theorem d_O_expandList_65 : decode b_O_expandList 65 = .ok (.aload_n 0, 1) := by decide +kernel
theorem d_O_expandList_66 : decode b_O_expandList 66 = .ok (.iload_n 1, 1) := by decide +kernel
theorem d_O_expandList_67 : decode b_O_expandList 67 = .ok (.invokevirtual 258, 3) := by decide +kernel
theorem d_O_expandList_70 : decode b_O_expandList 70 = .ok (.goto 23, 3) := by decide +kernel
theorem d_O_expandList_73 : decode b_O_expandList 73 = .ok (.aload_n 0, 1) := by decide +kernel
theorem d_O_expandList_74 : decode b_O_expandList 74 = .ok (.iconst 1, 1) := by decide +kernel
theorem d_O_expandList_75 : decode b_O_expandList 75 = .ok (.invokevirtual 245, 3) := by decide +kernel
theorem d_O_expandList_78 : decode b_O_expandList 78 = .ok (.aload_n 0, 1) := by decide +kernel
theorem d_O_expandList_79 : decode b_O_expandList 79 = .ok (.iconst 0, 1) := by decide +kernel
theorem d_O_expandList_80 : decode b_O_expandList 80 = .ok (.invokevirtual 251, 3) := by decide +kernel
theorem d_O_expandList_83 : decode b_O_expandList 83 = .ok (.aload_n 0, 1) := by decide +kernel
theorem d_O_expandList_84 : decode b_O_expandList 84 = .ok (.dup, 1) := by decide +kernel
theorem d_O_expandList_85 : decode b_O_expandList 85 = .ok (.getfield 182, 3) := by decide +kernel
theorem d_O_expandList_88 : decode b_O_expandList 88 = .ok (.iconst 1, 1) := by decide +kernel
theorem d_O_expandList_89 : decode b_O_expandList 89 = .ok (.iadd, 1) := by decide +kernel
theorem d_O_expandList_90 : decode b_O_expandList 90 = .ok (.putfield 182, 3) := by decide +kernel
theorem d_O_expandList_93 : decode b_O_expandList 93 = .ok (.return_, 1) := by decide +kernel
theorem d_O_expandForm_0 : decode b_O_expandForm 0 = .ok (.aload_n 0, 1) := by decide +kernel
theorem d_O_expandForm_1 : decode b_O_expandForm 1 = .ok (.getfield 48, 3) := by decide +kernel
theorem d_O_expandForm_4 : decode b_O_expandForm 4 = .ok (.aload_n 0, 1) := by decide +kernel
theorem d_O_expandForm_5 : decode b_O_expandForm 5 = .ok (.getfield 182, 3) := by decide +kernel
theorem d_O_expandForm_8 : decode b_O_expandForm 8 = .ok (.iconst 1, 1) := by decide +kernel
theorem d_O_expandForm_9 : decode b_O_expandForm 9 = .ok (.iadd, 1) := by decide +kernel
theorem d_O_expandForm_10 : decode b_O_expandForm 10 = .ok (.iaload, 1) := by decide +kernel
theorem d_O_expandForm_11 : decode b_O_expandForm 11 = .ok (.istore_n 1, 1) := by decide +kernel
theorem d_O_expandForm_12 : decode b_O_expandForm 12 = .ok (.iconst 0, 1) := by decide +kernel
theorem d_O_expandForm_13 : decode b_O_expandForm 13 = .ok (.istore_n 2, 1) := by decide +kernel
theorem d_O_expandForm_14 : decode b_O_expandForm 14 = .ok (.aload_n 0, 1) := by decide +kernel
theorem d_O_expandForm_15 : decode b_O_expandForm 15 = .ok (.getfield 182, 3) := by decide +kernel
theorem d_O_expandForm_18 : decode b_O_expandForm 18 = .ok (.iconst 2, 1) := by decide +kernel
theorem d_O_expandForm_19 : decode b_O_expandForm 19 = .ok (.iadd, 1) := by decide +kernel
theorem d_O_expandForm_20 : decode b_O_expandForm 20 = .ok (.istore_n 3, 1) := by decide +kernel
theorem d_O_expandForm_21 : decode b_O_expandForm 21 = .ok (.aload_n 0, 1) := by decide +kernel
theorem d_O_expandForm_22 : decode b_O_expandForm 22 = .ok (.getfield 48, 3) := by decide +kernel
theorem d_O_expandForm_25 : decode b_O_expandForm 25 = .ok (.iload_n 3, 1) := by decide +kernel
theorem d_O_expandForm_26 : decode b_O_expandForm 26 = .ok (.iaload, 1) := by decide +kernel
theorem d_O_expandForm_27 : decode b_O_expandForm 27 = .ok (.iconst 2, 1) := by decide +kernel
theorem d_O_expandForm_28 : decode b_O_expandForm 28 = .ok (.if_icmp .eq 15, 3) := by decide +kernel
theorem d_O_expandForm_31 : decode b_O_expandForm 31 = .ok (.aload_n 0, 1) := by decide +kernel
theorem d_O_expandForm_32 : decode b_O_expandForm 32 = .ok (.iload_n 3, 1) := by decide +kernel

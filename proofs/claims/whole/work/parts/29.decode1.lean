theorem d_R_repeatsLastItems_0 : decode b_R_repeatsLastItems 0 = .ok (.iconst 0, 1) := by decide +kernel
theorem d_R_repeatsLastItems_1 : decode b_R_repeatsLastItems 1 = .ok (.istore_n 2, 1) := by decide +kernel
theorem d_R_repeatsLastItems_2 : decode b_R_repeatsLastItems 2 = .ok (.iload_n 2, 1) := by decide +kernel
theorem d_R_repeatsLastItems_3 : decode b_R_repeatsLastItems 3 = .ok (.iload_n 1, 1) := by decide +kernel
theorem d_R_repeatsLastItems_4 : decode b_R_repeatsLastItems 4 = .ok (.if_icmp .ge 33, 3) := by decide +kernel
theorem d_R_repeatsLastItems_7 : decode b_R_repeatsLastItems 7 = .ok (.aload_n 0, 1) := by decide +kernel
theorem d_R_repeatsLastItems_8 : decode b_R_repeatsLastItems 8 = .ok (.iload_n 2, 1) := by decide +kernel
theorem d_R_repeatsLastItems_9 : decode b_R_repeatsLastItems 9 = .ok (.invokevirtual 71, 3) := by decide +kernel
theorem d_R_repeatsLastItems_12 : decode b_R_repeatsLastItems 12 = .ok (.bipush 126, 2) := by decide +kernel
theorem d_R_repeatsLastItems_14 : decode b_R_repeatsLastItems 14 = .ok (.if_icmp .ne 17, 3) := by decide +kernel
theorem d_R_repeatsLastItems_17 : decode b_R_repeatsLastItems 17 = .ok (.aload_n 0, 1) := by decide +kernel
theorem d_R_repeatsLastItems_18 : decode b_R_repeatsLastItems 18 = .ok (.iload_n 2, 1) := by decide +kernel
theorem d_R_repeatsLastItems_19 : decode b_R_repeatsLastItems 19 = .ok (.iconst 1, 1) := by decide +kernel
theorem d_R_repeatsLastItems_20 : decode b_R_repeatsLastItems 20 = .ok (.iadd, 1) := by decide +kernel
theorem d_R_repeatsLastItems_21 : decode b_R_repeatsLastItems 21 = .ok (.invokevirtual 71, 3) := by decide +kernel
theorem d_R_repeatsLastItems_24 : decode b_R_repeatsLastItems 24 = .ok (.bipush 41, 2) := by decide +kernel
theorem d_R_repeatsLastItems_26 : decode b_R_repeatsLastItems 26 = .ok (.if_icmp .eq 5, 3) := by decide +kernel
theorem d_R_repeatsLastItems_29 : decode b_R_repeatsLastItems 29 = .ok (.iconst 0, 1) := by decide +kernel
theorem d_R_repeatsLastItems_30 : decode b_R_repeatsLastItems 30 = .ok (.ireturn, 1) := by decide +kernel
theorem d_R_repeatsLastItems_31 : decode b_R_repeatsLastItems 31 = .ok (.iinc 2 1, 3) := by decide +kernel
theorem d_R_repeatsLastItems_34 : decode b_R_repeatsLastItems 34 = .ok (.goto (-32), 3) := by decide +kernel
theorem d_R_repeatsLastItems_37 : decode b_R_repeatsLastItems 37 = .ok (.iconst 1, 1) := by decide +kernel
theorem d_R_repeatsLastItems_38 : decode b_R_repeatsLastItems 38 = .ok (.ireturn, 1) := by decide +kernel
theorem d_T_take_0 : decode b_T_take 0 = .ok (.iload_n 1, 1) := by decide +kernel
theorem d_T_take_1 : decode b_T_take 1 = .ok (.bipush 41, 2) := by decide +kernel
theorem d_T_take_3 : decode b_T_take 3 = .ok (.if_icmp .ne 8, 3) := by decide +kernel
theorem d_T_take_6 : decode b_T_take 6 = .ok (.aload_n 0, 1) := by decide +kernel
theorem d_T_take_7 : decode b_T_take 7 = .ok (.invokevirtual 62, 3) := by decide +kernel
theorem d_T_take_10 : decode b_T_take 10 = .ok (.ireturn, 1) := by decide +kernel
theorem d_T_take_11 : decode b_T_take 11 = .ok (.iload_n 1, 1) := by decide +kernel
theorem d_T_take_12 : decode b_T_take 12 = .ok (.bipush 126, 2) := by decide +kernel
theorem d_T_take_14 : decode b_T_take 14 = .ok (.if_icmp .ne 20, 3) := by decide +kernel
theorem d_T_take_17 : decode b_T_take 17 = .ok (.iload_n 2, 1) := by decide +kernel
theorem d_T_take_18 : decode b_T_take 18 = .ok (.ifCond .eq 14, 3) := by decide +kernel
theorem d_T_take_21 : decode b_T_take 21 = .ok (.aload_n 0, 1) := by decide +kernel
theorem d_T_take_22 : decode b_T_take 22 = .ok (.invokevirtual 66, 3) := by decide +kernel
theorem d_T_take_25 : decode b_T_take 25 = .ok (.ifCond .eq 7, 3) := by decide +kernel
theorem d_T_take_28 : decode b_T_take 28 = .ok (.iconst 1, 1) := by decide +kernel
theorem d_T_take_29 : decode b_T_take 29 = .ok (.goto 4, 3) := by decide +kernel
theorem d_T_take_32 : decode b_T_take 32 = .ok (.iconst 0, 1) := by decide +kernel
theorem d_T_take_33 : decode b_T_take 33 = .ok (.ireturn, 1) := by decide +kernel
theorem d_T_take_34 : decode b_T_take 34 = .ok (.iload_n 1, 1) := by decide +kernel
theorem d_T_take_35 : decode b_T_take 35 = .ok (.bipush 40, 2) := by decide +kernel
theorem d_T_take_37 : decode b_T_take 37 = .ok (.if_icmp .eq 35, 3) := by decide +kernel
theorem d_T_take_40 : decode b_T_take 40 = .ok (.iload_n 1, 1) := by decide +kernel
theorem d_T_take_41 : decode b_T_take 41 = .ok (.invokestatic 69, 3) := by decide +kernel
theorem d_T_take_44 : decode b_T_take 44 = .ok (.ifCond .ne 28, 3) := by decide +kernel
theorem d_T_take_47 : decode b_T_take 47 = .ok (.iload_n 1, 1) := by decide +kernel
theorem d_T_take_48 : decode b_T_take 48 = .ok (.invokestatic 73, 3) := by decide +kernel
theorem d_T_take_51 : decode b_T_take 51 = .ok (.ifCond .ne 21, 3) := by decide +kernel
theorem d_T_take_54 : decode b_T_take 54 = .ok (.iload_n 1, 1) := by decide +kernel
theorem d_T_take_55 : decode b_T_take 55 = .ok (.invokestatic 76, 3) := by decide +kernel
theorem d_T_take_58 : decode b_T_take 58 = .ok (.ifCond .ne 14, 3) := by decide +kernel
theorem d_T_take_61 : decode b_T_take 61 = .ok (.iload_n 1, 1) := by decide +kernel
theorem d_T_take_62 : decode b_T_take 62 = .ok (.bipush 95, 2) := by decide +kernel
theorem d_T_take_64 : decode b_T_take 64 = .ok (.if_icmp .ne 12, 3) := by decide +kernel
theorem d_T_take_67 : decode b_T_take 67 = .ok (.iload_n 2, 1) := by decide +kernel
theorem d_T_take_68 : decode b_T_take 68 = .ok (.iconst 1, 1) := by decide +kernel
theorem d_T_take_69 : decode b_T_take 69 = .ok (.if_icmp .ne 7, 3) := by decide +kernel
theorem d_T_take_72 : decode b_T_take 72 = .ok (.iconst 1, 1) := by decide +kernel
theorem d_T_take_73 : decode b_T_take 73 = .ok (.goto 4, 3) := by decide +kernel
theorem d_T_take_76 : decode b_T_take 76 = .ok (.iconst 0, 1) := by decide +kernel
theorem d_T_take_77 : decode b_T_take 77 = .ok (.istore_n 3, 1) := by decide +kernel
theorem d_T_take_78 : decode b_T_take 78 = .ok (.iload_n 3, 1) := by decide +kernel
theorem d_T_take_79 : decode b_T_take 79 = .ok (.ifCond .eq 16, 3) := by decide +kernel
theorem d_T_take_82 : decode b_T_take 82 = .ok (.aload_n 0, 1) := by decide +kernel
theorem d_T_take_83 : decode b_T_take 83 = .ok (.iload_n 1, 1) := by decide +kernel
theorem d_T_take_84 : decode b_T_take 84 = .ok (.iconst 0, 1) := by decide +kernel
theorem d_T_take_85 : decode b_T_take 85 = .ok (.invokevirtual 79, 3) := by decide +kernel
theorem d_T_take_88 : decode b_T_take 88 = .ok (.ifCond .eq 7, 3) := by decide +kernel
theorem d_T_take_91 : decode b_T_take 91 = .ok (.iconst 1, 1) := by decide +kernel
theorem d_T_take_92 : decode b_T_take 92 = .ok (.goto 4, 3) := by decide +kernel
theorem d_T_take_95 : decode b_T_take 95 = .ok (.iconst 0, 1) := by decide +kernel
theorem d_T_take_96 : decode b_T_take 96 = .ok (.ireturn, 1) := by decide +kernel
theorem d_T_close_0 : decode b_T_close 0 = .ok (.aload_n 0, 1) := by decide +kernel
theorem d_T_close_1 : decode b_T_close 1 = .ok (.getfield 39, 3) := by decide +kernel
theorem d_T_close_4 : decode b_T_close 4 = .ok (.ifCond .ne 5, 3) := by decide +kernel
theorem d_T_close_7 : decode b_T_close 7 = .ok (.iconst 0, 1) := by decide +kernel
theorem d_T_close_8 : decode b_T_close 8 = .ok (.ireturn, 1) := by decide +kernel
theorem d_T_close_9 : decode b_T_close 9 = .ok (.aload_n 0, 1) := by decide +kernel
theorem d_T_close_10 : decode b_T_close 10 = .ok (.dup, 1) := by decide +kernel
theorem d_T_close_11 : decode b_T_close 11 = .ok (.getfield 39, 3) := by decide +kernel
theorem d_T_close_14 : decode b_T_close 14 = .ok (.iconst 1, 1) := by decide +kernel
theorem d_T_close_15 : decode b_T_close 15 = .ok (.isub, 1) := by decide +kernel
theorem d_T_close_16 : decode b_T_close 16 = .ok (.putfield 39, 3) := by decide +kernel
theorem d_T_close_19 : decode b_T_close 19 = .ok (.aload_n 0, 1) := by decide +kernel
theorem d_T_close_20 : decode b_T_close 20 = .ok (.aload_n 0, 1) := by decide +kernel
theorem d_T_close_21 : decode b_T_close 21 = .ok (.getfield 11, 3) := by decide +kernel
theorem d_T_close_24 : decode b_T_close 24 = .ok (.aload_n 0, 1) := by decide +kernel
theorem d_T_close_25 : decode b_T_close 25 = .ok (.getfield 39, 3) := by decide +kernel
theorem d_T_close_28 : decode b_T_close 28 = .ok (.iaload, 1) := by decide +kernel
theorem d_T_close_29 : decode b_T_close 29 = .ok (.putfield 45, 3) := by decide +kernel
theorem d_T_close_32 : decode b_T_close 32 = .ok (.aload_n 0, 1) := by decide +kernel
theorem d_T_close_33 : decode b_T_close 33 = .ok (.getfield 22, 3) := by decide +kernel
theorem d_T_close_36 : decode b_T_close 36 = .ok (.aload_n 0, 1) := by decide +kernel
theorem d_T_close_37 : decode b_T_close 37 = .ok (.getfield 45, 3) := by decide +kernel
theorem d_T_close_40 : decode b_T_close 40 = .ok (.aload_n 0, 1) := by decide +kernel
theorem d_T_close_41 : decode b_T_close 41 = .ok (.getfield 32, 3) := by decide +kernel
theorem d_T_close_44 : decode b_T_close 44 = .ok (.aload_n 0, 1) := by decide +kernel
theorem d_T_close_45 : decode b_T_close 45 = .ok (.getfield 45, 3) := by decide +kernel
theorem d_T_close_48 : decode b_T_close 48 = .ok (.isub, 1) := by decide +kernel
theorem d_T_close_49 : decode b_T_close 49 = .ok (.iastore, 1) := by decide +kernel
theorem d_T_close_50 : decode b_T_close 50 = .ok (.iconst 1, 1) := by decide +kernel
theorem d_T_close_51 : decode b_T_close 51 = .ok (.ireturn, 1) := by decide +kernel
theorem d_T_repeatLast_0 : decode b_T_repeatLast 0 = .ok (.aload_n 0, 1) := by decide +kernel
theorem d_T_repeatLast_1 : decode b_T_repeatLast 1 = .ok (.getfield 39, 3) := by decide +kernel
theorem d_T_repeatLast_4 : decode b_T_repeatLast 4 = .ok (.ifCond .eq 10, 3) := by decide +kernel
theorem d_T_repeatLast_7 : decode b_T_repeatLast 7 = .ok (.aload_n 0, 1) := by decide +kernel
theorem d_T_repeatLast_8 : decode b_T_repeatLast 8 = .ok (.getfield 45, 3) := by decide +kernel
theorem d_T_repeatLast_11 : decode b_T_repeatLast 11 = .ok (.ifCond .ge 5, 3) := by decide +kernel
theorem d_T_repeatLast_14 : decode b_T_repeatLast 14 = .ok (.iconst 0, 1) := by decide +kernel
theorem d_T_repeatLast_15 : decode b_T_repeatLast 15 = .ok (.ireturn, 1) := by decide +kernel
theorem d_T_repeatLast_16 : decode b_T_repeatLast 16 = .ok (.aload_n 0, 1) := by decide +kernel
theorem d_T_repeatLast_17 : decode b_T_repeatLast 17 = .ok (.getfield 45, 3) := by decide +kernel
theorem d_T_repeatLast_20 : decode b_T_repeatLast 20 = .ok (.istore_n 1, 1) := by decide +kernel
theorem d_T_repeatLast_21 : decode b_T_repeatLast 21 = .ok (.iload_n 1, 1) := by decide +kernel
theorem d_T_repeatLast_22 : decode b_T_repeatLast 22 = .ok (.aload_n 0, 1) := by decide +kernel
theorem d_T_repeatLast_23 : decode b_T_repeatLast 23 = .ok (.getfield 32, 3) := by decide +kernel
theorem d_T_repeatLast_26 : decode b_T_repeatLast 26 = .ok (.if_icmp .ge 20, 3) := by decide +kernel
theorem d_T_repeatLast_29 : decode b_T_repeatLast 29 = .ok (.aload_n 0, 1) := by decide +kernel
theorem d_T_repeatLast_30 : decode b_T_repeatLast 30 = .ok (.getfield 28, 3) := by decide +kernel
theorem d_T_repeatLast_33 : decode b_T_repeatLast 33 = .ok (.iload_n 1, 1) := by decide +kernel
theorem d_T_repeatLast_34 : decode b_T_repeatLast 34 = .ok (.baload, 1) := by decide +kernel
theorem d_T_repeatLast_35 : decode b_T_repeatLast 35 = .ok (.ifCond .eq 5, 3) := by decide +kernel
theorem d_T_repeatLast_38 : decode b_T_repeatLast 38 = .ok (.iconst 0, 1) := by decide +kernel
theorem d_T_repeatLast_39 : decode b_T_repeatLast 39 = .ok (.ireturn, 1) := by decide +kernel
theorem d_T_repeatLast_40 : decode b_T_repeatLast 40 = .ok (.iinc 1 1, 3) := by decide +kernel
theorem d_T_repeatLast_43 : decode b_T_repeatLast 43 = .ok (.goto (-22), 3) := by decide +kernel
theorem d_T_repeatLast_46 : decode b_T_repeatLast 46 = .ok (.aload_n 0, 1) := by decide +kernel
theorem d_T_repeatLast_47 : decode b_T_repeatLast 47 = .ok (.getfield 28, 3) := by decide +kernel
theorem d_T_repeatLast_50 : decode b_T_repeatLast 50 = .ok (.aload_n 0, 1) := by decide +kernel
theorem d_T_repeatLast_51 : decode b_T_repeatLast 51 = .ok (.getfield 45, 3) := by decide +kernel
theorem d_T_repeatLast_54 : decode b_T_repeatLast 54 = .ok (.iconst 1, 1) := by decide +kernel
theorem d_T_repeatLast_55 : decode b_T_repeatLast 55 = .ok (.bastore, 1) := by decide +kernel
theorem d_T_repeatLast_56 : decode b_T_repeatLast 56 = .ok (.iconst 1, 1) := by decide +kernel
theorem d_T_repeatLast_57 : decode b_T_repeatLast 57 = .ok (.ireturn, 1) := by decide +kernel
theorem d_T_add_0 : decode b_T_add 0 = .ok (.aload_n 0, 1) := by decide +kernel
theorem d_T_add_1 : decode b_T_add 1 = .ok (.getfield 39, 3) := by decide +kernel
theorem d_T_add_4 : decode b_T_add 4 = .ok (.ifCond .ne 18, 3) := by decide +kernel
theorem d_T_add_7 : decode b_T_add 7 = .ok (.aload_n 0, 1) := by decide +kernel
theorem d_T_add_8 : decode b_T_add 8 = .ok (.getfield 32, 3) := by decide +kernel
theorem d_T_add_11 : decode b_T_add 11 = .ok (.aload_n 0, 1) := by decide +kernel
theorem d_T_add_12 : decode b_T_add 12 = .ok (.getfield 36, 3) := by decide +kernel
theorem d_T_add_15 : decode b_T_add 15 = .ok (.if_icmp .le 7, 3) := by decide +kernel
theorem d_T_add_18 : decode b_T_add 18 = .ok (.iconst 1, 1) := by decide +kernel
theorem d_T_add_19 : decode b_T_add 19 = .ok (.goto 4, 3) := by decide +kernel
theorem d_T_add_22 : decode b_T_add 22 = .ok (.iconst 0, 1) := by decide +kernel
theorem d_T_add_23 : decode b_T_add 23 = .ok (.istore_n 3, 1) := by decide +kernel
theorem d_T_add_24 : decode b_T_add 24 = .ok (.iload_n 1, 1) := by decide +kernel
theorem d_T_add_25 : decode b_T_add 25 = .ok (.bipush 40, 2) := by decide +kernel
theorem d_T_add_27 : decode b_T_add 27 = .ok (.if_icmp .ne 18, 3) := by decide +kernel
theorem d_T_add_30 : decode b_T_add 30 = .ok (.aload_n 0, 1) := by decide +kernel
theorem d_T_add_31 : decode b_T_add 31 = .ok (.getfield 39, 3) := by decide +kernel
theorem d_T_add_34 : decode b_T_add 34 = .ok (.aload_n 0, 1) := by decide +kernel
theorem d_T_add_35 : decode b_T_add 35 = .ok (.getfield 42, 3) := by decide +kernel
theorem d_T_add_38 : decode b_T_add 38 = .ok (.if_icmp .lt 7, 3) := by decide +kernel
theorem d_T_add_41 : decode b_T_add 41 = .ok (.iconst 1, 1) := by decide +kernel
theorem d_T_add_42 : decode b_T_add 42 = .ok (.goto 4, 3) := by decide +kernel
theorem d_T_add_45 : decode b_T_add 45 = .ok (.iconst 0, 1) := by decide +kernel
theorem d_T_add_46 : decode b_T_add 46 = .ok (.istore 4, 2) := by decide +kernel
theorem d_T_add_48 : decode b_T_add 48 = .ok (.iload_n 3, 1) := by decide +kernel
theorem d_T_add_49 : decode b_T_add 49 = .ok (.ifCond .ne 34, 3) := by decide +kernel
theorem d_T_add_52 : decode b_T_add 52 = .ok (.iload 4, 2) := by decide +kernel
theorem d_T_add_54 : decode b_T_add 54 = .ok (.ifCond .ne 29, 3) := by decide +kernel
theorem d_T_add_57 : decode b_T_add 57 = .ok (.aload_n 0, 1) := by decide +kernel
theorem d_T_add_58 : decode b_T_add 58 = .ok (.getfield 32, 3) := by decide +kernel
theorem d_T_add_61 : decode b_T_add 61 = .ok (.aload_n 0, 1) := by decide +kernel
theorem d_T_add_62 : decode b_T_add 62 = .ok (.getfield 36, 3) := by decide +kernel
theorem d_T_add_65 : decode b_T_add 65 = .ok (.isub, 1) := by decide +kernel
theorem d_T_add_66 : decode b_T_add 66 = .ok (.bipush 60, 2) := by decide +kernel
theorem d_T_add_68 : decode b_T_add 68 = .ok (.if_icmp .ge 15, 3) := by decide +kernel
theorem d_T_add_71 : decode b_T_add 71 = .ok (.aload_n 0, 1) := by decide +kernel
theorem d_T_add_72 : decode b_T_add 72 = .ok (.getfield 32, 3) := by decide +kernel
theorem d_T_add_75 : decode b_T_add 75 = .ok (.aload_n 0, 1) := by decide +kernel
theorem d_T_add_76 : decode b_T_add 76 = .ok (.getfield 15, 3) := by decide +kernel
theorem d_T_add_79 : decode b_T_add 79 = .ok (.arraylength, 1) := by decide +kernel
theorem d_T_add_80 : decode b_T_add 80 = .ok (.if_icmp .lt 5, 3) := by decide +kernel
theorem d_T_add_83 : decode b_T_add 83 = .ok (.iconst 0, 1) := by decide +kernel
theorem d_T_add_84 : decode b_T_add 84 = .ok (.ireturn, 1) := by decide +kernel
theorem d_T_add_85 : decode b_T_add 85 = .ok (.aload_n 0, 1) := by decide +kernel
theorem d_T_add_86 : decode b_T_add 86 = .ok (.getfield 15, 3) := by decide +kernel
theorem d_T_add_89 : decode b_T_add 89 = .ok (.aload_n 0, 1) := by decide +kernel
theorem d_T_add_90 : decode b_T_add 90 = .ok (.getfield 32, 3) := by decide +kernel
theorem d_T_add_93 : decode b_T_add 93 = .ok (.iload_n 1, 1) := by decide +kernel
theorem d_T_add_94 : decode b_T_add 94 = .ok (.castore, 1) := by decide +kernel
theorem d_T_add_95 : decode b_T_add 95 = .ok (.aload_n 0, 1) := by decide +kernel
theorem d_T_add_96 : decode b_T_add 96 = .ok (.getfield 19, 3) := by decide +kernel
theorem d_T_add_99 : decode b_T_add 99 = .ok (.aload_n 0, 1) := by decide +kernel
theorem d_T_add_100 : decode b_T_add 100 = .ok (.getfield 32, 3) := by decide +kernel
theorem d_T_add_103 : decode b_T_add 103 = .ok (.iload_n 2, 1) := by decide +kernel
theorem d_T_add_104 : decode b_T_add 104 = .ok (.iastore, 1) := by decide +kernel
theorem d_T_add_105 : decode b_T_add 105 = .ok (.aload_n 0, 1) := by decide +kernel
theorem d_T_add_106 : decode b_T_add 106 = .ok (.getfield 22, 3) := by decide +kernel
theorem d_T_add_109 : decode b_T_add 109 = .ok (.aload_n 0, 1) := by decide +kernel
theorem d_T_add_110 : decode b_T_add 110 = .ok (.getfield 32, 3) := by decide +kernel
theorem d_T_add_113 : decode b_T_add 113 = .ok (.iconst 1, 1) := by decide +kernel
theorem d_T_add_114 : decode b_T_add 114 = .ok (.iastore, 1) := by decide +kernel
theorem d_T_add_115 : decode b_T_add 115 = .ok (.aload_n 0, 1) := by decide +kernel
theorem d_T_add_116 : decode b_T_add 116 = .ok (.getfield 25, 3) := by decide +kernel
theorem d_T_add_119 : decode b_T_add 119 = .ok (.aload_n 0, 1) := by decide +kernel
theorem d_T_add_120 : decode b_T_add 120 = .ok (.getfield 32, 3) := by decide +kernel
theorem d_T_add_123 : decode b_T_add 123 = .ok (.iconst 0, 1) := by decide +kernel
theorem d_T_add_124 : decode b_T_add 124 = .ok (.iastore, 1) := by decide +kernel
theorem d_T_add_125 : decode b_T_add 125 = .ok (.aload_n 0, 1) := by decide +kernel
theorem d_T_add_126 : decode b_T_add 126 = .ok (.getfield 28, 3) := by decide +kernel
theorem d_T_add_129 : decode b_T_add 129 = .ok (.aload_n 0, 1) := by decide +kernel
theorem d_T_add_130 : decode b_T_add 130 = .ok (.getfield 32, 3) := by decide +kernel
theorem d_T_add_133 : decode b_T_add 133 = .ok (.iconst 0, 1) := by decide +kernel
theorem d_T_add_134 : decode b_T_add 134 = .ok (.bastore, 1) := by decide +kernel
theorem d_T_add_135 : decode b_T_add 135 = .ok (.aload_n 0, 1) := by decide +kernel
theorem d_T_add_136 : decode b_T_add 136 = .ok (.getfield 39, 3) := by decide +kernel
theorem d_T_add_139 : decode b_T_add 139 = .ok (.ifCond .le 23, 3) := by decide +kernel
theorem d_T_add_142 : decode b_T_add 142 = .ok (.aload_n 0, 1) := by decide +kernel
theorem d_T_add_143 : decode b_T_add 143 = .ok (.getfield 25, 3) := by decide +kernel
theorem d_T_add_146 : decode b_T_add 146 = .ok (.aload_n 0, 1) := by decide +kernel
theorem d_T_add_147 : decode b_T_add 147 = .ok (.getfield 11, 3) := by decide +kernel
theorem d_T_add_150 : decode b_T_add 150 = .ok (.aload_n 0, 1) := by decide +kernel
theorem d_T_add_151 : decode b_T_add 151 = .ok (.getfield 39, 3) := by decide +kernel
theorem d_T_add_154 : decode b_T_add 154 = .ok (.iconst 1, 1) := by decide +kernel
theorem d_T_add_155 : decode b_T_add 155 = .ok (.isub, 1) := by decide +kernel
theorem d_T_add_156 : decode b_T_add 156 = .ok (.iaload, 1) := by decide +kernel
theorem d_T_add_157 : decode b_T_add 157 = .ok (.dup2, 1) := by decide +kernel
theorem d_T_add_158 : decode b_T_add 158 = .ok (.iaload, 1) := by decide +kernel
theorem d_T_add_159 : decode b_T_add 159 = .ok (.iconst 1, 1) := by decide +kernel
theorem d_T_add_160 : decode b_T_add 160 = .ok (.iadd, 1) := by decide +kernel
theorem d_T_add_161 : decode b_T_add 161 = .ok (.iastore, 1) := by decide +kernel
theorem d_T_add_162 : decode b_T_add 162 = .ok (.aload_n 0, 1) := by decide +kernel
theorem d_T_add_163 : decode b_T_add 163 = .ok (.aload_n 0, 1) := by decide +kernel
theorem d_T_add_164 : decode b_T_add 164 = .ok (.getfield 32, 3) := by decide +kernel
theorem d_T_add_167 : decode b_T_add 167 = .ok (.putfield 45, 3) := by decide +kernel
theorem d_T_add_170 : decode b_T_add 170 = .ok (.iload_n 1, 1) := by decide +kernel
theorem d_T_add_171 : decode b_T_add 171 = .ok (.bipush 40, 2) := by decide +kernel
theorem d_T_add_173 : decode b_T_add 173 = .ok (.if_icmp .ne 31, 3) := by decide +kernel
theorem d_T_add_176 : decode b_T_add 176 = .ok (.aload_n 0, 1) := by decide +kernel
theorem d_T_add_177 : decode b_T_add 177 = .ok (.getfield 11, 3) := by decide +kernel
theorem d_T_add_180 : decode b_T_add 180 = .ok (.aload_n 0, 1) := by decide +kernel
theorem d_T_add_181 : decode b_T_add 181 = .ok (.getfield 39, 3) := by decide +kernel
theorem d_T_add_184 : decode b_T_add 184 = .ok (.aload_n 0, 1) := by decide +kernel
theorem d_T_add_185 : decode b_T_add 185 = .ok (.getfield 32, 3) := by decide +kernel
theorem d_T_add_188 : decode b_T_add 188 = .ok (.iastore, 1) := by decide +kernel
theorem d_T_add_189 : decode b_T_add 189 = .ok (.aload_n 0, 1) := by decide +kernel
theorem d_T_add_190 : decode b_T_add 190 = .ok (.dup, 1) := by decide +kernel
theorem d_T_add_191 : decode b_T_add 191 = .ok (.getfield 39, 3) := by decide +kernel
theorem d_T_add_194 : decode b_T_add 194 = .ok (.iconst 1, 1) := by decide +kernel
theorem d_T_add_195 : decode b_T_add 195 = .ok (.iadd, 1) := by decide +kernel
theorem d_T_add_196 : decode b_T_add 196 = .ok (.putfield 39, 3) := by decide +kernel
theorem d_T_add_199 : decode b_T_add 199 = .ok (.aload_n 0, 1) := by decide +kernel
theorem d_T_add_200 : decode b_T_add 200 = .ok (.iconst (-1), 1) := by decide +kernel
theorem d_T_add_201 : decode b_T_add 201 = .ok (.putfield 45, 3) := by decide +kernel
theorem d_T_add_204 : decode b_T_add 204 = .ok (.aload_n 0, 1) := by decide +kernel
theorem d_T_add_205 : decode b_T_add 205 = .ok (.dup, 1) := by decide +kernel
theorem d_T_add_206 : decode b_T_add 206 = .ok (.getfield 32, 3) := by decide +kernel
theorem d_T_add_209 : decode b_T_add 209 = .ok (.iconst 1, 1) := by decide +kernel
theorem d_T_add_210 : decode b_T_add 210 = .ok (.iadd, 1) := by decide +kernel
theorem d_T_add_211 : decode b_T_add 211 = .ok (.putfield 32, 3) := by decide +kernel
theorem d_T_add_214 : decode b_T_add 214 = .ok (.iconst 1, 1) := by decide +kernel
theorem d_T_add_215 : decode b_T_add 215 = .ok (.ireturn, 1) := by decide +kernel
theorem d_R_findVariables_0 : decode b_R_findVariables 0 = .ok (.aload_n 0, 1) := by decide +kernel
theorem d_R_findVariables_1 : decode b_R_findVariables 1 = .ok (.getfield 22, 3) := by decide +kernel
theorem d_R_findVariables_4 : decode b_R_findVariables 4 = .ok (.iconst 0, 1) := by decide +kernel
theorem d_R_findVariables_5 : decode b_R_findVariables 5 = .ok (.invokestatic 74, 3) := by decide +kernel
theorem d_R_findVariables_8 : decode b_R_findVariables 8 = .ok (.iconst 0, 1) := by decide +kernel
theorem d_R_findVariables_9 : decode b_R_findVariables 9 = .ok (.istore_n 1, 1) := by decide +kernel
theorem d_R_findVariables_10 : decode b_R_findVariables 10 = .ok (.iconst 2, 1) := by decide +kernel
theorem d_R_findVariables_11 : decode b_R_findVariables 11 = .ok (.istore_n 2, 1) := by decide +kernel
theorem d_R_findVariables_12 : decode b_R_findVariables 12 = .ok (.iload_n 2, 1) := by decide +kernel
theorem d_R_findVariables_13 : decode b_R_findVariables 13 = .ok (.aload_n 0, 1) := by decide +kernel
theorem d_R_findVariables_14 : decode b_R_findVariables 14 = .ok (.getfield 16, 3) := by decide +kernel
theorem d_R_findVariables_17 : decode b_R_findVariables 17 = .ok (.invokevirtual 61, 3) := by decide +kernel
theorem d_R_findVariables_20 : decode b_R_findVariables 20 = .ok (.if_icmp .ge 74, 3) := by decide +kernel
theorem d_R_findVariables_23 : decode b_R_findVariables 23 = .ok (.aload_n 0, 1) := by decide +kernel
theorem d_R_findVariables_24 : decode b_R_findVariables 24 = .ok (.getfield 16, 3) := by decide +kernel
theorem d_R_findVariables_27 : decode b_R_findVariables 27 = .ok (.iload_n 2, 1) := by decide +kernel
theorem d_R_findVariables_28 : decode b_R_findVariables 28 = .ok (.invokevirtual 30, 3) := by decide +kernel
theorem d_R_findVariables_31 : decode b_R_findVariables 31 = .ok (.istore_n 3, 1) := by decide +kernel
theorem d_R_findVariables_32 : decode b_R_findVariables 32 = .ok (.aload_n 0, 1) := by decide +kernel
theorem d_R_findVariables_33 : decode b_R_findVariables 33 = .ok (.getfield 16, 3) := by decide +kernel
theorem d_R_findVariables_36 : decode b_R_findVariables 36 = .ok (.iload_n 2, 1) := by decide +kernel
theorem d_R_findVariables_37 : decode b_R_findVariables 37 = .ok (.invokevirtual 80, 3) := by decide +kernel
theorem d_R_findVariables_40 : decode b_R_findVariables 40 = .ok (.ifCond .eq 12, 3) := by decide +kernel
theorem d_R_findVariables_43 : decode b_R_findVariables 43 = .ok (.aload_n 0, 1) := by decide +kernel
theorem d_R_findVariables_44 : decode b_R_findVariables 44 = .ok (.getfield 16, 3) := by decide +kernel
theorem d_R_findVariables_47 : decode b_R_findVariables 47 = .ok (.iload_n 2, 1) := by decide +kernel
theorem d_R_findVariables_48 : decode b_R_findVariables 48 = .ok (.invokevirtual 84, 3) := by decide +kernel
theorem d_R_findVariables_51 : decode b_R_findVariables 51 = .ok (.istore_n 1, 1) := by decide +kernel
theorem d_R_findVariables_52 : decode b_R_findVariables 52 = .ok (.aload_n 0, 1) := by decide +kernel
theorem d_R_findVariables_53 : decode b_R_findVariables 53 = .ok (.iload_n 3, 1) := by decide +kernel
theorem d_R_findVariables_54 : decode b_R_findVariables 54 = .ok (.invokevirtual 88, 3) := by decide +kernel
theorem d_R_findVariables_57 : decode b_R_findVariables 57 = .ok (.ifCond .eq 5, 3) := by decide +kernel
theorem d_R_findVariables_60 : decode b_R_findVariables 60 = .ok (.iconst 0, 1) := by decide +kernel
theorem d_R_findVariables_61 : decode b_R_findVariables 61 = .ok (.ireturn, 1) := by decide +kernel
theorem d_R_findVariables_62 : decode b_R_findVariables 62 = .ok (.iload_n 3, 1) := by decide +kernel
theorem d_R_findVariables_63 : decode b_R_findVariables 63 = .ok (.invokestatic 34, 3) := by decide +kernel
theorem d_R_findVariables_66 : decode b_R_findVariables 66 = .ok (.ifCond .eq 22, 3) := by decide +kernel
theorem d_R_findVariables_69 : decode b_R_findVariables 69 = .ok (.aload_n 0, 1) := by decide +kernel
theorem d_R_findVariables_70 : decode b_R_findVariables 70 = .ok (.getfield 22, 3) := by decide +kernel
theorem d_R_findVariables_73 : decode b_R_findVariables 73 = .ok (.iload_n 3, 1) := by decide +kernel
theorem d_R_findVariables_74 : decode b_R_findVariables 74 = .ok (.bipush 97, 2) := by decide +kernel
theorem d_R_findVariables_76 : decode b_R_findVariables 76 = .ok (.isub, 1) := by decide +kernel
theorem d_R_findVariables_77 : decode b_R_findVariables 77 = .ok (.iload_n 2, 1) := by decide +kernel
theorem d_R_findVariables_78 : decode b_R_findVariables 78 = .ok (.iload_n 1, 1) := by decide +kernel
theorem d_R_findVariables_79 : decode b_R_findVariables 79 = .ok (.if_icmp .ge 7, 3) := by decide +kernel
theorem d_R_findVariables_82 : decode b_R_findVariables 82 = .ok (.iconst 2, 1) := by decide +kernel
theorem d_R_findVariables_83 : decode b_R_findVariables 83 = .ok (.goto 4, 3) := by decide +kernel
theorem d_R_findVariables_86 : decode b_R_findVariables 86 = .ok (.iconst 1, 1) := by decide +kernel
theorem d_R_findVariables_87 : decode b_R_findVariables 87 = .ok (.iastore, 1) := by decide +kernel
theorem d_R_findVariables_88 : decode b_R_findVariables 88 = .ok (.iinc 2 1, 3) := by decide +kernel
theorem d_R_findVariables_91 : decode b_R_findVariables 91 = .ok (.goto (-79), 3) := by decide +kernel
theorem d_R_findVariables_94 : decode b_R_findVariables 94 = .ok (.iconst 1, 1) := by decide +kernel
theorem d_R_findVariables_95 : decode b_R_findVariables 95 = .ok (.ireturn, 1) := by decide +kernel
theorem d_R_isVariable_0 : decode b_R_isVariable 0 = .ok (.iload_n 1, 1) := by decide +kernel
theorem d_R_isVariable_1 : decode b_R_isVariable 1 = .ok (.invokestatic 34, 3) := by decide +kernel
theorem d_R_isVariable_4 : decode b_R_isVariable 4 = .ok (.ifCond .eq 19, 3) := by decide +kernel
theorem d_R_isVariable_7 : decode b_R_isVariable 7 = .ok (.aload_n 0, 1) := by decide +kernel
theorem d_R_isVariable_8 : decode b_R_isVariable 8 = .ok (.getfield 22, 3) := by decide +kernel
theorem d_R_isVariable_11 : decode b_R_isVariable 11 = .ok (.iload_n 1, 1) := by decide +kernel
theorem d_R_isVariable_12 : decode b_R_isVariable 12 = .ok (.bipush 97, 2) := by decide +kernel
theorem d_R_isVariable_14 : decode b_R_isVariable 14 = .ok (.isub, 1) := by decide +kernel
theorem d_R_isVariable_15 : decode b_R_isVariable 15 = .ok (.iaload, 1) := by decide +kernel
theorem d_R_isVariable_16 : decode b_R_isVariable 16 = .ok (.ifCond .eq 7, 3) := by decide +kernel
theorem d_R_isVariable_19 : decode b_R_isVariable 19 = .ok (.iconst 1, 1) := by decide +kernel
theorem d_R_isVariable_20 : decode b_R_isVariable 20 = .ok (.goto 4, 3) := by decide +kernel
theorem d_R_isVariable_23 : decode b_R_isVariable 23 = .ok (.iconst 0, 1) := by decide +kernel
theorem d_R_isVariable_24 : decode b_R_isVariable 24 = .ok (.ireturn, 1) := by decide +kernel
theorem d_R_repeatsManys_0 : decode b_R_repeatsManys 0 = .ok (.iconst 0, 1) := by decide +kernel
theorem d_R_repeatsManys_1 : decode b_R_repeatsManys 1 = .ok (.istore_n 1, 1) := by decide +kernel
theorem d_R_repeatsManys_2 : decode b_R_repeatsManys 2 = .ok (.aload_n 0, 1) := by decide +kernel
theorem d_R_repeatsManys_3 : decode b_R_repeatsManys 3 = .ok (.getfield 26, 3) := by decide +kernel
theorem d_R_repeatsManys_6 : decode b_R_repeatsManys 6 = .ok (.istore_n 2, 1) := by decide +kernel
theorem d_R_repeatsManys_7 : decode b_R_repeatsManys 7 = .ok (.iload_n 2, 1) := by decide +kernel
theorem d_R_repeatsManys_8 : decode b_R_repeatsManys 8 = .ok (.aload_n 0, 1) := by decide +kernel
theorem d_R_repeatsManys_9 : decode b_R_repeatsManys 9 = .ok (.getfield 16, 3) := by decide +kernel
theorem d_R_repeatsManys_12 : decode b_R_repeatsManys 12 = .ok (.invokevirtual 61, 3) := by decide +kernel
theorem d_R_repeatsManys_15 : decode b_R_repeatsManys 15 = .ok (.if_icmp .ge 61, 3) := by decide +kernel
theorem d_R_repeatsManys_18 : decode b_R_repeatsManys 18 = .ok (.aload_n 0, 1) := by decide +kernel
theorem d_R_repeatsManys_19 : decode b_R_repeatsManys 19 = .ok (.getfield 16, 3) := by decide +kernel
theorem d_R_repeatsManys_22 : decode b_R_repeatsManys 22 = .ok (.iload_n 2, 1) := by decide +kernel
theorem d_R_repeatsManys_23 : decode b_R_repeatsManys 23 = .ok (.invokevirtual 80, 3) := by decide +kernel
theorem d_R_repeatsManys_26 : decode b_R_repeatsManys 26 = .ok (.ifCond .eq 22, 3) := by decide +kernel
theorem d_R_repeatsManys_29 : decode b_R_repeatsManys 29 = .ok (.aload_n 0, 1) := by decide +kernel
theorem d_R_repeatsManys_30 : decode b_R_repeatsManys 30 = .ok (.getfield 16, 3) := by decide +kernel
theorem d_R_repeatsManys_33 : decode b_R_repeatsManys 33 = .ok (.iload_n 2, 1) := by decide +kernel
theorem d_R_repeatsManys_34 : decode b_R_repeatsManys 34 = .ok (.invokevirtual 84, 3) := by decide +kernel
theorem d_R_repeatsManys_37 : decode b_R_repeatsManys 37 = .ok (.istore_n 1, 1) := by decide +kernel
theorem d_R_repeatsManys_38 : decode b_R_repeatsManys 38 = .ok (.aload_n 0, 1) := by decide +kernel
theorem d_R_repeatsManys_39 : decode b_R_repeatsManys 39 = .ok (.iload_n 2, 1) := by decide +kernel
theorem d_R_repeatsManys_40 : decode b_R_repeatsManys 40 = .ok (.invokevirtual 91, 3) := by decide +kernel
theorem d_R_repeatsManys_43 : decode b_R_repeatsManys 43 = .ok (.ifCond .ne 5, 3) := by decide +kernel
theorem d_R_repeatsManys_46 : decode b_R_repeatsManys 46 = .ok (.iconst 0, 1) := by decide +kernel
theorem d_R_repeatsManys_47 : decode b_R_repeatsManys 47 = .ok (.ireturn, 1) := by decide +kernel
theorem d_R_repeatsManys_48 : decode b_R_repeatsManys 48 = .ok (.aload_n 0, 1) := by decide +kernel
theorem d_R_repeatsManys_49 : decode b_R_repeatsManys 49 = .ok (.aload_n 0, 1) := by decide +kernel
theorem d_R_repeatsManys_50 : decode b_R_repeatsManys 50 = .ok (.getfield 16, 3) := by decide +kernel
theorem d_R_repeatsManys_53 : decode b_R_repeatsManys 53 = .ok (.iload_n 2, 1) := by decide +kernel
theorem d_R_repeatsManys_54 : decode b_R_repeatsManys 54 = .ok (.invokevirtual 30, 3) := by decide +kernel
theorem d_R_repeatsManys_57 : decode b_R_repeatsManys 57 = .ok (.invokevirtual 94, 3) := by decide +kernel
theorem d_R_repeatsManys_60 : decode b_R_repeatsManys 60 = .ok (.ifCond .eq 10, 3) := by decide +kernel
theorem d_R_repeatsManys_63 : decode b_R_repeatsManys 63 = .ok (.iload_n 2, 1) := by decide +kernel
theorem d_R_repeatsManys_64 : decode b_R_repeatsManys 64 = .ok (.iload_n 1, 1) := by decide +kernel
theorem d_R_repeatsManys_65 : decode b_R_repeatsManys 65 = .ok (.if_icmp .lt 5, 3) := by decide +kernel
theorem d_R_repeatsManys_68 : decode b_R_repeatsManys 68 = .ok (.iconst 0, 1) := by decide +kernel
theorem d_R_repeatsManys_69 : decode b_R_repeatsManys 69 = .ok (.ireturn, 1) := by decide +kernel
theorem d_R_repeatsManys_70 : decode b_R_repeatsManys 70 = .ok (.iinc 2 1, 3) := by decide +kernel
theorem d_R_repeatsManys_73 : decode b_R_repeatsManys 73 = .ok (.goto (-66), 3) := by decide +kernel
theorem d_R_repeatsManys_76 : decode b_R_repeatsManys 76 = .ok (.iconst 1, 1) := by decide +kernel
theorem d_R_repeatsManys_77 : decode b_R_repeatsManys 77 = .ok (.ireturn, 1) := by decide +kernel
theorem d_R_holdsMany_0 : decode b_R_holdsMany 0 = .ok (.iload_n 1, 1) := by decide +kernel
theorem d_R_holdsMany_1 : decode b_R_holdsMany 1 = .ok (.istore_n 2, 1) := by decide +kernel
theorem d_R_holdsMany_2 : decode b_R_holdsMany 2 = .ok (.iload_n 2, 1) := by decide +kernel
theorem d_R_holdsMany_3 : decode b_R_holdsMany 3 = .ok (.aload_n 0, 1) := by decide +kernel
theorem d_R_holdsMany_4 : decode b_R_holdsMany 4 = .ok (.getfield 16, 3) := by decide +kernel
theorem d_R_holdsMany_7 : decode b_R_holdsMany 7 = .ok (.iload_n 1, 1) := by decide +kernel
theorem d_R_holdsMany_8 : decode b_R_holdsMany 8 = .ok (.invokevirtual 84, 3) := by decide +kernel
theorem d_R_holdsMany_11 : decode b_R_holdsMany 11 = .ok (.if_icmp .ge 26, 3) := by decide +kernel
theorem d_R_holdsMany_14 : decode b_R_holdsMany 14 = .ok (.aload_n 0, 1) := by decide +kernel
theorem d_R_holdsMany_15 : decode b_R_holdsMany 15 = .ok (.aload_n 0, 1) := by decide +kernel
theorem d_R_holdsMany_16 : decode b_R_holdsMany 16 = .ok (.getfield 16, 3) := by decide +kernel
theorem d_R_holdsMany_19 : decode b_R_holdsMany 19 = .ok (.iload_n 2, 1) := by decide +kernel
theorem d_R_holdsMany_20 : decode b_R_holdsMany 20 = .ok (.invokevirtual 30, 3) := by decide +kernel
theorem d_R_holdsMany_23 : decode b_R_holdsMany 23 = .ok (.invokevirtual 94, 3) := by decide +kernel
theorem d_R_holdsMany_26 : decode b_R_holdsMany 26 = .ok (.ifCond .eq 5, 3) := by decide +kernel
theorem d_R_holdsMany_29 : decode b_R_holdsMany 29 = .ok (.iconst 1, 1) := by decide +kernel
theorem d_R_holdsMany_30 : decode b_R_holdsMany 30 = .ok (.ireturn, 1) := by decide +kernel
theorem d_R_holdsMany_31 : decode b_R_holdsMany 31 = .ok (.iinc 2 1, 3) := by decide +kernel
theorem d_R_holdsMany_34 : decode b_R_holdsMany 34 = .ok (.goto (-32), 3) := by decide +kernel
theorem d_R_holdsMany_37 : decode b_R_holdsMany 37 = .ok (.iconst 0, 1) := by decide +kernel
theorem d_R_holdsMany_38 : decode b_R_holdsMany 38 = .ok (.ireturn, 1) := by decide +kernel
theorem d_R_isMany_0 : decode b_R_isMany 0 = .ok (.iload_n 1, 1) := by decide +kernel
theorem d_R_isMany_1 : decode b_R_isMany 1 = .ok (.invokestatic 34, 3) := by decide +kernel
theorem d_R_isMany_4 : decode b_R_isMany 4 = .ok (.ifCond .eq 20, 3) := by decide +kernel
theorem d_R_isMany_7 : decode b_R_isMany 7 = .ok (.aload_n 0, 1) := by decide +kernel
theorem d_R_isMany_8 : decode b_R_isMany 8 = .ok (.getfield 22, 3) := by decide +kernel
theorem d_R_isMany_11 : decode b_R_isMany 11 = .ok (.iload_n 1, 1) := by decide +kernel
theorem d_R_isMany_12 : decode b_R_isMany 12 = .ok (.bipush 97, 2) := by decide +kernel
theorem d_R_isMany_14 : decode b_R_isMany 14 = .ok (.isub, 1) := by decide +kernel
theorem d_R_isMany_15 : decode b_R_isMany 15 = .ok (.iaload, 1) := by decide +kernel
theorem d_R_isMany_16 : decode b_R_isMany 16 = .ok (.iconst 2, 1) := by decide +kernel
theorem d_R_isMany_17 : decode b_R_isMany 17 = .ok (.if_icmp .ne 7, 3) := by decide +kernel
theorem d_R_isMany_20 : decode b_R_isMany 20 = .ok (.iconst 1, 1) := by decide +kernel
theorem d_R_isMany_21 : decode b_R_isMany 21 = .ok (.goto 4, 3) := by decide +kernel
theorem d_R_isMany_24 : decode b_R_isMany 24 = .ok (.iconst 0, 1) := by decide +kernel
theorem d_R_isMany_25 : decode b_R_isMany 25 = .ok (.ireturn, 1) := by decide +kernel
theorem d_B_keep_0 : decode b_B_keep 0 = .ok (.aload_n 0, 1) := by decide +kernel
theorem d_B_keep_1 : decode b_B_keep 1 = .ok (.getfield 11, 3) := by decide +kernel
theorem d_B_keep_4 : decode b_B_keep 4 = .ok (.aload_n 0, 1) := by decide +kernel
theorem d_B_keep_5 : decode b_B_keep 5 = .ok (.getfield 16, 3) := by decide +kernel
theorem d_B_keep_8 : decode b_B_keep 8 = .ok (.aaload, 1) := by decide +kernel
theorem d_B_keep_9 : decode b_B_keep 9 = .ok (.invokevirtual 24, 3) := by decide +kernel
theorem d_B_keep_12 : decode b_B_keep 12 = .ok (.istore_n 1, 1) := by decide +kernel
theorem d_B_keep_13 : decode b_B_keep 13 = .ok (.aload_n 0, 1) := by decide +kernel
theorem d_B_keep_14 : decode b_B_keep 14 = .ok (.dup, 1) := by decide +kernel
theorem d_B_keep_15 : decode b_B_keep 15 = .ok (.getfield 16, 3) := by decide +kernel
theorem d_B_keep_18 : decode b_B_keep 18 = .ok (.iconst 1, 1) := by decide +kernel
theorem d_B_keep_19 : decode b_B_keep 19 = .ok (.iadd, 1) := by decide +kernel
theorem d_B_keep_20 : decode b_B_keep 20 = .ok (.putfield 16, 3) := by decide +kernel
theorem d_B_keep_23 : decode b_B_keep 23 = .ok (.iconst 0, 1) := by decide +kernel
theorem d_B_keep_24 : decode b_B_keep 24 = .ok (.istore_n 2, 1) := by decide +kernel
theorem d_B_keep_25 : decode b_B_keep 25 = .ok (.iconst 0, 1) := by decide +kernel
theorem d_B_keep_26 : decode b_B_keep 26 = .ok (.istore_n 3, 1) := by decide +kernel
theorem d_B_keep_27 : decode b_B_keep 27 = .ok (.iload_n 3, 1) := by decide +kernel
theorem d_B_keep_28 : decode b_B_keep 28 = .ok (.aload_n 0, 1) := by decide +kernel
theorem d_B_keep_29 : decode b_B_keep 29 = .ok (.getfield 16, 3) := by decide +kernel
theorem d_B_keep_32 : decode b_B_keep 32 = .ok (.if_icmp .ge 25, 3) := by decide +kernel
theorem d_B_keep_35 : decode b_B_keep 35 = .ok (.aload_n 0, 1) := by decide +kernel
theorem d_B_keep_36 : decode b_B_keep 36 = .ok (.getfield 11, 3) := by decide +kernel
theorem d_B_keep_39 : decode b_B_keep 39 = .ok (.iload_n 3, 1) := by decide +kernel
theorem d_B_keep_40 : decode b_B_keep 40 = .ok (.aaload, 1) := by decide +kernel
theorem d_B_keep_41 : decode b_B_keep 41 = .ok (.invokevirtual 24, 3) := by decide +kernel
theorem d_B_keep_44 : decode b_B_keep 44 = .ok (.iload_n 1, 1) := by decide +kernel
theorem d_B_keep_45 : decode b_B_keep 45 = .ok (.if_icmp .ne 6, 3) := by decide +kernel
theorem d_B_keep_48 : decode b_B_keep 48 = .ok (.iinc 2 1, 3) := by decide +kernel
theorem d_B_keep_51 : decode b_B_keep 51 = .ok (.iinc 3 1, 3) := by decide +kernel
theorem d_B_keep_54 : decode b_B_keep 54 = .ok (.goto (-27), 3) := by decide +kernel
theorem d_B_keep_57 : decode b_B_keep 57 = .ok (.iload_n 2, 1) := by decide +kernel
theorem d_B_keep_58 : decode b_B_keep 58 = .ok (.ireturn, 1) := by decide +kernel
theorem d_E_run_0 : decode b_E_run 0 = .ok (.aload_n 0, 1) := by decide +kernel
theorem d_E_run_1 : decode b_E_run 1 = .ok (.aload_n 1, 1) := by decide +kernel
theorem d_E_run_2 : decode b_E_run 2 = .ok (.putfield 59, 3) := by decide +kernel
theorem d_E_run_5 : decode b_E_run 5 = .ok (.aload_n 0, 1) := by decide +kernel
theorem d_E_run_6 : decode b_E_run 6 = .ok (.iload_n 2, 1) := by decide +kernel
theorem d_E_run_7 : decode b_E_run 7 = .ok (.putfield 63, 3) := by decide +kernel
theorem d_E_run_10 : decode b_E_run 10 = .ok (.aload_n 0, 1) := by decide +kernel
theorem d_E_run_11 : decode b_E_run 11 = .ok (.iconst 0, 1) := by decide +kernel
theorem d_E_run_12 : decode b_E_run 12 = .ok (.putfield 42, 3) := by decide +kernel
theorem d_E_run_15 : decode b_E_run 15 = .ok (.aload_n 0, 1) := by decide +kernel
theorem d_E_run_16 : decode b_E_run 16 = .ok (.iconst 0, 1) := by decide +kernel
theorem d_E_run_17 : decode b_E_run 17 = .ok (.putfield 66, 3) := by decide +kernel
theorem d_E_run_20 : decode b_E_run 20 = .ok (.aload_n 0, 1) := by decide +kernel
theorem d_E_run_21 : decode b_E_run 21 = .ok (.getfield 30, 3) := by decide +kernel
theorem d_E_run_24 : decode b_E_run 24 = .ok (.invokevirtual 69, 3) := by decide +kernel
theorem d_E_run_27 : decode b_E_run 27 = .ok (.aload_n 0, 1) := by decide +kernel
theorem d_E_run_28 : decode b_E_run 28 = .ok (.iconst 0, 1) := by decide +kernel
theorem d_E_run_29 : decode b_E_run 29 = .ok (.iconst 1, 1) := by decide +kernel
theorem d_E_run_30 : decode b_E_run 30 = .ok (.invokevirtual 70, 3) := by decide +kernel
theorem d_E_run_33 : decode b_E_run 33 = .ok (.aload_n 0, 1) := by decide +kernel
theorem d_E_run_34 : decode b_E_run 34 = .ok (.getfield 30, 3) := by decide +kernel
theorem d_E_run_37 : decode b_E_run 37 = .ok (.invokevirtual 74, 3) := by decide +kernel
theorem d_E_run_40 : decode b_E_run 40 = .ok (.ireturn, 1) := by decide +kernel
theorem d_E_expression_0 : decode b_E_expression 0 = .ok (.iload_n 2, 1) := by decide +kernel
theorem d_E_expression_1 : decode b_E_expression 1 = .ok (.bipush 12, 2) := by decide +kernel
theorem d_E_expression_3 : decode b_E_expression 3 = .ok (.if_icmp .le 13, 3) := by decide +kernel
theorem d_E_expression_6 : decode b_E_expression 6 = .ok (.new 77, 3) := by decide +kernel
theorem d_E_expression_9 : decode b_E_expression 9 = .ok (.dup, 1) := by decide +kernel
theorem d_E_expression_10 : decode b_E_expression 10 = .ok (.ldc 79, 2) := by decide +kernel
theorem d_E_expression_12 : decode b_E_expression 12 = .ok (.invokespecial 81, 3) := by decide +kernel
theorem d_E_expression_15 : decode b_E_expression 15 = .ok (.athrow, 1) := by decide +kernel
theorem d_E_expression_16 : decode b_E_expression 16 = .ok (.iload_n 1, 1) := by decide +kernel
theorem d_E_expression_17 : decode b_E_expression 17 = .ok (.istore_n 3, 1) := by decide +kernel
theorem d_E_expression_18 : decode b_E_expression 18 = .ok (.iconst 0, 1) := by decide +kernel
theorem d_E_expression_19 : decode b_E_expression 19 = .ok (.istore 4, 2) := by decide +kernel
theorem d_E_expression_21 : decode b_E_expression 21 = .ok (.iload 4, 2) := by decide +kernel
theorem d_E_expression_23 : decode b_E_expression 23 = .ok (.bipush 12, 2) := by decide +kernel
theorem d_E_expression_25 : decode b_E_expression 25 = .ok (.if_icmp .gt 23, 3) := by decide +kernel
theorem d_E_expression_28 : decode b_E_expression 28 = .ok (.aload_n 0, 1) := by decide +kernel
theorem d_E_expression_29 : decode b_E_expression 29 = .ok (.iload_n 3, 1) := by decide +kernel
theorem d_E_expression_30 : decode b_E_expression 30 = .ok (.invokevirtual 84, 3) := by decide +kernel
theorem d_E_expression_33 : decode b_E_expression 33 = .ok (.ifCond .eq 15, 3) := by decide +kernel
theorem d_E_expression_36 : decode b_E_expression 36 = .ok (.aload_n 0, 1) := by decide +kernel
theorem d_E_expression_37 : decode b_E_expression 37 = .ok (.iload_n 3, 1) := by decide +kernel
theorem d_E_expression_38 : decode b_E_expression 38 = .ok (.invokevirtual 88, 3) := by decide +kernel
theorem d_E_expression_41 : decode b_E_expression 41 = .ok (.istore_n 3, 1) := by decide +kernel
theorem d_E_expression_42 : decode b_E_expression 42 = .ok (.iinc 4 1, 3) := by decide +kernel
theorem d_E_expression_45 : decode b_E_expression 45 = .ok (.goto (-24), 3) := by decide +kernel
theorem d_E_expression_48 : decode b_E_expression 48 = .ok (.aload_n 0, 1) := by decide +kernel
theorem d_E_expression_49 : decode b_E_expression 49 = .ok (.getfield 14, 3) := by decide +kernel
theorem d_E_expression_52 : decode b_E_expression 52 = .ok (.iload_n 3, 1) := by decide +kernel
theorem d_E_expression_53 : decode b_E_expression 53 = .ok (.invokevirtual 92, 3) := by decide +kernel
theorem d_E_expression_56 : decode b_E_expression 56 = .ok (.istore 4, 2) := by decide +kernel
theorem d_E_expression_58 : decode b_E_expression 58 = .ok (.iload 4, 2) := by decide +kernel
theorem d_E_expression_60 : decode b_E_expression 60 = .ok (.invokestatic 96, 3) := by decide +kernel
theorem d_E_expression_63 : decode b_E_expression 63 = .ok (.ifCond .eq 39, 3) := by decide +kernel
theorem d_E_expression_66 : decode b_E_expression 66 = .ok (.aload_n 0, 1) := by decide +kernel
theorem d_E_expression_67 : decode b_E_expression 67 = .ok (.iload_n 3, 1) := by decide +kernel
theorem d_E_expression_68 : decode b_E_expression 68 = .ok (.invokevirtual 100, 3) := by decide +kernel
theorem d_E_expression_71 : decode b_E_expression 71 = .ok (.istore 5, 2) := by decide +kernel
theorem d_E_expression_73 : decode b_E_expression 73 = .ok (.aload_n 0, 1) := by decide +kernel
theorem d_E_expression_74 : decode b_E_expression 74 = .ok (.getfield 30, 3) := by decide +kernel
theorem d_E_expression_77 : decode b_E_expression 77 = .ok (.iload 5, 2) := by decide +kernel
theorem d_E_expression_79 : decode b_E_expression 79 = .ok (.ifCond .ge 11, 3) := by decide +kernel
theorem d_E_expression_82 : decode b_E_expression 82 = .ok (.iload 4, 2) := by decide +kernel
theorem d_E_expression_84 : decode b_E_expression 84 = .ok (.invokestatic 103, 3) := by decide +kernel
theorem d_E_expression_87 : decode b_E_expression 87 = .ok (.goto 9, 3) := by decide +kernel
theorem d_E_expression_90 : decode b_E_expression 90 = .ok (.sipush 200, 3) := by decide +kernel
theorem d_E_expression_93 : decode b_E_expression 93 = .ok (.iload 5, 2) := by decide +kernel
theorem d_E_expression_95 : decode b_E_expression 95 = .ok (.iadd, 1) := by decide +kernel
theorem d_E_expression_96 : decode b_E_expression 96 = .ok (.invokevirtual 107, 3) := by decide +kernel
theorem d_E_expression_99 : decode b_E_expression 99 = .ok (.goto 32, 3) := by decide +kernel
theorem d_E_expression_102 : decode b_E_expression 102 = .ok (.iload 4, 2) := by decide +kernel
theorem d_E_expression_104 : decode b_E_expression 104 = .ok (.invokestatic 110, 3) := by decide +kernel
theorem d_E_expression_107 : decode b_E_expression 107 = .ok (.ifCond .eq 18, 3) := by decide +kernel
theorem d_E_expression_110 : decode b_E_expression 110 = .ok (.aload_n 0, 1) := by decide +kernel
theorem d_E_expression_111 : decode b_E_expression 111 = .ok (.getfield 30, 3) := by decide +kernel
theorem d_E_expression_114 : decode b_E_expression 114 = .ok (.iload 4, 2) := by decide +kernel
theorem d_E_expression_116 : decode b_E_expression 116 = .ok (.invokestatic 113, 3) := by decide +kernel
theorem d_E_expression_119 : decode b_E_expression 119 = .ok (.invokevirtual 107, 3) := by decide +kernel
theorem d_E_expression_122 : decode b_E_expression 122 = .ok (.goto 9, 3) := by decide +kernel
theorem d_E_expression_125 : decode b_E_expression 125 = .ok (.aload_n 0, 1) := by decide +kernel
theorem d_E_expression_126 : decode b_E_expression 126 = .ok (.iload_n 3, 1) := by decide +kernel
theorem d_E_expression_127 : decode b_E_expression 127 = .ok (.iload_n 2, 1) := by decide +kernel
theorem d_E_expression_128 : decode b_E_expression 128 = .ok (.invokevirtual 116, 3) := by decide +kernel
theorem d_E_expression_131 : decode b_E_expression 131 = .ok (.return_, 1) := by decide +kernel
theorem d_E_isUse_0 : decode b_E_isUse 0 = .ok (.aload_n 0, 1) := by decide +kernel
theorem d_E_isUse_1 : decode b_E_isUse 1 = .ok (.getfield 14, 3) := by decide +kernel
theorem d_E_isUse_4 : decode b_E_isUse 4 = .ok (.iload_n 1, 1) := by decide +kernel
theorem d_E_isUse_5 : decode b_E_isUse 5 = .ok (.invokevirtual 137, 3) := by decide +kernel
theorem d_E_isUse_8 : decode b_E_isUse 8 = .ok (.ifCond .ne 5, 3) := by decide +kernel
theorem d_E_isUse_11 : decode b_E_isUse 11 = .ok (.iconst 0, 1) := by decide +kernel
theorem d_E_isUse_12 : decode b_E_isUse 12 = .ok (.ireturn, 1) := by decide +kernel
theorem d_E_isUse_13 : decode b_E_isUse 13 = .ok (.iload_n 1, 1) := by decide +kernel
theorem d_E_isUse_14 : decode b_E_isUse 14 = .ok (.iconst 1, 1) := by decide +kernel
theorem d_E_isUse_15 : decode b_E_isUse 15 = .ok (.iadd, 1) := by decide +kernel
theorem d_E_isUse_16 : decode b_E_isUse 16 = .ok (.istore_n 2, 1) := by decide +kernel
theorem d_E_isUse_17 : decode b_E_isUse 17 = .ok (.aload_n 0, 1) := by decide +kernel
theorem d_E_isUse_18 : decode b_E_isUse 18 = .ok (.getfield 14, 3) := by decide +kernel
theorem d_E_isUse_21 : decode b_E_isUse 21 = .ok (.iload_n 2, 1) := by decide +kernel
theorem d_E_isUse_22 : decode b_E_isUse 22 = .ok (.invokevirtual 92, 3) := by decide +kernel
theorem d_E_isUse_25 : decode b_E_isUse 25 = .ok (.invokestatic 96, 3) := by decide +kernel
theorem d_E_isUse_28 : decode b_E_isUse 28 = .ok (.ifCond .eq 33, 3) := by decide +kernel
theorem d_E_isUse_31 : decode b_E_isUse 31 = .ok (.aload_n 0, 1) := by decide +kernel
theorem d_E_isUse_32 : decode b_E_isUse 32 = .ok (.getfield 59, 3) := by decide +kernel
theorem d_E_isUse_35 : decode b_E_isUse 35 = .ok (.aload_n 0, 1) := by decide +kernel
theorem d_E_isUse_36 : decode b_E_isUse 36 = .ok (.getfield 14, 3) := by decide +kernel
theorem d_E_isUse_39 : decode b_E_isUse 39 = .ok (.iload_n 2, 1) := by decide +kernel
theorem d_E_isUse_40 : decode b_E_isUse 40 = .ok (.invokevirtual 92, 3) := by decide +kernel
theorem d_E_isUse_43 : decode b_E_isUse 43 = .ok (.invokevirtual 149, 3) := by decide +kernel
theorem d_E_isUse_46 : decode b_E_isUse 46 = .ok (.ifCond .eq 15, 3) := by decide +kernel
theorem d_E_isUse_49 : decode b_E_isUse 49 = .ok (.aload_n 0, 1) := by decide +kernel
theorem d_E_isUse_50 : decode b_E_isUse 50 = .ok (.iload_n 2, 1) := by decide +kernel
theorem d_E_isUse_51 : decode b_E_isUse 51 = .ok (.invokevirtual 100, 3) := by decide +kernel
theorem d_E_isUse_54 : decode b_E_isUse 54 = .ok (.ifCond .ge 7, 3) := by decide +kernel
theorem d_E_isUse_57 : decode b_E_isUse 57 = .ok (.iconst 1, 1) := by decide +kernel
theorem d_E_isUse_58 : decode b_E_isUse 58 = .ok (.goto 4, 3) := by decide +kernel
theorem d_E_isUse_61 : decode b_E_isUse 61 = .ok (.iconst 0, 1) := by decide +kernel
theorem d_E_isUse_62 : decode b_E_isUse 62 = .ok (.ireturn, 1) := by decide +kernel
theorem d_B_hasMacro_0 : decode b_B_hasMacro 0 = .ok (.iconst 0, 1) := by decide +kernel
theorem d_B_hasMacro_1 : decode b_B_hasMacro 1 = .ok (.istore_n 2, 1) := by decide +kernel
theorem d_B_hasMacro_2 : decode b_B_hasMacro 2 = .ok (.iload_n 2, 1) := by decide +kernel
theorem d_B_hasMacro_3 : decode b_B_hasMacro 3 = .ok (.aload_n 0, 1) := by decide +kernel
theorem d_B_hasMacro_4 : decode b_B_hasMacro 4 = .ok (.getfield 16, 3) := by decide +kernel
theorem d_B_hasMacro_7 : decode b_B_hasMacro 7 = .ok (.if_icmp .ge 24, 3) := by decide +kernel
theorem d_B_hasMacro_10 : decode b_B_hasMacro 10 = .ok (.aload_n 0, 1) := by decide +kernel
theorem d_B_hasMacro_11 : decode b_B_hasMacro 11 = .ok (.getfield 11, 3) := by decide +kernel
theorem d_B_hasMacro_14 : decode b_B_hasMacro 14 = .ok (.iload_n 2, 1) := by decide +kernel
theorem d_B_hasMacro_15 : decode b_B_hasMacro 15 = .ok (.aaload, 1) := by decide +kernel
theorem d_B_hasMacro_16 : decode b_B_hasMacro 16 = .ok (.invokevirtual 24, 3) := by decide +kernel
theorem d_B_hasMacro_19 : decode b_B_hasMacro 19 = .ok (.iload_n 1, 1) := by decide +kernel
theorem d_B_hasMacro_20 : decode b_B_hasMacro 20 = .ok (.if_icmp .ne 5, 3) := by decide +kernel
theorem d_B_hasMacro_23 : decode b_B_hasMacro 23 = .ok (.iconst 1, 1) := by decide +kernel
theorem d_B_hasMacro_24 : decode b_B_hasMacro 24 = .ok (.ireturn, 1) := by decide +kernel
theorem d_B_hasMacro_25 : decode b_B_hasMacro 25 = .ok (.iinc 2 1, 3) := by decide +kernel
theorem d_B_hasMacro_28 : decode b_B_hasMacro 28 = .ok (.goto (-26), 3) := by decide +kernel
theorem d_B_hasMacro_31 : decode b_B_hasMacro 31 = .ok (.iconst 0, 1) := by decide +kernel
theorem d_B_hasMacro_32 : decode b_B_hasMacro 32 = .ok (.ireturn, 1) := by decide +kernel
theorem d_E_levelOf_0 : decode b_E_levelOf 0 = .ok (.aload_n 0, 1) := by decide +kernel
theorem d_E_levelOf_1 : decode b_E_levelOf 1 = .ok (.getfield 66, 3) := by decide +kernel
theorem d_E_levelOf_4 : decode b_E_levelOf 4 = .ok (.iconst 1, 1) := by decide +kernel
theorem d_E_levelOf_5 : decode b_E_levelOf 5 = .ok (.isub, 1) := by decide +kernel
theorem d_E_levelOf_6 : decode b_E_levelOf 6 = .ok (.istore_n 2, 1) := by decide +kernel
theorem d_E_levelOf_7 : decode b_E_levelOf 7 = .ok (.iload_n 2, 1) := by decide +kernel
theorem d_E_levelOf_8 : decode b_E_levelOf 8 = .ok (.ifCond .lt 45, 3) := by decide +kernel
theorem d_E_levelOf_11 : decode b_E_levelOf 11 = .ok (.aload_n 0, 1) := by decide +kernel
theorem d_E_levelOf_12 : decode b_E_levelOf 12 = .ok (.getfield 34, 3) := by decide +kernel
theorem d_E_levelOf_15 : decode b_E_levelOf 15 = .ok (.iload_n 2, 1) := by decide +kernel
theorem d_E_levelOf_16 : decode b_E_levelOf 16 = .ok (.caload, 1) := by decide +kernel
theorem d_E_levelOf_17 : decode b_E_levelOf 17 = .ok (.aload_n 0, 1) := by decide +kernel
theorem d_E_levelOf_18 : decode b_E_levelOf 18 = .ok (.getfield 14, 3) := by decide +kernel
theorem d_E_levelOf_21 : decode b_E_levelOf 21 = .ok (.iload_n 1, 1) := by decide +kernel
theorem d_E_levelOf_22 : decode b_E_levelOf 22 = .ok (.invokevirtual 92, 3) := by decide +kernel
theorem d_E_levelOf_25 : decode b_E_levelOf 25 = .ok (.if_icmp .ne 22, 3) := by decide +kernel
theorem d_E_levelOf_28 : decode b_E_levelOf 28 = .ok (.aload_n 0, 1) := by decide +kernel
theorem d_E_levelOf_29 : decode b_E_levelOf 29 = .ok (.getfield 38, 3) := by decide +kernel
theorem d_E_levelOf_32 : decode b_E_levelOf 32 = .ok (.iload_n 2, 1) := by decide +kernel
theorem d_E_levelOf_33 : decode b_E_levelOf 33 = .ok (.iaload, 1) := by decide +kernel
theorem d_E_levelOf_34 : decode b_E_levelOf 34 = .ok (.aload_n 0, 1) := by decide +kernel
theorem d_E_levelOf_35 : decode b_E_levelOf 35 = .ok (.getfield 14, 3) := by decide +kernel
theorem d_E_levelOf_38 : decode b_E_levelOf 38 = .ok (.iload_n 1, 1) := by decide +kernel
theorem d_E_levelOf_39 : decode b_E_levelOf 39 = .ok (.invokevirtual 146, 3) := by decide +kernel
theorem d_E_levelOf_42 : decode b_E_levelOf 42 = .ok (.if_icmp .ne 5, 3) := by decide +kernel
theorem d_E_levelOf_45 : decode b_E_levelOf 45 = .ok (.iload_n 2, 1) := by decide +kernel
theorem d_E_levelOf_46 : decode b_E_levelOf 46 = .ok (.ireturn, 1) := by decide +kernel
theorem d_E_levelOf_47 : decode b_E_levelOf 47 = .ok (.iinc 2 (-1), 3) := by decide +kernel
theorem d_E_levelOf_50 : decode b_E_levelOf 50 = .ok (.goto (-43), 3) := by decide +kernel
theorem d_E_levelOf_53 : decode b_E_levelOf 53 = .ok (.iconst (-1), 1) := by decide +kernel
theorem d_E_levelOf_54 : decode b_E_levelOf 54 = .ok (.ireturn, 1) := by decide +kernel
theorem d_E_replace_0 : decode b_E_replace 0 = .ok (.aload_n 0, 1) := by decide +kernel
theorem d_E_replace_1 : decode b_E_replace 1 = .ok (.getfield 42, 3) := by decide +kernel
theorem d_E_replace_4 : decode b_E_replace 4 = .ok (.aload_n 0, 1) := by decide +kernel
theorem d_E_replace_5 : decode b_E_replace 5 = .ok (.getfield 63, 3) := by decide +kernel
theorem d_E_replace_8 : decode b_E_replace 8 = .ok (.if_icmp .lt 13, 3) := by decide +kernel
theorem d_E_replace_11 : decode b_E_replace 11 = .ok (.new 77, 3) := by decide +kernel
theorem d_E_replace_14 : decode b_E_replace 14 = .ok (.dup, 1) := by decide +kernel
theorem d_E_replace_15 : decode b_E_replace 15 = .ok (.ldc 154, 2) := by decide +kernel
theorem d_E_replace_17 : decode b_E_replace 17 = .ok (.invokespecial 81, 3) := by decide +kernel
theorem d_E_replace_20 : decode b_E_replace 20 = .ok (.athrow, 1) := by decide +kernel
theorem d_E_replace_21 : decode b_E_replace 21 = .ok (.aload_n 0, 1) := by decide +kernel
theorem d_E_replace_22 : decode b_E_replace 22 = .ok (.iload_n 1, 1) := by decide +kernel
theorem d_E_replace_23 : decode b_E_replace 23 = .ok (.invokevirtual 156, 3) := by decide +kernel
theorem d_E_replace_26 : decode b_E_replace 26 = .ok (.astore_n 2, 1) := by decide +kernel
theorem d_E_replace_27 : decode b_E_replace 27 = .ok (.aload_n 2, 1) := by decide +kernel
theorem d_E_replace_28 : decode b_E_replace 28 = .ok (.ifnull 14, 3) := by decide +kernel
theorem d_E_replace_31 : decode b_E_replace 31 = .ok (.aload_n 0, 1) := by decide +kernel
theorem d_E_replace_32 : decode b_E_replace 32 = .ok (.getfield 23, 3) := by decide +kernel
theorem d_E_replace_35 : decode b_E_replace 35 = .ok (.aload_n 2, 1) := by decide +kernel
theorem d_E_replace_36 : decode b_E_replace 36 = .ok (.invokevirtual 160, 3) := by decide +kernel
theorem d_E_replace_39 : decode b_E_replace 39 = .ok (.ifCond .ne 13, 3) := by decide +kernel
theorem d_E_replace_42 : decode b_E_replace 42 = .ok (.new 122, 3) := by decide +kernel
theorem d_E_replace_45 : decode b_E_replace 45 = .ok (.dup, 1) := by decide +kernel
theorem d_E_replace_46 : decode b_E_replace 46 = .ok (.ldc 164, 2) := by decide +kernel
theorem d_E_replace_48 : decode b_E_replace 48 = .ok (.invokespecial 126, 3) := by decide +kernel
theorem d_E_replace_51 : decode b_E_replace 51 = .ok (.athrow, 1) := by decide +kernel
theorem d_E_replace_52 : decode b_E_replace 52 = .ok (.aload_n 0, 1) := by decide +kernel
theorem d_E_replace_53 : decode b_E_replace 53 = .ok (.getfield 14, 3) := by decide +kernel
theorem d_E_replace_56 : decode b_E_replace 56 = .ok (.bipush 12, 2) := by decide +kernel
theorem d_E_replace_58 : decode b_E_replace 58 = .ok (.invokevirtual 166, 3) := by decide +kernel
theorem d_E_replace_61 : decode b_E_replace 61 = .ok (.istore_n 3, 1) := by decide +kernel
theorem d_E_replace_62 : decode b_E_replace 62 = .ok (.aload_n 0, 1) := by decide +kernel
theorem d_E_replace_63 : decode b_E_replace 63 = .ok (.aload_n 2, 1) := by decide +kernel
theorem d_E_replace_64 : decode b_E_replace 64 = .ok (.aload_n 2, 1) := by decide +kernel
theorem d_E_replace_65 : decode b_E_replace 65 = .ok (.invokevirtual 169, 3) := by decide +kernel
theorem d_E_replace_68 : decode b_E_replace 68 = .ok (.iconst 0, 1) := by decide +kernel
theorem d_E_replace_69 : decode b_E_replace 69 = .ok (.invokevirtual 174, 3) := by decide +kernel
theorem d_E_replace_72 : decode b_E_replace 72 = .ok (.ifCond .ne 13, 3) := by decide +kernel
theorem d_E_replace_75 : decode b_E_replace 75 = .ok (.new 77, 3) := by decide +kernel
theorem d_E_replace_78 : decode b_E_replace 78 = .ok (.dup, 1) := by decide +kernel
theorem d_E_replace_79 : decode b_E_replace 79 = .ok (.ldc 178, 2) := by decide +kernel
theorem d_E_replace_81 : decode b_E_replace 81 = .ok (.invokespecial 81, 3) := by decide +kernel
theorem d_E_replace_84 : decode b_E_replace 84 = .ok (.athrow, 1) := by decide +kernel
theorem d_E_replace_85 : decode b_E_replace 85 = .ok (.aload_n 0, 1) := by decide +kernel
theorem d_E_replace_86 : decode b_E_replace 86 = .ok (.dup, 1) := by decide +kernel
theorem d_E_replace_87 : decode b_E_replace 87 = .ok (.getfield 42, 3) := by decide +kernel
theorem d_E_replace_90 : decode b_E_replace 90 = .ok (.iconst 1, 1) := by decide +kernel
theorem d_E_replace_91 : decode b_E_replace 91 = .ok (.iadd, 1) := by decide +kernel
theorem d_E_replace_92 : decode b_E_replace 92 = .ok (.putfield 42, 3) := by decide +kernel
theorem d_E_replace_95 : decode b_E_replace 95 = .ok (.iload_n 3, 1) := by decide +kernel
theorem d_E_replace_96 : decode b_E_replace 96 = .ok (.ireturn, 1) := by decide +kernel
theorem d_E_firstFit_0 : decode b_E_firstFit 0 = .ok (.aload_n 0, 1) := by decide +kernel
theorem d_E_firstFit_1 : decode b_E_firstFit 1 = .ok (.getfield 14, 3) := by decide +kernel
theorem d_E_firstFit_4 : decode b_E_firstFit 4 = .ok (.iload_n 1, 1) := by decide +kernel
theorem d_E_firstFit_5 : decode b_E_firstFit 5 = .ok (.iconst 1, 1) := by decide +kernel
theorem d_E_firstFit_6 : decode b_E_firstFit 6 = .ok (.iadd, 1) := by decide +kernel
theorem d_E_firstFit_7 : decode b_E_firstFit 7 = .ok (.invokevirtual 92, 3) := by decide +kernel
theorem d_E_firstFit_10 : decode b_E_firstFit 10 = .ok (.istore_n 2, 1) := by decide +kernel
theorem d_E_firstFit_11 : decode b_E_firstFit 11 = .ok (.iconst 0, 1) := by decide +kernel
theorem d_E_firstFit_12 : decode b_E_firstFit 12 = .ok (.istore_n 3, 1) := by decide +kernel
theorem d_E_firstFit_13 : decode b_E_firstFit 13 = .ok (.iload_n 3, 1) := by decide +kernel
theorem d_E_firstFit_14 : decode b_E_firstFit 14 = .ok (.aload_n 0, 1) := by decide +kernel
theorem d_E_firstFit_15 : decode b_E_firstFit 15 = .ok (.getfield 59, 3) := by decide +kernel
theorem d_E_firstFit_18 : decode b_E_firstFit 18 = .ok (.invokevirtual 180, 3) := by decide +kernel
theorem d_E_firstFit_21 : decode b_E_firstFit 21 = .ok (.if_icmp .ge 48, 3) := by decide +kernel
theorem d_E_firstFit_24 : decode b_E_firstFit 24 = .ok (.aload_n 0, 1) := by decide +kernel
theorem d_E_firstFit_25 : decode b_E_firstFit 25 = .ok (.getfield 59, 3) := by decide +kernel
theorem d_E_firstFit_28 : decode b_E_firstFit 28 = .ok (.iload_n 3, 1) := by decide +kernel
theorem d_E_firstFit_29 : decode b_E_firstFit 29 = .ok (.invokevirtual 183, 3) := by decide +kernel
theorem d_E_firstFit_32 : decode b_E_firstFit 32 = .ok (.astore 4, 2) := by decide +kernel
theorem d_E_firstFit_34 : decode b_E_firstFit 34 = .ok (.aload 4, 2) := by decide +kernel
theorem d_E_firstFit_36 : decode b_E_firstFit 36 = .ok (.invokevirtual 186, 3) := by decide +kernel
theorem d_E_firstFit_39 : decode b_E_firstFit 39 = .ok (.iload_n 2, 1) := by decide +kernel
theorem d_E_firstFit_40 : decode b_E_firstFit 40 = .ok (.if_icmp .ne 23, 3) := by decide +kernel
theorem d_E_firstFit_43 : decode b_E_firstFit 43 = .ok (.aload_n 0, 1) := by decide +kernel
theorem d_E_firstFit_44 : decode b_E_firstFit 44 = .ok (.getfield 23, 3) := by decide +kernel
theorem d_E_firstFit_47 : decode b_E_firstFit 47 = .ok (.aload 4, 2) := by decide +kernel
theorem d_E_firstFit_49 : decode b_E_firstFit 49 = .ok (.aload_n 0, 1) := by decide +kernel
theorem d_E_firstFit_50 : decode b_E_firstFit 50 = .ok (.getfield 14, 3) := by decide +kernel
theorem d_E_firstFit_53 : decode b_E_firstFit 53 = .ok (.iload_n 1, 1) := by decide +kernel
theorem d_E_firstFit_54 : decode b_E_firstFit 54 = .ok (.invokevirtual 190, 3) := by decide +kernel
theorem d_E_firstFit_57 : decode b_E_firstFit 57 = .ok (.ifCond .eq 6, 3) := by decide +kernel
theorem d_E_firstFit_60 : decode b_E_firstFit 60 = .ok (.aload 4, 2) := by decide +kernel
theorem d_E_firstFit_62 : decode b_E_firstFit 62 = .ok (.areturn, 1) := by decide +kernel
theorem d_E_firstFit_63 : decode b_E_firstFit 63 = .ok (.iinc 3 1, 3) := by decide +kernel
theorem d_E_firstFit_66 : decode b_E_firstFit 66 = .ok (.goto (-53), 3) := by decide +kernel
theorem d_E_firstFit_69 : decode b_E_firstFit 69 = .ok (.aconst_null, 1) := by decide +kernel
theorem d_E_firstFit_70 : decode b_E_firstFit 70 = .ok (.areturn, 1) := by decide +kernel
theorem d_M_fits_0 : decode b_M_fits 0 = .ok (.aload_n 0, 1) := by decide +kernel
theorem d_M_fits_1 : decode b_M_fits 1 = .ok (.getfield 18, 3) := by decide +kernel
theorem d_M_fits_4 : decode b_M_fits 4 = .ok (.iconst 0, 1) := by decide +kernel
theorem d_M_fits_5 : decode b_M_fits 5 = .ok (.invokestatic 22, 3) := by decide +kernel
theorem d_M_fits_8 : decode b_M_fits 8 = .ok (.aload_n 0, 1) := by decide +kernel
theorem d_M_fits_9 : decode b_M_fits 9 = .ok (.aload_n 1, 1) := by decide +kernel
theorem d_M_fits_10 : decode b_M_fits 10 = .ok (.invokevirtual 28, 3) := by decide +kernel
theorem d_M_fits_13 : decode b_M_fits 13 = .ok (.iconst 0, 1) := by decide +kernel
